/-- a fact that omega doesn't see before it is asked for -/
def FF (p : Prop) : Prop := p
theorem FF.mk {p : Prop} (h : p) : FF p := h
theorem FF.out {p : Prop} (h : FF p) : p := h
