/**
 * What does not come from this project: WORDS as an assembler for RISC-V (GNU as) makes them, what a machine for RISC-V
 * (QEMU) made of them, and of INSTRUCTIONS the WORDS that the assembler makes of what the document says, written as a
 * text (promises 12 to 15, 17).
 */
public final class ManualTest {
    // The text; the WORD; x5; x6; what x7 becomes. A WORD that goes is ahead of one that makes x7 1; a WORD that stores
    // is behind two that store x5 and x6 at -64 and -56, and ahead of one that loads x7 from -64.
    private static final String[] MADE = {
        "add x7,x5,x6 006283b3 8000000000000000 ffffffffffffffff 7fffffffffffffff",
        "add x7,x5,x6 006283b3 5 40 45",
        "add x7,x5,x6 006283b3 ffffffff00000000 100000007 7",
        "add x7,x5,x6 006283b3 ffffffffffffffff 1 0",
        "add x7,x5,x6 006283b3 8000000080000003 21 8000000080000024",
        "add x7,x5,x6 006283b3 fffffffffffffff9 3 fffffffffffffffc",
        "sub x7,x5,x6 406283b3 80000000 ffffffff ffffffff80000001",
        "sub x7,x5,x6 406283b3 5 40 ffffffffffffffc5",
        "sub x7,x5,x6 406283b3 123456789abcdef0 fedcba987654321f 13579be02468acd1",
        "sub x7,x5,x6 406283b3 1 ffffffffffffffff 2",
        "sub x7,x5,x6 406283b3 8000000080000003 21 800000007fffffe2",
        "sub x7,x5,x6 406283b3 fffffffffffffff9 3 fffffffffffffff6",
        "sll x7,x5,x6 006293b3 5 40 5",
        "sll x7,x5,x6 006293b3 0 0 0",
        "sll x7,x5,x6 006293b3 123456789abcdef0 fedcba987654321f 4d5e6f7800000000",
        "sll x7,x5,x6 006293b3 7fffffffffffffff 8000000000000000 7fffffffffffffff",
        "sll x7,x5,x6 006293b3 8000000080000003 21 600000000",
        "sll x7,x5,x6 006293b3 fffffffffffffff9 3 ffffffffffffffc8",
        "slt x7,x5,x6 0062a3b3 ffffffff00000000 100000007 1",
        "slt x7,x5,x6 0062a3b3 8000000000000000 ffffffffffffffff 1",
        "slt x7,x5,x6 0062a3b3 5 40 1",
        "slt x7,x5,x6 0062a3b3 123456789abcdef0 fedcba987654321f 0",
        "slt x7,x5,x6 0062a3b3 8000000080000003 21 1",
        "slt x7,x5,x6 0062a3b3 fffffffffffffff9 3 1",
        "sltu x7,x5,x6 0062b3b3 ffffffff00000000 100000007 0",
        "sltu x7,x5,x6 0062b3b3 8000000000000001 20 0",
        "sltu x7,x5,x6 0062b3b3 123456789abcdef0 fedcba987654321f 1",
        "sltu x7,x5,x6 0062b3b3 7fffffff 80000000 1",
        "sltu x7,x5,x6 0062b3b3 8000000080000003 21 0",
        "sltu x7,x5,x6 0062b3b3 fffffffffffffff9 3 0",
        "xor x7,x5,x6 0062c3b3 8000000000000001 20 8000000000000021",
        "xor x7,x5,x6 0062c3b3 ffffffffffffffff 1 fffffffffffffffe",
        "xor x7,x5,x6 0062c3b3 8000000000000000 ffffffffffffffff 7fffffffffffffff",
        "xor x7,x5,x6 0062c3b3 5 40 45",
        "xor x7,x5,x6 0062c3b3 8000000080000003 21 8000000080000022",
        "xor x7,x5,x6 0062c3b3 fffffffffffffff9 3 fffffffffffffffa",
        "srl x7,x5,x6 0062d3b3 ffffffff00000000 100000007 1fffffffe000000",
        "srl x7,x5,x6 0062d3b3 7fffffff 80000000 7fffffff",
        "srl x7,x5,x6 0062d3b3 0 0 0",
        "srl x7,x5,x6 0062d3b3 1 ffffffffffffffff 0",
        "srl x7,x5,x6 0062d3b3 8000000080000003 21 40000000",
        "srl x7,x5,x6 0062d3b3 fffffffffffffff9 3 1fffffffffffffff",
        "sra x7,x5,x6 4062d3b3 ffffffffffffffff 1 ffffffffffffffff",
        "sra x7,x5,x6 4062d3b3 5 40 5",
        "sra x7,x5,x6 4062d3b3 0 0 0",
        "sra x7,x5,x6 4062d3b3 7fffffffffffffff 8000000000000000 7fffffffffffffff",
        "sra x7,x5,x6 4062d3b3 8000000080000003 21 ffffffffc0000000",
        "sra x7,x5,x6 4062d3b3 fffffffffffffff9 3 ffffffffffffffff",
        "or x7,x5,x6 0062e3b3 0 0 0",
        "or x7,x5,x6 0062e3b3 7fffffffffffffff 8000000000000000 ffffffffffffffff",
        "or x7,x5,x6 0062e3b3 123456789abcdef0 fedcba987654321f fefcfef8fefcfeff",
        "or x7,x5,x6 0062e3b3 7fffffff 80000000 ffffffff",
        "or x7,x5,x6 0062e3b3 8000000080000003 21 8000000080000023",
        "or x7,x5,x6 0062e3b3 fffffffffffffff9 3 fffffffffffffffb",
        "and x7,x5,x6 0062f3b3 7fffffff 80000000 0",
        "and x7,x5,x6 0062f3b3 8000000000000001 20 0",
        "and x7,x5,x6 0062f3b3 123456789abcdef0 fedcba987654321f 1214121812141210",
        "and x7,x5,x6 0062f3b3 ffffffffffffffff 1 1",
        "and x7,x5,x6 0062f3b3 8000000080000003 21 1",
        "and x7,x5,x6 0062f3b3 fffffffffffffff9 3 1",
        "mul x7,x5,x6 026283b3 80000000 ffffffff 7fffffff80000000",
        "mul x7,x5,x6 026283b3 1 ffffffffffffffff ffffffffffffffff",
        "mul x7,x5,x6 026283b3 0 0 0",
        "mul x7,x5,x6 026283b3 ffffffffffffffff 1 ffffffffffffffff",
        "mul x7,x5,x6 026283b3 8000000080000003 21 8000001080000063",
        "mul x7,x5,x6 026283b3 fffffffffffffff9 3 ffffffffffffffeb",
        "divu x7,x5,x6 0262d3b3 123456789abcdef0 fedcba987654321f 0",
        "divu x7,x5,x6 0262d3b3 8000000000000000 ffffffffffffffff 0",
        "divu x7,x5,x6 0262d3b3 7fffffffffffffff 8000000000000000 0",
        "divu x7,x5,x6 0262d3b3 7fffffff 80000000 0",
        "divu x7,x5,x6 0262d3b3 7 0 ffffffffffffffff",
        "divu x7,x5,x6 0262d3b3 8000000080000003 21 3e0f83e1364d936",
        "divu x7,x5,x6 0262d3b3 fffffffffffffff9 3 5555555555555553",
        "remu x7,x5,x6 0262f3b3 8000000000000001 20 1",
        "remu x7,x5,x6 0262f3b3 7fffffffffffffff 8000000000000000 7fffffffffffffff",
        "remu x7,x5,x6 0262f3b3 7fffffff 80000000 7fffffff",
        "remu x7,x5,x6 0262f3b3 ffffffff00000000 100000007 38",
        "remu x7,x5,x6 0262f3b3 7 0 7",
        "remu x7,x5,x6 0262f3b3 8000000080000003 21 d",
        "remu x7,x5,x6 0262f3b3 fffffffffffffff9 3 0",
        "addw x7,x5,x6 006283bb 5 40 45",
        "addw x7,x5,x6 006283bb 80000000 ffffffff 7fffffff",
        "addw x7,x5,x6 006283bb ffffffff00000000 100000007 7",
        "addw x7,x5,x6 006283bb 7fffffff 80000000 ffffffffffffffff",
        "addw x7,x5,x6 006283bb 8000000080000003 21 ffffffff80000024",
        "addw x7,x5,x6 006283bb fffffffffffffff9 3 fffffffffffffffc",
        "subw x7,x5,x6 406283bb 5 40 ffffffffffffffc5",
        "subw x7,x5,x6 406283bb 8000000000000000 ffffffffffffffff 1",
        "subw x7,x5,x6 406283bb 80000000 ffffffff ffffffff80000001",
        "subw x7,x5,x6 406283bb 0 0 0",
        "subw x7,x5,x6 406283bb 8000000080000003 21 7fffffe2",
        "subw x7,x5,x6 406283bb fffffffffffffff9 3 fffffffffffffff6",
        "sllw x7,x5,x6 006293bb 7fffffffffffffff 8000000000000000 ffffffffffffffff",
        "sllw x7,x5,x6 006293bb 5 40 5",
        "sllw x7,x5,x6 006293bb ffffffffffffffff 1 fffffffffffffffe",
        "sllw x7,x5,x6 006293bb 80000000 ffffffff 0",
        "sllw x7,x5,x6 006293bb 8000000080000003 21 6",
        "sllw x7,x5,x6 006293bb fffffffffffffff9 3 ffffffffffffffc8",
        "srlw x7,x5,x6 0062d3bb ffffffff00000000 100000007 0",
        "srlw x7,x5,x6 0062d3bb 5 40 5",
        "srlw x7,x5,x6 0062d3bb 1 ffffffffffffffff 0",
        "srlw x7,x5,x6 0062d3bb 8000000000000000 ffffffffffffffff 0",
        "srlw x7,x5,x6 0062d3bb 8000000080000003 21 40000001",
        "srlw x7,x5,x6 0062d3bb fffffffffffffff9 3 1fffffff",
        "sraw x7,x5,x6 4062d3bb 8000000000000001 20 1",
        "sraw x7,x5,x6 4062d3bb 5 40 5",
        "sraw x7,x5,x6 4062d3bb 7fffffffffffffff 8000000000000000 ffffffffffffffff",
        "sraw x7,x5,x6 4062d3bb ffffffff00000000 100000007 0",
        "sraw x7,x5,x6 4062d3bb 8000000080000003 21 ffffffffc0000001",
        "sraw x7,x5,x6 4062d3bb fffffffffffffff9 3 ffffffffffffffff",
        "mulw x7,x5,x6 026283bb 1 ffffffffffffffff ffffffffffffffff",
        "mulw x7,x5,x6 026283bb 8000000000000001 20 20",
        "mulw x7,x5,x6 026283bb 123456789abcdef0 fedcba987654321f 6729df10",
        "mulw x7,x5,x6 026283bb ffffffff00000000 100000007 0",
        "mulw x7,x5,x6 026283bb 8000000080000003 21 ffffffff80000063",
        "mulw x7,x5,x6 026283bb fffffffffffffff9 3 ffffffffffffffeb",
        "divuw x7,x5,x6 0262d3bb 1 ffffffffffffffff 0",
        "divuw x7,x5,x6 0262d3bb 80000000 ffffffff 0",
        "divuw x7,x5,x6 0262d3bb 8000000000000001 20 0",
        "divuw x7,x5,x6 0262d3bb 7fffffff 80000000 0",
        "divuw x7,x5,x6 0262d3bb 7 0 ffffffffffffffff",
        "divuw x7,x5,x6 0262d3bb 8000000080000003 21 3e0f83e",
        "divuw x7,x5,x6 0262d3bb fffffffffffffff9 3 55555553",
        "remuw x7,x5,x6 0262f3bb ffffffffffffffff 1 0",
        "remuw x7,x5,x6 0262f3bb 0 0 0",
        "remuw x7,x5,x6 0262f3bb 7fffffffffffffff 8000000000000000 ffffffffffffffff",
        "remuw x7,x5,x6 0262f3bb 7fffffff 80000000 7fffffff",
        "remuw x7,x5,x6 0262f3bb 7 0 7",
        "remuw x7,x5,x6 0262f3bb 8000000080000003 21 5",
        "remuw x7,x5,x6 0262f3bb fffffffffffffff9 3 0",
        "addi x7,x5,-2048 80028393 7fffffff 80000000 7ffff7ff",
        "addi x7,x5,2047 7ff28393 1 ffffffffffffffff 800",
        "addi x7,x5,-1 fff28393 0 0 ffffffffffffffff",
        "slti x7,x5,-2048 8002a393 5 40 0",
        "slti x7,x5,2047 7ff2a393 5 40 1",
        "slti x7,x5,-1 fff2a393 0 0 0",
        "sltiu x7,x5,-2048 8002b393 7fffffff 80000000 1",
        "sltiu x7,x5,2047 7ff2b393 5 40 1",
        "sltiu x7,x5,-1 fff2b393 80000000 ffffffff 1",
        "xori x7,x5,-2048 8002c393 ffffffff00000000 100000007 fffff800",
        "xori x7,x5,2047 7ff2c393 7fffffffffffffff 8000000000000000 7ffffffffffff800",
        "xori x7,x5,-1 fff2c393 ffffffff00000000 100000007 ffffffff",
        "ori x7,x5,-2048 8002e393 8000000000000000 ffffffffffffffff fffffffffffff800",
        "ori x7,x5,2047 7ff2e393 0 0 7ff",
        "ori x7,x5,-1 fff2e393 7fffffffffffffff 8000000000000000 ffffffffffffffff",
        "andi x7,x5,-2048 8002f393 0 0 0",
        "andi x7,x5,2047 7ff2f393 1 ffffffffffffffff 1",
        "andi x7,x5,-1 fff2f393 1 ffffffffffffffff 1",
        "addiw x7,x5,-2048 8002839b 5 40 fffffffffffff805",
        "addiw x7,x5,2047 7ff2839b ffffffff00000000 100000007 7ff",
        "addiw x7,x5,-1 fff2839b 0 0 ffffffffffffffff",
        "slli x7,x5,1 00129393 8000000080000003 0 100000006",
        "slli x7,x5,33 02129393 8000000080000003 0 600000000",
        "slli x7,x5,63 03f29393 8000000080000003 0 8000000000000000",
        "srli x7,x5,1 0012d393 8000000080000003 0 4000000040000001",
        "srli x7,x5,33 0212d393 8000000080000003 0 40000000",
        "srli x7,x5,63 03f2d393 8000000080000003 0 1",
        "srai x7,x5,1 4012d393 8000000080000003 0 c000000040000001",
        "srai x7,x5,33 4212d393 8000000080000003 0 ffffffffc0000000",
        "srai x7,x5,63 43f2d393 8000000080000003 0 ffffffffffffffff",
        "slliw x7,x5,0 0002939b 8000000080000003 0 ffffffff80000003",
        "slliw x7,x5,1 0012939b 8000000080000003 0 6",
        "slliw x7,x5,31 01f2939b 8000000080000003 0 ffffffff80000000",
        "srliw x7,x5,0 0002d39b 8000000080000003 0 ffffffff80000003",
        "srliw x7,x5,1 0012d39b 8000000080000003 0 40000001",
        "srliw x7,x5,31 01f2d39b 8000000080000003 0 1",
        "sraiw x7,x5,0 4002d39b 8000000080000003 0 ffffffff80000003",
        "sraiw x7,x5,1 4012d39b 8000000080000003 0 ffffffffc0000001",
        "sraiw x7,x5,31 41f2d39b 8000000080000003 0 ffffffffffffffff",
        "lui x7,0 000003b7 0 0 0",
        "lui x7,1 000013b7 0 0 1000",
        "lui x7,524287 7ffff3b7 0 0 7ffff000",
        "lui x7,524288 800003b7 0 0 ffffffff80000000",
        "lui x7,1048575 fffff3b7 0 0 fffffffffffff000",
        "beq x5,x6,.+8 00628463 1 ffffffffffffffff 1",
        "beq x5,x6,.+8 00628463 ffffffffffffffff 1 1",
        "beq x5,x6,.+8 00628463 5 5 0",
        "bne x5,x6,.+8 00629463 1 ffffffffffffffff 0",
        "bne x5,x6,.+8 00629463 ffffffffffffffff 1 0",
        "bne x5,x6,.+8 00629463 5 5 1",
        "blt x5,x6,.+8 0062c463 1 ffffffffffffffff 1",
        "blt x5,x6,.+8 0062c463 ffffffffffffffff 1 0",
        "blt x5,x6,.+8 0062c463 5 5 1",
        "bge x5,x6,.+8 0062d463 1 ffffffffffffffff 0",
        "bge x5,x6,.+8 0062d463 ffffffffffffffff 1 1",
        "bge x5,x6,.+8 0062d463 5 5 0",
        "bltu x5,x6,.+8 0062e463 1 ffffffffffffffff 0",
        "bltu x5,x6,.+8 0062e463 ffffffffffffffff 1 1",
        "bltu x5,x6,.+8 0062e463 5 5 1",
        "bgeu x5,x6,.+8 0062f463 1 ffffffffffffffff 1",
        "bgeu x5,x6,.+8 0062f463 ffffffffffffffff 1 0",
        "bgeu x5,x6,.+8 0062f463 5 5 0",
        "lb x7,0(x8) 00040383 80f0e0d0c0b0a090 7f01820384058607 ffffffffffffff90",
        "lb x7,3(x8) 00340383 80f0e0d0c0b0a090 7f01820384058607 ffffffffffffffc0",
        "lb x7,7(x8) 00740383 80f0e0d0c0b0a090 7f01820384058607 ffffffffffffff80",
        "lh x7,0(x8) 00041383 80f0e0d0c0b0a090 7f01820384058607 ffffffffffffa090",
        "lh x7,3(x8) 00341383 80f0e0d0c0b0a090 7f01820384058607 ffffffffffffd0c0",
        "lh x7,7(x8) 00741383 80f0e0d0c0b0a090 7f01820384058607 780",
        "lw x7,0(x8) 00042383 80f0e0d0c0b0a090 7f01820384058607 ffffffffc0b0a090",
        "lw x7,3(x8) 00342383 80f0e0d0c0b0a090 7f01820384058607 fffffffff0e0d0c0",
        "lw x7,7(x8) 00742383 80f0e0d0c0b0a090 7f01820384058607 5860780",
        "ld x7,0(x8) 00043383 80f0e0d0c0b0a090 7f01820384058607 80f0e0d0c0b0a090",
        "ld x7,3(x8) 00343383 80f0e0d0c0b0a090 7f01820384058607 5860780f0e0d0c0",
        "ld x7,8(x8) 00843383 80f0e0d0c0b0a090 7f01820384058607 7f01820384058607",
        "lbu x7,0(x8) 00044383 80f0e0d0c0b0a090 7f01820384058607 90",
        "lbu x7,3(x8) 00344383 80f0e0d0c0b0a090 7f01820384058607 c0",
        "lbu x7,7(x8) 00744383 80f0e0d0c0b0a090 7f01820384058607 80",
        "lhu x7,0(x8) 00045383 80f0e0d0c0b0a090 7f01820384058607 a090",
        "lhu x7,3(x8) 00345383 80f0e0d0c0b0a090 7f01820384058607 d0c0",
        "lhu x7,7(x8) 00745383 80f0e0d0c0b0a090 7f01820384058607 780",
        "lwu x7,0(x8) 00046383 80f0e0d0c0b0a090 7f01820384058607 c0b0a090",
        "lwu x7,3(x8) 00346383 80f0e0d0c0b0a090 7f01820384058607 f0e0d0c0",
        "lwu x7,7(x8) 00746383 80f0e0d0c0b0a090 7f01820384058607 5860780",
        "sb x6,-64(x22) fc6b0023 1122334455667788 f1f2f3f4f5f6f7f8 11223344556677f8",
        "sb x6,-61(x22) fc6b01a3 1122334455667788 f1f2f3f4f5f6f7f8 11223344f8667788",
        "sh x6,-64(x22) fc6b1023 1122334455667788 f1f2f3f4f5f6f7f8 112233445566f7f8",
        "sh x6,-61(x22) fc6b11a3 1122334455667788 f1f2f3f4f5f6f7f8 112233f7f8667788",
        "sw x6,-64(x22) fc6b2023 1122334455667788 f1f2f3f4f5f6f7f8 11223344f5f6f7f8",
        "sw x6,-61(x22) fc6b21a3 1122334455667788 f1f2f3f4f5f6f7f8 11f5f6f7f8667788",
        "sd x6,-64(x22) fc6b3023 1122334455667788 f1f2f3f4f5f6f7f8 f1f2f3f4f5f6f7f8",
        "sd x6,-63(x22) fc6b30a3 1122334455667788 f1f2f3f4f5f6f7f8 f2f3f4f5f6f7f888",
        "jal x0,.+8 0080006f 1 1 0",
        "jal x0,.+4 0040006f 1 1 1",
    };

    // INSTRUCTION; its WORDS.
    private static final String[] BECOMES = {
        "260f 00c90933",
        "500000007 00500293 00550533",
        "260c 00c9093b 02091913 02095913",
        "7fffffff00000004 800002b7 fff2829b 0055053b 02051513 02055513",
        "571f 40f989b3",
        "ffffffff00000717 fff00293 405989b3",
        "571c 40f989bb 02099993 0209d993",
        "8000000000000714 800002b7 0002829b 405989bb 02099993 0209d993",
        "882f 034a0a33",
        "80000000427 000012b7 8002829b 02570733",
        "882c 034a0a3b 020a1a13 020a5a13",
        "1234580000000424 123462b7 8002829b 0257073b 02071713 02075713",
        "193f 00058663 02badab3 0080006f 00000a93",
        "fffff7ff00000137 fffff2b7 7ff2829b 00028663 0255d5b3 0080006f 00000593",
        "193c 0005831b 00030663 026adabb 0080006f 00000a93 020a9a93 020ada93",
        "500000134 00500293 0002831b 00030663 0265d5bb 0080006f 00000593 02059593 0205d593",
        "404f 00e56533",
        "7fffffff00000847 800002b7 fff2829b 005a6a33",
        "404c 00e56533 02051513 02055513",
        "ffffffff00000844 fff00293 005a6a33 020a1a13 020a5a13",
        "715f 0135f5b3",
        "8000000000000557 800002b7 0002829b 0057f7b3",
        "715c 0135f5b3 02059593 0205d593",
        "80000000554 000012b7 8002829b 0057f7b3 02079793 0207d793",
        "26f 00a61633",
        "1234580000000267 123462b7 8002829b 00561633",
        "26c 00a6163b 02061613 02065613",
        "fffff7ff00000264 fffff2b7 7ff2829b 0056163b 02061613 02065613",
        "337f 00d6d6b3",
        "500000977 00500293 005adab3",
        "337c 00d6d6bb 02069693 0206d693",
        "7fffffff00000974 800002b7 fff2829b 005adabb 020a9a93 020ada93",
        "959f 0357f7b3",
        "80000000397 000012b7 8002829b 0256f6b3",
        "959c 0357f7bb 02079793 0207d793",
        "1234580000000394 123462b7 8002829b 0256f6bb 02069693 0206d693",
        "26af 00c94933",
        "fffff7ff000000a7 fffff2b7 7ff2829b 00554533",
        "26ac 00c94933 02091913 02095913",
        "5000000a4 00500293 00554533 02051513 02055513",
        "57bf 00078993",
        "7fffffff000007b7 800009b7 fff9899b",
        "57bc 00078993 02099993 0209d993",
        "ffffffff000007b4 fff00993 02099993 0209d993",
        "88cf 414a5a33",
        "80000000000004c7 800002b7 0002829b 40575733",
        "88cc 414a5a3b 020a1a13 020a5a13",
        "800000004c4 000012b7 8002829b 4057573b 02071713 02075713",
        "387 40d006b3",
        "884 41400a3b 020a1a13 020a5a13",
        "1631d 01269463 0080006f",
        "100000000415 000012b7 0002829b 00571463 0040006f",
        "1631e 0006831b 0009039b 00731463 0080006f",
        "100000000416 000012b7 0002829b 0007031b 0002839b 00731463 0040006f",
        "742d 00e9f463 0040006f",
        "fffff80000010525 80000293 00f2f463 0080006f",
        "742e 0007031b 0009839b 0063f463 0040006f",
        "fffff80000010526 80000293 0007831b 0002839b 0063f463 0080006f",
        "1853d 0147e463 0080006f",
        "900000635 00900293 00596463 0040006f",
        "1853e 0007831b 000a039b 00736463 0080006f",
        "900000636 00900293 0009031b 0002839b 00736463 0040006f",
        "964d 01597333 00030463 0040006f",
        "100000010745 000012b7 0002829b 0059f333 00030463 0080006f",
        "964e 0009031b 000a839b 00737333 00030463 0040006f",
        "100000010746 000012b7 0002829b 0009831b 0002839b 00737333 00030463 0080006f",
        "1075d 00a98463 0080006f",
        "fffff80000000855 80000293 005a0463 0040006f",
        "1075e 0009831b 0005039b 00730463 0080006f",
        "fffff80000000856 80000293 000a031b 0002839b 00730463 0040006f",
        "186d 0145d463 0040006f",
        "900010965 00900293 0152d463 0080006f",
        "186e 000a031b 0005839b 0063d463 0040006f",
        "900010966 00900293 000a831b 0002839b 0063d463 0080006f",
        "1297d 00cac463 0080006f",
        "100000000075 000012b7 0002829b 00554463 0040006f",
        "1297e 000a831b 0006039b 00734463 0080006f",
        "100000000076 000012b7 0002829b 0005031b 0002839b 00734463 0040006f",
        "52ad 00f67463 0040006f",
        "1000000103a5 000012b7 0002829b 0056f463 0080006f",
        "52ae 0006031b 0007839b 00737463 0040006f",
        "1000000103a6 000012b7 0002829b 0006831b 0002839b 00737463 0080006f",
        "163bd 00d96463 0080006f",
        "fffff800000004b5 80000293 00e2e463 0040006f",
        "163be 0006831b 0009039b 0063e463 0080006f",
        "fffff800000004b6 80000293 0007031b 0002839b 0063e463 0040006f",
        "74cd 01375463 0040006f",
        "9000105c5 00900293 0057d463 0080006f",
        "74ce 0007031b 0009839b 00735463 0040006f",
        "9000105c6 00900293 0007831b 0002839b 00735463 0080006f",
        "185dd 00fa4463 0080006f",
        "1000000006d5 000012b7 0002829b 0122c463 0040006f",
        "185de 0007831b 000a039b 0063c463 0080006f",
        "1000000006d6 000012b7 0002829b 0009031b 0002839b 0063c463 0040006f",
        "5 0040006f",
        "10005 0080006f",
        "fff8a061 ff800293 016282b3 0002e503",
        "fffc2a63 ffc00293 016282b3 00c2a023",
        "ffffffffffc00a62 fc000293 016282b3 fff00313 0062a023",
        "fff8a369 ff800293 016282b3 0002d683",
        "fffc3a6b ffc00293 016282b3 00d29023",
        "11170ffc00a6a fc000293 016282b3 00011337 1703031b 00629023",
        "fff8a671 ff800293 016282b3 0002c903",
        "fffd4a73 ffd00293 016282b3 00e28023",
        "7ffc00a72 fc000293 016282b3 00700313 00628023",
        "fff8a979 ff800293 016282b3 0002ba83",
        "ffe05a7b fe000293 016282b3 00f2b023",
        "fffeee90ffc00a7a fc000293 016282b3 fffef337 e903031b 0062b023",
        "e00000020 00e00293 02029293 0202d293 00428313 0064f663 00000513 00000073 008282b3 0002c503"
            + " 00851513 0012c303 00656533 00851513 0022c303 00656533 00851513 0032c303 00656533",
        "100000000028 000012b7 0002829b 02029293 0202d293 00228313 0064f663 00000513 00000073 008282b3"
            + " 0002c503 00851513 0012c303 00656533",
        "ffffffff00000030 fff00293 02029293 0202d293 00128313 0064f663 00000513 00000073 008282b3"
            + " 0002c503",
        "e00000040 00e00293 00a282bb 02029293 0202d293 00428313 0064f663 00000513 00000073 008282b3"
            + " 0002c503 00851513 0012c303 00656533 00851513 0022c303 00656533 00851513 0032c303 00656533",
        "ffffffec00005048 fec00293 00f282bb 02029293 0202d293 00228313 0064f663 00000513 00000073"
            + " 008282b3 0002c503 00851513 0012c303 00656533",
        "1000000009050 000102b7 0002829b 015282bb 02029293 0202d293 00128313 0064f663 00000513 00000073"
            + " 008282b3 0002c503",
        "95 00000073",
    };

    private static final int LD_X5 = 0x00043283; // ld x5,0(x8)
    private static final int LD_X6 = 0x00843303; // ld x6,8(x8)
    private static final int X7_1 = 0x00100393; // addi x7,x0,1
    private static final int SD_X5 = 0xfc5b3023; // sd x5,-64(x22)
    private static final int SD_X6 = 0xfc6b3423; // sd x6,-56(x22)
    private static final int LD_X7 = 0xfc0b3383; // ld x7,-64(x22)
    private static final int ECALL = 0x00000073;
    private static int wrong = 0;

    private static void due(String call, long got, long want) {
        if (got != want) {
            wrong++;
            System.out.println(call + " answered " + Long.toHexString(got) + ", due is " + Long.toHexString(want));
        }
    }

    private static int turned(int word) {
        return Integer.reverseBytes(word);
    }

    /** The number's lowest byte first. */
    private static int lower(long number) {
        return turned((int) number);
    }

    private static int upper(long number) {
        return turned((int) (number >>> 32));
    }

    private static void makes(String row) {
        String[] p = row.split(" ");
        String text = p[0] + " " + p[1];
        int word = Integer.parseUnsignedInt(p[2], 16);
        long x5 = Long.parseUnsignedLong(p[3], 16);
        long x6 = Long.parseUnsignedLong(p[4], 16);
        FilterForge x = new FilterForge();
        x.feed(lower(x5), upper(x5), lower(x6), upper(x6), 0);
        x.end(16);
        due("packet()", x.packet(), 0);
        boolean goes = text.startsWith("b") || text.startsWith("j");
        boolean stores = text.endsWith("(x22)");
        int[] words = goes ? new int[] {LD_X5, LD_X6, word, X7_1, ECALL}
            : stores ? new int[] {LD_X5, LD_X6, SD_X5, SD_X6, word, LD_X7, ECALL}
            : new int[] {LD_X5, LD_X6, word, ECALL};
        int[] ten = new int[10];
        for (int i = 0; i < words.length; i++) {
            ten[i] = turned(words[i]);
        }
        x.feed(ten[0], ten[1], ten[2], ten[3], ten[4]);
        x.feed(ten[5], ten[6], ten[7], ten[8], ten[9]);
        x.end(4 * words.length);
        due("raw() of " + text, x.raw(), words.length);
        x.emulate(0);
        due("ended(0) of " + text, x.ended(0), 0);
        due("register(7) of " + text, x.register(7), Long.parseUnsignedLong(p[5], 16));
    }

    private static void feed(FilterForge x, long[] program) {
        int[] halves = new int[(2 * program.length + 4) / 5 * 5];
        for (int i = 0; i < program.length; i++) {
            halves[2 * i] = lower(program[i]);
            halves[2 * i + 1] = upper(program[i]);
        }
        for (int i = 0; i < halves.length; i += 5) {
            x.feed(halves[i], halves[i + 1], halves[i + 2], halves[i + 3], halves[i + 4]);
        }
        x.end(8 * program.length);
    }

    /** The INSTRUCTION behind those that set what it may use (13 WORDS), and ahead of r0 = 0, r0 = 0 and the end. */
    private static void becomes(String row) {
        String[] p = row.split(" ");
        long[] program = new long[14];
        int[] set = {0, 2, 3, 4, 5, 6, 7, 8, 9};
        for (int i = 0; i < set.length; i++) {
            program[i] = 7L << 32 | set[i] << 8 | 0xb7;
        }
        program[9] = 1L << 32 | 0xfff8L << 16 | 10 << 8 | 0x7a;
        program[10] = Long.parseUnsignedLong(p[0], 16);
        program[11] = 0xb7;
        program[12] = 0xb7;
        program[13] = 0x95;
        FilterForge x = new FilterForge();
        feed(x, program);
        due("load()", x.load(), 14);
        due("translate() of " + p[0], x.translate(), 13 + p.length - 1 + 3);
        for (int i = 1; i < p.length; i++) {
            due("word(" + (12 + i) + ") of " + p[0], x.word(12 + i) & 0xFFFFFFFFL, Long.parseLong(p[i], 16));
        }
    }

    public static void main(String[] args) {
        for (String row : MADE) {
            makes(row);
        }
        for (String row : BECOMES) {
            becomes(row);
        }
        System.exit(wrong == 0 ? 0 : 1);
    }
}
