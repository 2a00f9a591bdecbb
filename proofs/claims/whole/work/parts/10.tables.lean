/-! THE PROGRAM: its methods by number, a table a method (printed by wip/whole/gen_tables.py) -/
def t_X0_init : ax_T := [[some (a_aload 0 1), some (a_oinit 4), none, none, some (a_aload 0 5), some (a_iconst 8 7), none, some (a_newa 100 8 9), none, some (a_putR 0 3 0 12), none, none, some (a_aload 0 13), some (a_iconst 8 15), none, some (a_newa 100 8 17)],
  [none, some (a_putR 0 3 1 20), none, none, some (a_vret)]]
def t_X0_add : ax_T := [[some (a_aload 0 1), some (a_getI 0 3 2 4), none, none, some (a_iconst 8 6), none, some (a_clt 13 9), none, none, some (a_aload 0 10), some (a_callV 0 3 2 0 13), none, none, some (a_aload 0 14), some (a_getR 0 3 0 17), none],
  [none, some (a_aload 0 18), some (a_getI 0 3 2 21), none, none, some (a_iload 1 22), some (a_iast 23), some (a_aload 0 24), some (a_getR 0 3 1 27), none, none, some (a_aload 0 28), some (a_getI 0 3 2 31), none, none, some (a_iload 2 32)],
  [some (a_iast 33), some (a_aload 0 34), some (a_dup 35), some (a_getI 0 3 2 38), none, none, some (a_iconst 1 39), some (a_iadd 40), some (a_putI 0 3 2 43), none, none, some (a_vret)]]
def t_X0_dropOldest : ax_T := [[some (a_iconst 1 1), some (a_istore 1 2), some (a_iload 1 3), some (a_aload 0 4), some (a_getI 0 3 2 7), none, none, some (a_cge 44 10), none, none, some (a_aload 0 11), some (a_getR 0 3 0 14), none, none, some (a_iload 1 15), some (a_iconst 1 16)],
  [some (a_isub 17), some (a_aload 0 18), some (a_getR 0 3 0 21), none, none, some (a_iload 1 22), some (a_iald 23), some (a_iast 24), some (a_aload 0 25), some (a_getR 0 3 1 28), none, none, some (a_iload 1 29), some (a_iconst 1 30), some (a_isub 31), some (a_aload 0 32)],
  [some (a_getR 0 3 1 35), none, none, some (a_iload 1 36), some (a_iald 37), some (a_iast 38), some (a_iinc 1 1 41), none, none, some (a_goto 2), none, none, some (a_aload 0 45), some (a_dup 46), some (a_getI 0 3 2 49), none],
  [none, some (a_iconst 1 50), some (a_isub 51), some (a_putI 0 3 2 54), none, none, some (a_vret)]]
def t_X0_takeBack : ax_T := [[some (a_aload 0 1), some (a_getI 0 3 2 4), none, none, some (a_zne 9 7), none, none, some (a_iconst 0 8), some (a_zret), some (a_aload 0 10), some (a_dup 11), some (a_getI 0 3 2 14), none, none, some (a_iconst 1 15), some (a_isub 16)],
  [some (a_putI 0 3 2 19), none, none, some (a_aload 0 20), some (a_getR 0 3 0 23), none, none, some (a_aload 0 24), some (a_getI 0 3 2 27), none, none, some (a_iald 28), some (a_iconst (-1) 29), some (a_cne 45 32), none, none],
  [some (a_aload 1 33), some (a_dup 34), some (a_getI 5 5 4 37), none, none, some (a_iconst 1 38), some (a_isub 39), some (a_putI 5 5 4 42), none, none, some (a_goto 68), none, none, some (a_aload 1 46), some (a_getR 5 5 0 49), none],
  [none, some (a_aload 0 50), some (a_getR 0 3 0 53), none, none, some (a_aload 0 54), some (a_getI 0 3 2 57), none, none, some (a_iald 58), some (a_aload 0 59), some (a_getR 0 3 1 62), none, none, some (a_aload 0 63), some (a_getI 0 3 2 66)],
  [none, none, some (a_iald 67), some (a_iast 68), some (a_iconst 1 69), some (a_zret)]]
def t_X1_init : ax_T := [[some (a_aload 0 1), some (a_oinit 4), none, none, some (a_aload 0 5), some (a_iconst 3 6), some (a_newa 100 3 8), none, some (a_putR 1 7 0 11), none, none, some (a_aload 0 12), some (a_iconst 7 14), none, some (a_newa 100 7 16), none],
  [some (a_putR 1 7 1 19), none, none, some (a_aload 0 20), some (a_iconst 7 22), none, some (a_newa 100 7 24), none, some (a_putR 1 7 2 27), none, none, some (a_vret)]]
def t_X1_seek : ax_T := [[some (a_aload 0 1), some (a_iconst 1 2), some (a_putZ 1 7 3 5), none, none, some (a_aload 0 6), some (a_iconst 0 7), some (a_putZ 1 7 4 10), none, none, some (a_iconst 0 11), some (a_istore 2 12), some (a_iload 2 13), some (a_aload 1 14), some (a_getI 6 7 5 17), none],
  [none, some (a_cge 38 20), none, none, some (a_aload 0 21), some (a_getR 1 7 0 24), none, none, some (a_iload 2 25), some (a_aload 1 26), some (a_getR 6 7 1 29), none, none, some (a_iload 2 30), some (a_iald 31), some (a_iast 32)],
  [some (a_iinc 2 1 35), none, none, some (a_goto 12), none, none, some (a_iconst 0 39), some (a_istore 2 40), some (a_iload 2 41), some (a_aload 1 42), some (a_getI 6 7 4 45), none, none, some (a_cge 62 48), none, none],
  [some (a_aload 0 49), some (a_getR 1 7 1 52), none, none, some (a_iload 2 53), some (a_iconst (-4) 55), none, some (a_iast 56), some (a_iinc 2 1 59), none, none, some (a_goto 40), none, none, some (a_aload 0 63), some (a_aload 1 64)],
  [some (a_iconst 0 65), some (a_iconst 0 66), some (a_iconst 0 67), some (a_callV 1 7 6 4 70), none, none, some (a_vret)]]
def t_X1_seekFrom : ax_T := [[some (a_aload 0 1), some (a_getI 1 7 4 4), none, none, some (a_zeq 33 7), none, none, some (a_iload 3 8), some (a_aload 0 9), some (a_getI 1 7 5 12), none, none, some (a_cgt 32 15), none, none, some (a_iload 3 16)],
  [some (a_aload 0 17), some (a_getI 1 7 5 20), none, none, some (a_cne 33 23), none, none, some (a_iload 4 25), none, some (a_aload 0 26), some (a_getI 1 7 6 29), none, none, some (a_clt 33 32), none, none],
  [some (a_vret), some (a_aload 0 34), some (a_aload 1 35), some (a_callV 1 7 7 1 38), none, none, some (a_istore 5 40), none, some (a_iload 5 42), none, some (a_zne 54 45), none, none, some (a_aload 0 46), some (a_aload 1 47), some (a_iload 3 48)],
  [some (a_iload 4 50), none, some (a_callV 1 7 8 3 53), none, none, some (a_vret), some (a_iload 2 55), some (a_aload 1 56), some (a_getI 6 7 4 59), none, none, some (a_cge 72 62), none, none, some (a_aload 1 63), some (a_iload 2 64)],
  [some (a_callV 6 7 29 1 67), none, none, some (a_iload 5 69), none, some (a_cge 73 72), none, none, some (a_vret), some (a_aload 1 74), some (a_getR 6 7 0 77), none, none, some (a_iload 2 78), some (a_iald 79), some (a_istore 6 81)],
  [none, some (a_iconst 0 82), some (a_istore 7 84), none, some (a_iload 7 86), none, some (a_aload 1 87), some (a_getI 6 7 5 90), none, none, some (a_cge 165 93), none, none, some (a_aload 0 94), some (a_getR 1 7 0 97), none],
  [none, some (a_iload 7 99), none, some (a_iald 100), some (a_zle 159 103), none, none, some (a_aload 0 104), some (a_getR 1 7 0 107), none, none, some (a_iload 7 109), none, some (a_dup2 110), some (a_iald 111), some (a_iload 6 113)],
  [none, some (a_isub 114), some (a_iast 115), some (a_aload 0 116), some (a_getR 1 7 1 119), none, none, some (a_iload 2 120), some (a_iload 7 122), none, some (a_iast 123), some (a_aload 0 124), some (a_aload 1 125), some (a_iload 2 126), some (a_iconst 1 127), some (a_iadd 128)],
  [some (a_iload 3 129), some (a_iconst 1 130), some (a_iadd 131), some (a_iload 4 133), none, some (a_iload 6 135), none, some (a_iadd 136), some (a_callV 1 7 6 4 139), none, none, some (a_aload 0 140), some (a_getR 1 7 1 143), none, none, some (a_iload 2 144)],
  [some (a_iconst (-4) 146), none, some (a_iast 147), some (a_aload 0 148), some (a_getR 1 7 0 151), none, none, some (a_iload 7 153), none, some (a_dup2 154), some (a_iald 155), some (a_iload 6 157), none, some (a_iadd 158), some (a_iast 159), some (a_iinc 7 1 162)],
  [none, none, some (a_goto 84), none, none, some (a_aload 0 166), some (a_aload 1 167), some (a_iload 2 168), some (a_iconst 1 169), some (a_iadd 170), some (a_iload 3 171), some (a_iload 4 173), none, some (a_callV 1 7 6 4 176), none, none],
  [some (a_vret)]]
def t_X1_lackingLength : ax_T := [[some (a_iconst 0 1), some (a_istore 2 2), some (a_iconst 0 3), some (a_istore 3 4), some (a_iload 3 5), some (a_aload 1 6), some (a_getI 6 7 5 9), none, none, some (a_cge 31 12), none, none, some (a_iload 2 13), some (a_iconst 0 14), some (a_aload 0 15), some (a_getR 1 7 0 18)],
  [none, none, some (a_iload 3 19), some (a_iald 20), some (a_mmax 23), none, none, some (a_iadd 24), some (a_istore 2 25), some (a_iinc 3 1 28), none, none, some (a_goto 4), none, none, some (a_iload 2 32)],
  [some (a_iret)]]
def t_X1_take : ax_T := [[some (a_aload 0 1), some (a_iconst 1 2), some (a_putZ 1 7 4 5), none, none, some (a_aload 0 6), some (a_iload 2 7), some (a_putI 1 7 5 10), none, none, some (a_aload 0 11), some (a_iload 3 12), some (a_putI 1 7 6 15), none, none, some (a_iconst 0 16)],
  [some (a_istore 4 18), none, some (a_iload 4 20), none, some (a_aload 1 21), some (a_getI 6 7 4 24), none, none, some (a_cge 47 27), none, none, some (a_aload 0 28), some (a_getR 1 7 2 31), none, none, some (a_iload 4 33)],
  [none, some (a_aload 0 34), some (a_getR 1 7 1 37), none, none, some (a_iload 4 39), none, some (a_iald 40), some (a_iast 41), some (a_iinc 4 1 44), none, none, some (a_goto 18), none, none, some (a_vret)]]
def t_X2_init : ax_T := [[some (a_aload 0 1), some (a_oinit 4), none, none, some (a_aload 0 5), some (a_iconst 2 6), some (a_newa 102 2 9), none, none, some (a_putR 2 2 0 12), none, none, some (a_iconst 0 13), some (a_istore 1 14), some (a_iload 1 15), some (a_iconst 2 16)],
  [some (a_cge 38 19), none, none, some (a_aload 0 20), some (a_getR 2 2 0 23), none, none, some (a_iload 1 24), some (a_new 5 5 27), none, none, some (a_dup 28), some (a_callV 5 5 19 0 31), none, none, some (a_aast 32)],
  [some (a_iinc 1 1 35), none, none, some (a_goto 14), none, none, some (a_vret)]]
def t_X2_add : ax_T := [[some (a_aload 0 1), some (a_getI 2 2 1 4), none, none, some (a_iconst 2 5), some (a_clt 10 8), none, none, some (a_iconst 0 9), some (a_zret), some (a_aload 0 11), some (a_getR 2 2 0 14), none, none, some (a_aload 0 15), some (a_getI 2 2 1 18)],
  [none, none, some (a_aald 19), some (a_aload 1 20), some (a_callV 5 5 22 1 23), none, none, some (a_aload 0 24), some (a_dup 25), some (a_getI 2 2 1 28), none, none, some (a_iconst 1 29), some (a_iadd 30), some (a_putI 2 2 1 33), none],
  [none, some (a_iconst 1 34), some (a_zret)]]
def t_X2_restore : ax_T := [[some (a_aload 0 1), some (a_getI 2 2 1 4), none, none, some (a_zne 9 7), none, none, some (a_iconst 0 8), some (a_zret), some (a_aload 0 10), some (a_dup 11), some (a_getI 2 2 1 14), none, none, some (a_iconst 1 15), some (a_isub 16)],
  [some (a_putI 2 2 1 19), none, none, some (a_aload 1 20), some (a_aload 0 21), some (a_getR 2 2 0 24), none, none, some (a_aload 0 25), some (a_getI 2 2 1 28), none, none, some (a_aald 29), some (a_callV 5 5 22 1 32), none, none],
  [some (a_iconst 1 33), some (a_zret)]]
def t_X3_init : ax_T := [[some (a_aload 0 1), some (a_oinit 4), none, none, some (a_aload 0 5), some (a_new 7 10 8), none, none, some (a_dup 9), some (a_callV 7 10 30 0 12), none, none, some (a_putR 3 2 0 15), none, none, some (a_aload 0 16)],
  [some (a_new 6 7 19), none, none, some (a_dup 20), some (a_callV 6 7 23 0 23), none, none, some (a_putR 3 2 1 26), none, none, some (a_vret)]]
def t_X3_clear : ax_T := [[some (a_aload 0 1), some (a_getR 3 2 0 4), none, none, some (a_callV 7 10 31 0 7), none, none, some (a_aload 0 8), some (a_getR 3 2 1 11), none, none, some (a_callV 6 7 24 0 14), none, none, some (a_vret)]]
def t_X4_init : ax_T := [[some (a_aload 0 1), some (a_oinit 4), none, none, some (a_aload 0 5), some (a_iconst 6 7), none, some (a_newa 100 6 9), none, some (a_putR 4 3 0 12), none, none, some (a_aload 0 13), some (a_iconst 6 15), none, some (a_newa 100 6 17)],
  [none, some (a_putR 4 3 1 20), none, none, some (a_vret)]]
def t_X4_add : ax_T := [[some (a_aload 0 1), some (a_getI 4 3 2 4), none, none, some (a_iconst 6 6), none, some (a_clt 11 9), none, none, some (a_iconst 0 10), some (a_zret), some (a_aload 0 12), some (a_getR 4 3 0 15), none, none, some (a_aload 0 16)],
  [some (a_getI 4 3 2 19), none, none, some (a_iload 1 20), some (a_iast 21), some (a_aload 0 22), some (a_getR 4 3 1 25), none, none, some (a_aload 0 26), some (a_getI 4 3 2 29), none, none, some (a_iload 2 30), some (a_iast 31), some (a_aload 0 32)],
  [some (a_dup 33), some (a_getI 4 3 2 36), none, none, some (a_iconst 1 37), some (a_iadd 38), some (a_putI 4 3 2 41), none, none, some (a_iconst 1 42), some (a_zret)]]
def t_X4_suspects : ax_T := [[some (a_iconst 0 1), some (a_istore 2 2), some (a_iconst 0 3), some (a_istore 3 4), some (a_iload 3 5), some (a_aload 1 6), some (a_getI 7 10 8 9), none, none, some (a_cge 33 12), none, none, some (a_aload 0 13), some (a_aload 1 14), some (a_iload 3 15), some (a_callV 4 3 17 2 18)],
  [none, none, some (a_zeq 27 21), none, none, some (a_iload 2 22), some (a_iconst 1 23), some (a_iload 3 24), some (a_ishl 25), some (a_ior 26), some (a_istore 2 27), some (a_iinc 3 1 30), none, none, some (a_goto 4), none],
  [none, some (a_iload 2 34), some (a_iret)]]
def t_X4_fits : ax_T := [[some (a_iconst 0 1), some (a_istore 3 2), some (a_iload 3 3), some (a_aload 0 4), some (a_getI 4 3 2 7), none, none, some (a_cge 38 10), none, none, some (a_aload 1 11), some (a_iload 2 12), some (a_aload 0 13), some (a_getR 4 3 0 16), none, none],
  [some (a_iload 3 17), some (a_iald 18), some (a_callV 7 10 41 2 21), none, none, some (a_aload 0 22), some (a_getR 4 3 1 25), none, none, some (a_iload 3 26), some (a_iald 27), some (a_ceq 32 30), none, none, some (a_iconst 0 31), some (a_zret)],
  [some (a_iinc 3 1 35), none, none, some (a_goto 2), none, none, some (a_iconst 1 39), some (a_zret)]]
def t_X4_mostAlike : ax_T := [[some (a_iconst 0 1), some (a_istore 3 2), some (a_iconst 0 3), some (a_istore 4 5), none, some (a_iload 4 7), none, some (a_aload 0 8), some (a_getI 7 10 8 11), none, none, some (a_cge 95 14), none, none, some (a_iconst 0 15), some (a_istore 5 17)],
  [none, some (a_iconst 0 18), some (a_istore 6 20), none, some (a_iload 6 22), none, some (a_aload 0 23), some (a_getI 7 10 8 26), none, none, some (a_cge 82 29), none, none, some (a_iload 1 30), some (a_iload 4 32), none],
  [some (a_ishr 33), some (a_iload 1 34), some (a_iload 6 36), none, some (a_ishr 37), some (a_iand 38), some (a_iconst 1 39), some (a_iand 40), some (a_iconst 1 41), some (a_cne 48 44), none, none, some (a_iconst 1 45), some (a_goto 49), none, none],
  [some (a_iconst 0 49), some (a_istore 7 51), none, some (a_iload 7 53), none, some (a_zeq 76 56), none, none, some (a_aload 0 57), some (a_iload 4 59), none, some (a_iload 2 60), some (a_callV 7 10 41 2 63), none, none, some (a_aload 0 64)],
  [some (a_iload 6 66), none, some (a_iload 2 67), some (a_callV 7 10 41 2 70), none, none, some (a_cne 76 73), none, none, some (a_iinc 5 1 76), none, none, some (a_iinc 6 1 79), none, none, some (a_goto 20)],
  [none, none, some (a_iload 3 83), some (a_iload 5 85), none, some (a_mmax 88), none, none, some (a_istore 3 89), some (a_iinc 4 1 92), none, none, some (a_goto 5), none, none, some (a_iload 3 96)],
  [some (a_iret)]]
def t_X5_init : ax_T := [[some (a_aload 0 1), some (a_oinit 4), none, none, some (a_aload 0 5), some (a_iconst 6 7), none, some (a_newa 100 6 9), none, some (a_putR 5 5 0 12), none, none, some (a_aload 0 13), some (a_iconst 9 15), none, some (a_newa 100 9 17)],
  [none, some (a_putR 5 5 1 20), none, none, some (a_aload 0 21), some (a_iconst 9 23), none, some (a_newa 100 9 25), none, some (a_putR 5 5 2 28), none, none, some (a_aload 0 29), some (a_iconst 9 31), none, some (a_newa 100 9 33)],
  [none, some (a_putR 5 5 3 36), none, none, some (a_vret)]]
def t_X5_addWalk : ax_T := [[some (a_aload 0 1), some (a_getI 5 5 4 4), none, none, some (a_iconst 9 6), none, some (a_clt 11 9), none, none, some (a_iconst 0 10), some (a_zret), some (a_aload 0 12), some (a_getR 5 5 1 15), none, none, some (a_aload 0 16)],
  [some (a_getI 5 5 4 19), none, none, some (a_iload 1 20), some (a_iast 21), some (a_aload 0 22), some (a_getR 5 5 2 25), none, none, some (a_aload 0 26), some (a_getI 5 5 4 29), none, none, some (a_iload 2 30), some (a_iast 31), some (a_aload 0 32)],
  [some (a_getR 5 5 3 35), none, none, some (a_aload 0 36), some (a_getI 5 5 4 39), none, none, some (a_iload 3 40), some (a_iast 41), some (a_aload 0 42), some (a_dup 43), some (a_getI 5 5 4 46), none, none, some (a_iconst 1 47), some (a_iadd 48)],
  [some (a_putI 5 5 4 51), none, none, some (a_iconst 1 52), some (a_zret)]]
def t_X5_cellAfterWalks : ax_T := [[some (a_iload 3 1), some (a_istore 4 3), none, some (a_iconst 6 5), none, some (a_istore 5 7), none, some (a_iconst 0 8), some (a_istore 6 10), none, some (a_iload 6 12), none, some (a_aload 0 13), some (a_getI 5 5 4 16), none, none],
  [some (a_cge 77 19), none, none, some (a_aload 0 20), some (a_getR 5 5 1 23), none, none, some (a_iload 6 25), none, some (a_iald 26), some (a_iload 1 27), some (a_cne 71 30), none, none, some (a_aload 0 31), some (a_getR 5 5 2 34)],
  [none, none, some (a_iload 6 36), none, some (a_iald 37), some (a_iload 2 38), some (a_cgt 71 41), none, none, some (a_aload 0 42), some (a_getR 5 5 2 45), none, none, some (a_iload 6 47), none, some (a_iald 48)],
  [some (a_iload 5 50), none, some (a_clt 71 53), none, none, some (a_aload 0 54), some (a_getR 5 5 2 57), none, none, some (a_iload 6 59), none, some (a_iald 60), some (a_istore 5 62), none, some (a_aload 0 63), some (a_getR 5 5 3 66)],
  [none, none, some (a_iload 6 68), none, some (a_iald 69), some (a_istore 4 71), none, some (a_iinc 6 1 74), none, none, some (a_goto 10), none, none, some (a_iload 4 79), none, some (a_iret)]]
def t_X5_copyFrom : ax_T := [[some (a_aload 1 1), some (a_getR 5 5 0 4), none, none, some (a_iconst 0 5), some (a_aload 0 6), some (a_getR 5 5 0 9), none, none, some (a_iconst 0 10), some (a_iconst 6 12), none, some (a_acpy 15), none, none, some (a_aload 1 16)],
  [some (a_getR 5 5 1 19), none, none, some (a_iconst 0 20), some (a_aload 0 21), some (a_getR 5 5 1 24), none, none, some (a_iconst 0 25), some (a_iconst 9 27), none, some (a_acpy 30), none, none, some (a_aload 1 31), some (a_getR 5 5 2 34)],
  [none, none, some (a_iconst 0 35), some (a_aload 0 36), some (a_getR 5 5 2 39), none, none, some (a_iconst 0 40), some (a_iconst 9 42), none, some (a_acpy 45), none, none, some (a_aload 1 46), some (a_getR 5 5 3 49), none],
  [none, some (a_iconst 0 50), some (a_aload 0 51), some (a_getR 5 5 3 54), none, none, some (a_iconst 0 55), some (a_iconst 9 57), none, some (a_acpy 60), none, none, some (a_aload 0 61), some (a_aload 1 62), some (a_getI 5 5 4 65), none],
  [none, some (a_putI 5 5 4 68), none, none, some (a_vret)]]
def t_X6_init : ax_T := [[some (a_aload 0 1), some (a_oinit 4), none, none, some (a_aload 0 5), some (a_iconst 7 7), none, some (a_newa 100 7 9), none, some (a_putR 6 7 0 12), none, none, some (a_aload 0 13), some (a_iconst 3 14), some (a_newa 100 3 16), none],
  [some (a_putR 6 7 1 19), none, none, some (a_aload 0 20), some (a_iconst 6 22), none, some (a_newa 100 6 24), none, some (a_putR 6 7 2 27), none, none, some (a_aload 0 28), some (a_iconst 6 30), none, some (a_newa 100 6 32), none],
  [some (a_putR 6 7 3 35), none, none, some (a_vret)]]
def t_X6_clear : ax_T := [[some (a_aload 0 1), some (a_iconst 0 2), some (a_putI 6 7 4 5), none, none, some (a_aload 0 6), some (a_iconst 0 7), some (a_putI 6 7 5 10), none, none, some (a_aload 0 11), some (a_iconst 0 12), some (a_putI 6 7 6 15), none, none, some (a_vret)]]
def t_X6_addRemnant : ax_T := [[some (a_aload 0 1), some (a_getI 6 7 4 4), none, none, some (a_iconst 7 6), none, some (a_cge 19 9), none, none, some (a_iload 1 10), some (a_iconst 1 11), some (a_iconst 40 13), none, some (a_callS 100 3 16), none, none],
  [some (a_zne 21 19), none, none, some (a_iconst 0 20), some (a_zret), some (a_aload 0 22), some (a_getR 6 7 0 25), none, none, some (a_aload 0 26), some (a_getI 6 7 4 29), none, none, some (a_iload 1 30), some (a_iast 31), some (a_aload 0 32)],
  [some (a_dup 33), some (a_getI 6 7 4 36), none, none, some (a_iconst 1 37), some (a_iadd 38), some (a_putI 6 7 4 41), none, none, some (a_iconst 1 42), some (a_zret)]]
def t_X6_addOrder : ax_T := [[some (a_aload 0 1), some (a_getI 6 7 5 4), none, none, some (a_iconst 3 5), some (a_cge 18 8), none, none, some (a_iload 1 9), some (a_iconst 1 10), some (a_iconst 60 12), none, some (a_callS 100 3 15), none, none, some (a_zne 20 18)],
  [none, none, some (a_iconst 0 19), some (a_zret), some (a_aload 0 21), some (a_getR 6 7 1 24), none, none, some (a_aload 0 25), some (a_getI 6 7 5 28), none, none, some (a_iload 1 29), some (a_iast 30), some (a_aload 0 31), some (a_dup 32)],
  [some (a_getI 6 7 5 35), none, none, some (a_iconst 1 36), some (a_iadd 37), some (a_putI 6 7 5 40), none, none, some (a_iconst 1 41), some (a_zret)]]
def t_X6_addFitting : ax_T := [[some (a_aload 0 1), some (a_getI 6 7 6 4), none, none, some (a_iconst 6 6), none, some (a_cge 29 9), none, none, some (a_iload 1 10), some (a_iconst 1 11), some (a_iconst 9 13), none, some (a_callS 100 3 16), none, none],
  [some (a_zeq 29 19), none, none, some (a_iload 2 20), some (a_iconst 1 21), some (a_iconst 60 23), none, some (a_callS 100 3 26), none, none, some (a_zne 31 29), none, none, some (a_iconst 0 30), some (a_zret), some (a_aload 0 32)],
  [some (a_getR 6 7 2 35), none, none, some (a_aload 0 36), some (a_getI 6 7 6 39), none, none, some (a_iload 1 40), some (a_iast 41), some (a_aload 0 42), some (a_getR 6 7 3 45), none, none, some (a_aload 0 46), some (a_getI 6 7 6 49), none],
  [none, some (a_iload 2 50), some (a_iast 51), some (a_aload 0 52), some (a_dup 53), some (a_getI 6 7 6 56), none, none, some (a_iconst 1 57), some (a_iadd 58), some (a_putI 6 7 6 61), none, none, some (a_iconst 1 62), some (a_zret)]]
def t_X6_orderedLength : ax_T := [[some (a_iconst 0 1), some (a_istore 1 2), some (a_iconst 0 3), some (a_istore 2 4), some (a_iload 2 5), some (a_aload 0 6), some (a_getI 6 7 5 9), none, none, some (a_cge 27 12), none, none, some (a_iload 1 13), some (a_aload 0 14), some (a_getR 6 7 1 17), none],
  [none, some (a_iload 2 18), some (a_iald 19), some (a_iadd 20), some (a_istore 1 21), some (a_iinc 2 1 24), none, none, some (a_goto 4), none, none, some (a_iload 1 28), some (a_iret)]]
def t_X6_lengthFrom : ax_T := [[some (a_iconst 0 1), some (a_istore 2 2), some (a_iload 1 3), some (a_istore 3 4), some (a_iload 3 5), some (a_aload 0 6), some (a_getI 6 7 4 9), none, none, some (a_cge 27 12), none, none, some (a_iload 2 13), some (a_aload 0 14), some (a_getR 6 7 0 17), none],
  [none, some (a_iload 3 18), some (a_iald 19), some (a_iadd 20), some (a_istore 2 21), some (a_iinc 3 1 24), none, none, some (a_goto 4), none, none, some (a_iload 2 28), some (a_iret)]]
def t_X7_init : ax_T := [[some (a_aload 0 1), some (a_oinit 4), none, none, some (a_aload 0 5), some (a_iconst 6 7), none, some (a_newa 100 6 9), none, some (a_putR 7 10 0 12), none, none, some (a_aload 0 13), some (a_iconst 6 15), none, some (a_newa 100 6 17)],
  [none, some (a_putR 7 10 1 20), none, none, some (a_aload 0 21), some (a_iconst 6 23), none, some (a_newa 100 6 25), none, some (a_putR 7 10 2 28), none, none, some (a_aload 0 29), some (a_new 5 5 32), none, none],
  [some (a_dup 33), some (a_callV 5 5 19 0 36), none, none, some (a_putR 7 10 3 39), none, none, some (a_aload 0 40), some (a_iconst 6 42), none, some (a_newa 100 6 44), none, some (a_putR 7 10 4 47), none, none, some (a_aload 0 48)],
  [some (a_iconst 6 50), none, some (a_newa 100 6 52), none, some (a_putR 7 10 5 55), none, none, some (a_aload 0 56), some (a_iconst 6 58), none, some (a_newa 100 6 60), none, some (a_putR 7 10 6 63), none, none, some (a_aload 0 64)],
  [some (a_iconst 6 66), none, some (a_newa 100 6 68), none, some (a_putR 7 10 7 71), none, none, some (a_vret)]]
def t_X7_clear : ax_T := [[some (a_aload 0 1), some (a_iconst 0 2), some (a_putI 7 10 8 5), none, none, some (a_aload 0 6), some (a_iconst 0 7), some (a_putI 7 10 9 10), none, none, some (a_aload 0 11), some (a_getR 7 10 3 14), none, none, some (a_iconst 0 15), some (a_putI 5 5 4 18)],
  [none, none, some (a_vret)]]
def t_X7_hasPerson : ax_T := [[some (a_iload 1 1), some (a_zlt 16 4), none, none, some (a_iload 1 5), some (a_aload 0 6), some (a_getI 7 10 8 9), none, none, some (a_cge 16 12), none, none, some (a_iconst 1 13), some (a_goto 17), none, none],
  [some (a_iconst 0 17), some (a_zret)]]
def t_X7_addPerson : ax_T := [[some (a_aload 0 1), some (a_getI 7 10 8 4), none, none, some (a_iconst 6 6), none, some (a_cge 46 9), none, none, some (a_iload 1 10), some (a_callS 99 1 13), none, none, some (a_zeq 46 16), none, none],
  [some (a_iload 2 17), some (a_iconst 1 18), some (a_iconst 9 20), none, some (a_callS 100 3 23), none, none, some (a_zeq 46 26), none, none, some (a_iload 3 27), some (a_iconst 0 28), some (a_iconst 3 29), some (a_callS 100 3 32), none, none],
  [some (a_zeq 46 35), none, none, some (a_iload 4 37), none, some (a_iconst 0 38), some (a_iconst 20 40), none, some (a_callS 100 3 43), none, none, some (a_zne 48 46), none, none, some (a_iconst 0 47), some (a_zret)],
  [some (a_aload 0 49), some (a_getR 7 10 0 52), none, none, some (a_aload 0 53), some (a_getI 7 10 8 56), none, none, some (a_iload 1 57), some (a_iast 58), some (a_aload 0 59), some (a_getR 7 10 1 62), none, none, some (a_aload 0 63), some (a_getI 7 10 8 66)],
  [none, none, some (a_iload 2 67), some (a_iast 68), some (a_aload 0 69), some (a_getR 7 10 2 72), none, none, some (a_aload 0 73), some (a_getI 7 10 8 76), none, none, some (a_iload 3 77), some (a_iast 78), some (a_aload 0 79), some (a_getR 7 10 3 82)],
  [none, none, some (a_getR 5 5 0 85), none, none, some (a_aload 0 86), some (a_getI 7 10 8 89), none, none, some (a_iload 4 91), none, some (a_iast 92), some (a_aload 0 93), some (a_dup 94), some (a_getI 7 10 8 97), none],
  [none, some (a_iconst 1 98), some (a_iadd 99), some (a_putI 7 10 8 102), none, none, some (a_iconst 1 103), some (a_zret)]]
def t_X7_addLaw : ax_T := [[some (a_aload 0 1), some (a_getI 7 10 9 4), none, none, some (a_iconst 6 6), none, some (a_cge 34 9), none, none, some (a_aload 0 10), some (a_iload 1 11), some (a_callV 7 10 32 1 14), none, none, some (a_zeq 34 17), none],
  [none, some (a_iload 2 18), some (a_callS 97 1 21), none, none, some (a_zeq 34 24), none, none, some (a_iload 3 25), some (a_iconst 0 26), some (a_iconst 60 28), none, some (a_callS 100 3 31), none, none, some (a_zne 36 34)],
  [none, none, some (a_iconst 0 35), some (a_zret), some (a_aload 0 37), some (a_getR 7 10 4 40), none, none, some (a_aload 0 41), some (a_getI 7 10 9 44), none, none, some (a_iload 1 45), some (a_iast 46), some (a_aload 0 47), some (a_getR 7 10 5 50)],
  [none, none, some (a_aload 0 51), some (a_getI 7 10 9 54), none, none, some (a_iload 2 55), some (a_iast 56), some (a_aload 0 57), some (a_getR 7 10 6 60), none, none, some (a_aload 0 61), some (a_getI 7 10 9 64), none, none],
  [some (a_iload 3 65), some (a_iast 66), some (a_aload 0 67), some (a_dup 68), some (a_getI 7 10 9 71), none, none, some (a_iconst 1 72), some (a_iadd 73), some (a_putI 7 10 9 76), none, none, some (a_iconst 1 77), some (a_zret)]]
def t_X7_cellOf : ax_T := [[some (a_aload 0 1), some (a_getR 7 10 3 4), none, none, some (a_iload 1 5), some (a_iload 2 6), some (a_aload 0 7), some (a_getR 7 10 0 10), none, none, some (a_iload 1 11), some (a_iald 12), some (a_callV 5 5 21 3 15), none, none, some (a_iret)]]
def t_X7_cellsAt : ax_T := [[some (a_iconst 0 1), some (a_istore 2 2), some (a_iload 2 3), some (a_aload 0 4), some (a_getI 7 10 8 7), none, none, some (a_cge 28 10), none, none, some (a_aload 0 11), some (a_getR 7 10 7 14), none, none, some (a_iload 2 15), some (a_aload 0 16)],
  [some (a_iload 2 17), some (a_iload 1 18), some (a_callV 7 10 35 2 21), none, none, some (a_iast 22), some (a_iinc 2 1 25), none, none, some (a_goto 2), none, none, some (a_aload 0 29), some (a_getR 7 10 7 32), none, none],
  [some (a_aret)]]
def t_X7_drawnCells : ax_T := [[some (a_iconst 0 1), some (a_istore 3 2), some (a_iload 3 3), some (a_aload 0 4), some (a_getI 7 10 8 7), none, none, some (a_cge 60 10), none, none, some (a_lconst (7919) 13), none, none, some (a_iload 1 14), some (a_i2l 15), some (a_lmul 16)],
  [some (a_lconst (6151) 19), none, none, some (a_iload 2 20), some (a_i2l 21), some (a_lmul 22), some (a_ladd 23), some (a_lconst (3571) 26), none, none, some (a_iload 3 27), some (a_i2l 28), some (a_lmul 29), some (a_ladd 30), some (a_lconst 1 31), some (a_ladd 32)],
  [some (a_lstore 4 34), none, some (a_aload 0 35), some (a_getR 7 10 7 38), none, none, some (a_iload 3 39), some (a_lload 4 41), none, some (a_lload 4 43), none, some (a_lmul 44), some (a_lconst (65521) 47), none, none, some (a_lrem 48)],
  [some (a_lconst (61) 51), none, none, some (a_lrem 52), some (a_l2i 53), some (a_iast 54), some (a_iinc 3 1 57), none, none, some (a_goto 2), none, none, some (a_aload 0 61), some (a_getR 7 10 7 64), none, none],
  [some (a_aret)]]
def t_X7_fullLength : ax_T := [[some (a_aload 0 1), some (a_getR 7 10 1 4), none, none, some (a_iload 1 5), some (a_iald 6), some (a_iload 2 7), some (a_iconst 12 9), none, some (a_isub 10), some (a_mabs 13), none, none, some (a_imul 14), some (a_iconst 2 15), some (a_idiv 16)],
  [some (a_istore 3 17), some (a_aload 0 18), some (a_getR 7 10 2 21), none, none, some (a_iload 1 22), some (a_iald 23), some (a_iconst 2 24), some (a_cne 31 27), none, none, some (a_iconst 2 28), some (a_iload 3 29), some (a_imul 30), some (a_iret), some (a_iload 2 32)],
  [some (a_iconst 7 34), none, some (a_cle 43 37), none, none, some (a_iload 2 38), some (a_iconst 17 40), none, some (a_clt 47 43), none, none, some (a_iconst 1 44), some (a_goto 48), none, none, some (a_iconst 0 48)],
  [some (a_istore 4 50), none, some (a_aload 0 51), some (a_getR 7 10 2 54), none, none, some (a_iload 1 55), some (a_iald 56), some (a_iconst 3 57), some (a_cne 71 60), none, none, some (a_iload 4 62), none, some (a_zeq 71 65), none],
  [none, some (a_iload 3 66), some (a_iconst 1 67), some (a_iadd 68), some (a_goto 72), none, none, some (a_iload 3 72), some (a_iret)]]
def t_X7_lengthOf : ax_T := [[some (a_iconst 0 1), some (a_aload 0 2), some (a_iload 1 3), some (a_iload 2 4), some (a_callV 7 10 38 2 7), none, none, some (a_aload 0 8), some (a_getR 7 10 3 11), none, none, some (a_getR 5 5 0 14), none, none, some (a_iload 1 15), some (a_iald 16)],
  [some (a_isub 17), some (a_mmax 20), none, none, some (a_iret)]]
def t_X7_wayOf : ax_T := [[some (a_aload 0 1), some (a_getR 7 10 2 4), none, none, some (a_iload 1 5), some (a_iald 6), some (a_iconst 1 7), some (a_cne 16 10), none, none, some (a_iload 2 11), some (a_iconst 3 12), some (a_iadd 13), some (a_goto 17), none, none],
  [some (a_iload 2 17), some (a_istore 3 18), some (a_iload 3 19), some (a_iconst 12 21), none, some (a_cge 28 24), none, none, some (a_iconst (-1) 25), some (a_goto 29), none, none, some (a_iconst 1 29), some (a_iret)]]
def t_X7_endOf : ax_T := [[some (a_aload 0 1), some (a_iload 1 2), some (a_iload 2 3), some (a_callV 7 10 35 2 6), none, none, some (a_aload 0 7), some (a_iload 1 8), some (a_iload 2 9), some (a_callV 7 10 40 2 12), none, none, some (a_aload 0 13), some (a_iload 1 14), some (a_iload 2 15), some (a_callV 7 10 39 2 18)],
  [none, none, some (a_imul 19), some (a_iadd 20), some (a_iret)]]
def t_X7_lowEndOf : ax_T := [[some (a_aload 0 1), some (a_iload 1 2), some (a_iload 2 3), some (a_callV 7 10 40 2 6), none, none, some (a_zge 18 9), none, none, some (a_aload 0 10), some (a_iload 1 11), some (a_iload 2 12), some (a_callV 7 10 41 2 15), none, none, some (a_goto 26)],
  [none, none, some (a_aload 0 19), some (a_iload 1 20), some (a_iload 2 21), some (a_callV 7 10 35 2 24), none, none, some (a_iconst 1 25), some (a_iadd 26), some (a_iret)]]
def t_X7_highEndOf : ax_T := [[some (a_aload 0 1), some (a_iload 1 2), some (a_iload 2 3), some (a_callV 7 10 40 2 6), none, none, some (a_zge 20 9), none, none, some (a_aload 0 10), some (a_iload 1 11), some (a_iload 2 12), some (a_callV 7 10 35 2 15), none, none, some (a_iconst 1 16)],
  [some (a_isub 17), some (a_goto 26), none, none, some (a_aload 0 21), some (a_iload 1 22), some (a_iload 2 23), some (a_callV 7 10 41 2 26), none, none, some (a_iret)]]
def t_X7_coverersOf : ax_T := [[some (a_iconst 0 1), some (a_istore 3 2), some (a_iconst 0 3), some (a_istore 4 5), none, some (a_iload 4 7), none, some (a_aload 0 8), some (a_getI 7 10 8 11), none, none, some (a_cge 63 14), none, none, some (a_iload 1 15), some (a_aload 0 16)],
  [some (a_iload 4 18), none, some (a_iload 2 19), some (a_callV 7 10 35 2 22), none, none, some (a_isub 23), some (a_aload 0 24), some (a_iload 4 26), none, some (a_iload 2 27), some (a_callV 7 10 40 2 30), none, none, some (a_imul 31), some (a_istore 5 33)],
  [none, some (a_iload 5 35), none, some (a_zle 57 38), none, none, some (a_iload 5 40), none, some (a_aload 0 41), some (a_iload 4 43), none, some (a_iload 2 44), some (a_callV 7 10 39 2 47), none, none, some (a_cgt 57 50)],
  [none, none, some (a_iload 3 51), some (a_iconst 1 52), some (a_iload 4 54), none, some (a_ishl 55), some (a_ior 56), some (a_istore 3 57), some (a_iinc 4 1 60), none, none, some (a_goto 5), none, none, some (a_iload 3 64)],
  [some (a_iret)]]
def t_X7_standersOn : ax_T := [[some (a_aload 0 1), some (a_iload 1 2), some (a_iload 2 3), some (a_callV 7 10 40 2 6), none, none, some (a_istore 4 8), none, some (a_aload 0 9), some (a_iload 1 10), some (a_iload 2 11), some (a_callV 7 10 39 2 14), none, none, some (a_istore 5 16), none],
  [some (a_iconst 0 17), some (a_istore 6 19), none, some (a_iconst 0 20), some (a_istore 7 22), none, some (a_iload 7 24), none, some (a_aload 0 25), some (a_getI 7 10 8 28), none, none, some (a_cge 71 31), none, none, some (a_aload 3 32)],
  [some (a_iload 7 34), none, some (a_iald 35), some (a_aload 3 36), some (a_iload 1 37), some (a_iald 38), some (a_isub 39), some (a_iload 4 41), none, some (a_imul 42), some (a_istore 8 44), none, some (a_iload 8 46), none, some (a_zle 65 49), none],
  [none, some (a_iload 8 51), none, some (a_iload 5 53), none, some (a_cgt 65 56), none, none, some (a_iload 6 58), none, some (a_iconst 1 59), some (a_iload 7 61), none, some (a_ishl 62), some (a_ior 63), some (a_istore 6 65)],
  [none, some (a_iinc 7 1 68), none, none, some (a_goto 22), none, none, some (a_iload 6 73), none, some (a_iret)]]
def t_X7_firstBroken : ax_T := [[some (a_iconst 0 1), some (a_istore 1 2), some (a_iload 1 3), some (a_aload 0 4), some (a_getI 7 10 9 7), none, none, some (a_cge 43 10), none, none, some (a_aload 0 11), some (a_aload 0 12), some (a_getR 7 10 4 15), none, none, some (a_iload 1 16)],
  [some (a_iald 17), some (a_aload 0 18), some (a_getR 7 10 5 21), none, none, some (a_iload 1 22), some (a_iald 23), some (a_callV 7 10 39 2 26), none, none, some (a_aload 0 27), some (a_getR 7 10 6 30), none, none, some (a_iload 1 31), some (a_iald 32)],
  [some (a_cle 37 35), none, none, some (a_iload 1 36), some (a_iret), some (a_iinc 1 1 40), none, none, some (a_goto 2), none, none, some (a_iconst (-4) 45), none, some (a_iret)]]
def t_X7_neededByLaws : ax_T := [[some (a_iconst 0 1), some (a_istore 2 2), some (a_iconst 0 3), some (a_istore 3 4), some (a_iload 3 5), some (a_aload 0 6), some (a_getI 7 10 9 9), none, none, some (a_cge 51 12), none, none, some (a_aload 0 13), some (a_getR 7 10 4 16), none, none],
  [some (a_iload 3 17), some (a_iald 18), some (a_iload 1 19), some (a_cne 45 22), none, none, some (a_iload 2 23), some (a_aload 0 24), some (a_iload 1 25), some (a_aload 0 26), some (a_getR 7 10 5 29), none, none, some (a_iload 3 30), some (a_iald 31), some (a_callV 7 10 38 2 34)],
  [none, none, some (a_aload 0 35), some (a_getR 7 10 6 38), none, none, some (a_iload 3 39), some (a_iald 40), some (a_isub 41), some (a_mmax 44), none, none, some (a_istore 2 45), some (a_iinc 3 1 48), none, none],
  [some (a_goto 4), none, none, some (a_iload 2 52), some (a_iret)]]
def t_X7_neededByStanders : ax_T := [[some (a_iconst 0 1), some (a_istore 4 3), none, some (a_iload 2 4), some (a_istore 5 6), none, some (a_iload 5 8), none, some (a_iload 3 9), some (a_cgt 88 12), none, none, some (a_aload 0 13), some (a_iload 5 15), none, some (a_callV 7 10 36 1 18)],
  [none, none, some (a_astore 6 20), none, some (a_iconst 0 21), some (a_istore 7 23), none, some (a_iload 7 25), none, some (a_aload 0 26), some (a_getI 7 10 8 29), none, none, some (a_cge 82 32), none, none],
  [some (a_aload 6 34), none, some (a_iload 7 36), none, some (a_iald 37), some (a_aload 6 39), none, some (a_iload 1 40), some (a_iald 41), some (a_isub 42), some (a_aload 0 43), some (a_iload 1 44), some (a_iload 5 46), none, some (a_callV 7 10 40 2 49), none],
  [none, some (a_imul 50), some (a_istore 8 52), none, some (a_iload 8 54), none, some (a_zle 76 57), none, none, some (a_iload 4 59), none, some (a_aload 0 60), some (a_iload 1 61), some (a_iload 5 63), none, some (a_callV 7 10 38 2 66)],
  [none, none, some (a_iload 8 68), none, some (a_isub 69), some (a_iconst 1 70), some (a_iadd 71), some (a_mmax 74), none, none, some (a_istore 4 76), none, some (a_iinc 7 1 79), none, none, some (a_goto 23)],
  [none, none, some (a_iinc 5 1 85), none, none, some (a_goto 6), none, none, some (a_iload 4 90), none, some (a_iret)]]
def t_X7_nextWatcher : ax_T := [[some (a_iconst 1000 3), none, none, some (a_istore 3 4), some (a_iconst 0 5), some (a_istore 4 7), none, some (a_iload 4 9), none, some (a_aload 0 10), some (a_getI 7 10 8 13), none, none, some (a_cge 55 16), none, none],
  [some (a_aload 0 17), some (a_iload 4 19), none, some (a_iload 1 20), some (a_callV 7 10 39 2 23), none, none, some (a_zle 49 26), none, none, some (a_aload 0 27), some (a_iload 4 29), none, some (a_iload 1 30), some (a_callV 7 10 42 2 33), none],
  [none, some (a_iload 2 34), some (a_cle 49 37), none, none, some (a_iload 3 38), some (a_aload 0 39), some (a_iload 4 41), none, some (a_iload 1 42), some (a_callV 7 10 43 2 45), none, none, some (a_mmin 48), none, none],
  [some (a_istore 3 49), some (a_iinc 4 1 52), none, none, some (a_goto 7), none, none, some (a_iload 3 56), some (a_iret)]]
def t_X8_init : ax_T := [[some (a_aload 0 1), some (a_oinit 4), none, none, some (a_aload 0 5), some (a_iconst 200 8), none, none, some (a_newa 101 200 10), none, some (a_putR 8 2 0 13), none, none, some (a_vret)]]
def t_X8_add : ax_T := [[some (a_aload 0 1), some (a_getI 8 2 1 4), none, none, some (a_iconst 200 7), none, none, some (a_clt 12 10), none, none, some (a_iconst 0 11), some (a_zret), some (a_aload 0 13), some (a_getR 8 2 0 16), none, none],
  [some (a_aload 0 17), some (a_getI 8 2 1 20), none, none, some (a_iload 1 21), some (a_cast 22), some (a_aload 0 23), some (a_dup 24), some (a_getI 8 2 1 27), none, none, some (a_iconst 1 28), some (a_iadd 29), some (a_putI 8 2 1 32), none, none],
  [some (a_iconst 1 33), some (a_zret)]]
def t_X8_put : ax_T := [[some (a_iconst 0 1), some (a_istore 2 2), some (a_iload 2 3), some (a_aload 1 4), some (a_callX 174 0 7), none, none, some (a_cge 26 10), none, none, some (a_aload 0 11), some (a_aload 1 12), some (a_iload 2 13), some (a_callX 175 1 16), none, none],
  [some (a_callV 8 2 51 1 19), none, none, some (a_pop 20), some (a_iinc 2 1 23), none, none, some (a_goto 2), none, none, some (a_vret)]]
def t_X8_signAt : ax_T := [[some (a_iload 1 1), some (a_zlt 21 4), none, none, some (a_iload 1 5), some (a_aload 0 6), some (a_getI 8 2 1 9), none, none, some (a_cge 21 12), none, none, some (a_aload 0 13), some (a_getR 8 2 0 16), none, none],
  [some (a_iload 1 17), some (a_cald 18), some (a_goto 22), none, none, some (a_iconst 0 22), some (a_cret)]]
def t_X9_init : ax_T := [[some (a_aload 0 1), some (a_oinit 4), none, none, some (a_aload 0 5), some (a_iconst 4 6), some (a_newa 100 4 8), none, some (a_putR 9 1 0 11), none, none, some (a_vret)]]
def t_X9_readInto : ax_T := [[some (a_aload 2 1), some (a_callV 3 2 13 0 4), none, none, some (a_iconst 0 5), some (a_istore 3 6), some (a_iconst 0 7), some (a_istore 4 9), none, some (a_iload 4 11), none, some (a_iconst 200 14), none, none, some (a_cge 75 17), none],
  [none, some (a_iload 3 18), some (a_aload 1 19), some (a_getI 8 2 1 22), none, none, some (a_cge 75 25), none, none, some (a_aload 1 26), some (a_iload 3 27), some (a_callV 8 2 53 1 30), none, none, some (a_istore 5 32), none],
  [some (a_aload 0 33), some (a_aload 1 34), some (a_iload 3 35), some (a_iconst 1 36), some (a_iadd 37), some (a_iload 5 39), none, some (a_callS 56 1 42), none, none, some (a_callV 9 1 57 3 45), none, none, some (a_istore 6 47), none, some (a_iload 6 49)],
  [none, some (a_iconst (-4) 51), none, some (a_ceq 64 54), none, none, some (a_aload 0 55), some (a_aload 2 56), some (a_iload 5 58), none, some (a_callV 9 1 59 2 61), none, none, some (a_zne 66 64), none, none],
  [some (a_iload 3 65), some (a_iret), some (a_iload 6 68), none, some (a_istore 3 69), some (a_iinc 4 1 72), none, none, some (a_goto 9), none, none, some (a_iconst (-4) 77), none, some (a_iret)]]
def t_X9_numbersOf : ax_T := [[some (a_iload 0 1), some (a_tsw 102 119 [92, 96, 96, 96, 96, 96, 90, 96, 96, 94, 88, 96, 94, 96, 96, 96, 96, 90] 96), none, none, none, none, none, none, none, none, none, none, none, none, none, none],
  [none, none, none, none, none, none, none, none, none, none, none, none, none, none, none, none],
  [none, none, none, none, none, none, none, none, none, none, none, none, none, none, none, none],
  [none, none, none, none, none, none, none, none, none, none, none, none, none, none, none, none],
  [none, none, none, none, none, none, none, none, none, none, none, none, none, none, none, none],
  [none, none, none, none, none, none, none, none, some (a_iconst 4 89), some (a_iret), some (a_iconst 3 91), some (a_iret), some (a_iconst 2 93), some (a_iret), some (a_iconst 1 95), some (a_iret)],
  [some (a_iconst 0 97), some (a_iret)]]
def t_X9_readNumbers : ax_T := [[some (a_iload 3 1), some (a_iconst 1 2), some (a_clt 10 5), none, none, some (a_iload 3 6), some (a_iconst 4 7), some (a_cle 13 10), none, none, some (a_iconst (-4) 12), none, some (a_iret), some (a_iload 2 14), some (a_istore 4 16), none],
  [some (a_iconst 0 17), some (a_istore 5 19), none, some (a_iload 5 21), none, some (a_iload 3 22), some (a_cge 127 25), none, none, some (a_aload 1 26), some (a_iload 4 28), none, some (a_callS 58 2 31), none, none, some (a_istore 6 33)],
  [none, some (a_iload 6 35), none, some (a_iconst (-4) 37), none, some (a_cne 43 40), none, none, some (a_iconst (-4) 42), none, some (a_iret), some (a_iinc 4 1 46), none, none, some (a_aload 1 47), some (a_iload 4 49)],
  [none, some (a_callS 58 2 52), none, none, some (a_istore 7 54), none, some (a_iload 7 56), none, some (a_iconst (-4) 58), none, some (a_cne 73 61), none, none, some (a_aload 0 62), some (a_getR 9 1 0 65), none],
  [none, some (a_iload 5 67), none, some (a_iload 6 69), none, some (a_iast 70), some (a_goto 91), none, none, some (a_aload 0 74), some (a_getR 9 1 0 77), none, none, some (a_iload 5 79), none, some (a_iconst 10 81)],
  [none, some (a_iload 6 83), none, some (a_imul 84), some (a_iload 7 86), none, some (a_iadd 87), some (a_iast 88), some (a_iinc 4 1 91), none, none, some (a_aload 1 92), some (a_iload 4 94), none, some (a_callV 8 2 53 1 97), none],
  [none, some (a_iload 5 99), none, some (a_iload 3 100), some (a_iconst 1 101), some (a_isub 102), some (a_cne 110 105), none, none, some (a_iconst 59 107), none, some (a_goto 112), none, none, some (a_iconst 44 112), none],
  [some (a_ceq 118 115), none, none, some (a_iconst (-4) 117), none, some (a_iret), some (a_iinc 4 1 121), none, none, some (a_iinc 5 1 124), none, none, some (a_goto 19), none, none, some (a_iload 4 129)],
  [none, some (a_iret)]]
def t_X9_figureAt : ax_T := [[some (a_aload 0 1), some (a_iload 1 2), some (a_callV 8 2 53 1 5), none, none, some (a_istore 2 6), some (a_iload 2 7), some (a_iconst 48 9), none, some (a_clt 25 12), none, none, some (a_iload 2 13), some (a_iconst 57 15), none, some (a_cgt 25 18)],
  [none, none, some (a_iload 2 19), some (a_iconst 48 21), none, some (a_isub 22), some (a_goto 27), none, none, some (a_iconst (-4) 27), none, some (a_iret)]]
def t_X9_addItem : ax_T := [[some (a_aload 1 1), some (a_getR 3 2 0 4), none, none, some (a_astore 3 5), some (a_aload 1 6), some (a_getR 3 2 1 9), none, none, some (a_astore 4 11), none, some (a_iload 2 12), some (a_tsw 102 119 [247, 265, 265, 265, 265, 265, 200, 265, 265, 235, 100, 265, 223, 265, 265, 265, 265, 129] 265), none, none, none],
  [none, none, none, none, none, none, none, none, none, none, none, none, none, none, none, none],
  [none, none, none, none, none, none, none, none, none, none, none, none, none, none, none, none],
  [none, none, none, none, none, none, none, none, none, none, none, none, none, none, none, none],
  [none, none, none, none, none, none, none, none, none, none, none, none, none, none, none, none],
  [none, none, none, none, none, none, none, none, none, none, none, none, none, none, none, none],
  [none, none, none, none, some (a_aload 3 101), some (a_aload 0 102), some (a_getR 9 1 0 105), none, none, some (a_iconst 0 106), some (a_iald 107), some (a_aload 0 108), some (a_getR 9 1 0 111), none, none, some (a_iconst 1 112)],
  [some (a_iald 113), some (a_aload 0 114), some (a_getR 9 1 0 117), none, none, some (a_iconst 2 118), some (a_iald 119), some (a_aload 0 120), some (a_getR 9 1 0 123), none, none, some (a_iconst 3 124), some (a_iald 125), some (a_callV 7 10 33 4 128), none, none],
  [some (a_zret), some (a_aload 3 130), some (a_aload 0 131), some (a_getR 9 1 0 134), none, none, some (a_iconst 0 135), some (a_iald 136), some (a_callV 7 10 32 1 139), none, none, some (a_zeq 198 142), none, none, some (a_aload 0 143), some (a_getR 9 1 0 146)],
  [none, none, some (a_iconst 1 147), some (a_iald 148), some (a_callS 97 1 151), none, none, some (a_zeq 198 154), none, none, some (a_aload 0 155), some (a_getR 9 1 0 158), none, none, some (a_iconst 2 159), some (a_iald 160)],
  [some (a_callS 99 1 163), none, none, some (a_zeq 198 166), none, none, some (a_aload 3 167), some (a_getR 7 10 3 170), none, none, some (a_aload 0 171), some (a_getR 9 1 0 174), none, none, some (a_iconst 0 175), some (a_iald 176)],
  [some (a_aload 0 177), some (a_getR 9 1 0 180), none, none, some (a_iconst 1 181), some (a_iald 182), some (a_aload 0 183), some (a_getR 9 1 0 186), none, none, some (a_iconst 2 187), some (a_iald 188), some (a_callV 5 5 20 3 191), none, none, some (a_zeq 198 194)],
  [none, none, some (a_iconst 1 195), some (a_goto 199), none, none, some (a_iconst 0 199), some (a_zret), some (a_aload 3 201), some (a_aload 0 202), some (a_getR 9 1 0 205), none, none, some (a_iconst 0 206), some (a_iald 207), some (a_aload 0 208)],
  [some (a_getR 9 1 0 211), none, none, some (a_iconst 1 212), some (a_iald 213), some (a_aload 0 214), some (a_getR 9 1 0 217), none, none, some (a_iconst 2 218), some (a_iald 219), some (a_callV 7 10 34 3 222), none, none, some (a_zret), some (a_aload 4 225)],
  [none, some (a_aload 0 226), some (a_getR 9 1 0 229), none, none, some (a_iconst 0 230), some (a_iald 231), some (a_callV 6 7 25 1 234), none, none, some (a_zret), some (a_aload 4 237), none, some (a_aload 0 238), some (a_getR 9 1 0 241), none],
  [none, some (a_iconst 0 242), some (a_iald 243), some (a_callV 6 7 26 1 246), none, none, some (a_zret), some (a_aload 4 249), none, some (a_aload 0 250), some (a_getR 9 1 0 253), none, none, some (a_iconst 0 254), some (a_iald 255), some (a_aload 0 256)],
  [some (a_getR 9 1 0 259), none, none, some (a_iconst 1 260), some (a_iald 261), some (a_callV 6 7 27 2 264), none, none, some (a_zret), some (a_iconst 0 266), some (a_zret)]]
def t_X10_init : ax_T := [[some (a_aload 0 1), some (a_oinit 4), none, none, some (a_aload 0 5), some (a_iconst 6 7), none, some (a_newa 100 6 9), none, some (a_putR 10 6 0 12), none, none, some (a_aload 0 13), some (a_iconst 6 15), none, some (a_newa 100 6 17)],
  [none, some (a_putR 10 6 1 20), none, none, some (a_vret)]]
def t_X10_seek : ax_T := [[some (a_aload 0 1), some (a_iconst 1 2), some (a_putZ 10 6 2 5), none, none, some (a_aload 0 6), some (a_iconst 0 7), some (a_putZ 10 6 3 10), none, none, some (a_aload 0 11), some (a_aload 1 12), some (a_iconst 0 13), some (a_iconst 0 14), some (a_iconst 0 15), some (a_iconst 0 16)],
  [some (a_iconst 0 17), some (a_callV 10 6 62 6 20), none, none, some (a_vret)]]
def t_X10_seekFrom : ax_T := [[some (a_aload 0 1), some (a_getI 10 6 3 4), none, none, some (a_zeq 35 7), none, none, some (a_iload 5 9), none, some (a_aload 0 10), some (a_getI 10 6 4 13), none, none, some (a_cgt 34 16), none, none],
  [some (a_iload 5 18), none, some (a_aload 0 19), some (a_getI 10 6 4 22), none, none, some (a_cne 35 25), none, none, some (a_iload 6 27), none, some (a_aload 0 28), some (a_getI 10 6 5 31), none, none, some (a_clt 35 34)],
  [none, none, some (a_vret), some (a_iload 2 36), some (a_aload 1 37), some (a_getI 6 7 6 40), none, none, some (a_clt 53 43), none, none, some (a_aload 0 44), some (a_aload 1 45), some (a_iload 5 47), none, some (a_iload 6 49)],
  [none, some (a_callV 10 6 63 3 52), none, none, some (a_vret), some (a_iconst 0 54), some (a_istore 7 56), none, some (a_iload 7 58), none, some (a_aload 1 59), some (a_getI 6 7 6 62), none, none, some (a_cge 151 65), none],
  [none, some (a_iload 3 66), some (a_iload 7 68), none, some (a_ishr 69), some (a_iconst 1 70), some (a_iand 71), some (a_zne 145 74), none, none, some (a_aload 0 75), some (a_getR 10 6 0 78), none, none, some (a_iload 2 79), some (a_iload 7 81)],
  [none, some (a_iast 82), some (a_iload 4 84), none, some (a_aload 1 85), some (a_getR 6 7 2 88), none, none, some (a_iload 7 90), none, some (a_iald 91), some (a_iadd 92), some (a_istore 8 94), none, some (a_iconst 0 95), some (a_iload 8 97)],
  [none, some (a_aload 1 98), some (a_getR 6 7 3 101), none, none, some (a_iload 7 103), none, some (a_iald 104), some (a_isub 105), some (a_mmax 108), none, none, some (a_istore 9 110), none, some (a_aload 0 111), some (a_aload 1 112)],
  [some (a_iload 2 113), some (a_iconst 1 114), some (a_iadd 115), some (a_iload 3 116), some (a_iconst 1 117), some (a_iload 7 119), none, some (a_ishl 120), some (a_ior 121), some (a_iload 8 123), none, some (a_iload 9 125), none, some (a_zle 135 128), none, none],
  [some (a_iload 5 130), none, some (a_iconst 1 131), some (a_iadd 132), some (a_goto 137), none, none, some (a_iload 5 137), none, some (a_iload 6 139), none, some (a_iload 9 141), none, some (a_iadd 142), some (a_callV 10 6 62 6 145), none],
  [none, some (a_iinc 7 1 148), none, none, some (a_goto 56), none, none, some (a_vret)]]
def t_X10_take : ax_T := [[some (a_aload 0 1), some (a_iconst 1 2), some (a_putZ 10 6 3 5), none, none, some (a_aload 0 6), some (a_iload 2 7), some (a_putI 10 6 4 10), none, none, some (a_aload 0 11), some (a_iload 3 12), some (a_putI 10 6 5 15), none, none, some (a_iconst 0 16)],
  [some (a_istore 4 18), none, some (a_iload 4 20), none, some (a_aload 1 21), some (a_getI 6 7 6 24), none, none, some (a_cge 47 27), none, none, some (a_aload 0 28), some (a_getR 10 6 1 31), none, none, some (a_iload 4 33)],
  [none, some (a_aload 0 34), some (a_getR 10 6 0 37), none, none, some (a_iload 4 39), none, some (a_iald 40), some (a_iast 41), some (a_iinc 4 1 44), none, none, some (a_goto 18), none, none, some (a_vret)]]
def t_X11_init : ax_T := [[some (a_aload 0 1), some (a_oinit 4), none, none, some (a_aload 0 5), some (a_new 8 2 8), none, none, some (a_dup 9), some (a_callV 8 2 50 0 12), none, none, some (a_putR 11 9 0 15), none, none, some (a_aload 0 16)],
  [some (a_new 9 1 19), none, none, some (a_dup 20), some (a_callV 9 1 54 0 23), none, none, some (a_putR 11 9 1 26), none, none, some (a_aload 0 27), some (a_new 0 3 30), none, none, some (a_dup 31), some (a_callV 0 3 0 0 34)],
  [none, none, some (a_putR 11 9 2 37), none, none, some (a_aload 0 38), some (a_new 2 2 41), none, none, some (a_dup 42), some (a_callV 2 2 9 0 45), none, none, some (a_putR 11 9 3 48), none, none],
  [some (a_aload 0 49), some (a_new 4 3 52), none, none, some (a_dup 53), some (a_callV 4 3 14 0 56), none, none, some (a_putR 11 9 4 59), none, none, some (a_aload 0 60), some (a_new 1 7 63), none, none, some (a_dup 64)],
  [some (a_callV 1 7 4 0 67), none, none, some (a_putR 11 9 5 70), none, none, some (a_aload 0 71), some (a_new 10 6 74), none, none, some (a_dup 75), some (a_callV 10 6 60 0 78), none, none, some (a_putR 11 9 6 81), none],
  [none, some (a_aload 0 82), some (a_new 3 2 85), none, none, some (a_dup 86), some (a_callV 3 2 12 0 89), none, none, some (a_putR 11 9 7 92), none, none, some (a_aload 0 93), some (a_new 3 2 96), none, none],
  [some (a_dup 97), some (a_callV 3 2 12 0 100), none, none, some (a_putR 11 9 8 103), none, none, some (a_aload 0 104), some (a_getR 11 9 0 107), none, none, some (a_ldcs 109), none, some (a_callV 8 2 52 1 112), none, none],
  [some (a_aload 0 113), some (a_getR 11 9 1 116), none, none, some (a_aload 0 117), some (a_getR 11 9 0 120), none, none, some (a_aload 0 121), some (a_getR 11 9 7 124), none, none, some (a_callV 9 1 55 2 127), none, none, some (a_pop 128)],
  [some (a_aload 0 129), some (a_getR 11 9 0 132), none, none, some (a_iconst 0 133), some (a_putI 8 2 1 136), none, none, some (a_vret)]]
def t_X11_write : ax_T := [[some (a_iload 1 1), some (a_iconst 32 3), none, some (a_clt 12 6), none, none, some (a_iload 1 7), some (a_iconst 126 9), none, some (a_cle 14 12), none, none, some (a_iconst (-1) 13), some (a_iret), some (a_aload 0 15), some (a_getR 11 9 0 18)],
  [none, none, some (a_iload 1 19), some (a_i2c 20), some (a_callV 8 2 51 1 23), none, none, some (a_zeq 36 26), none, none, some (a_aload 0 27), some (a_getR 11 9 0 30), none, none, some (a_getI 8 2 1 33), none],
  [none, some (a_goto 38), none, none, some (a_iconst (-3) 38), none, some (a_iret)]]
def t_X11_wipe : ax_T := [[some (a_aload 0 1), some (a_getR 11 9 0 4), none, none, some (a_getI 8 2 1 7), none, none, some (a_istore 1 8), some (a_aload 0 9), some (a_getR 11 9 0 12), none, none, some (a_iconst 0 13), some (a_putI 8 2 1 16), none, none],
  [some (a_iload 1 17), some (a_iret)]]
def t_X11_fault : ax_T := [[some (a_aload 0 1), some (a_getR 11 9 1 4), none, none, some (a_aload 0 5), some (a_getR 11 9 0 8), none, none, some (a_aload 0 9), some (a_getR 11 9 8 12), none, none, some (a_callV 9 1 55 2 15), none, none, some (a_iret)]]
def t_X11_lay : ax_T := [[some (a_aload 0 1), some (a_getR 11 9 1 4), none, none, some (a_aload 0 5), some (a_getR 11 9 0 8), none, none, some (a_aload 0 9), some (a_getR 11 9 8 12), none, none, some (a_callV 9 1 55 2 15), none, none, some (a_iconst (-4) 17)],
  [none, some (a_cne 33 20), none, none, some (a_aload 0 21), some (a_getR 11 9 8 24), none, none, some (a_getR 3 2 0 27), none, none, some (a_getI 7 10 8 30), none, none, some (a_zne 36 33), none],
  [none, some (a_iconst (-2) 35), none, some (a_iret), some (a_aload 0 37), some (a_getR 11 9 7 40), none, none, some (a_astore 1 41), some (a_aload 0 42), some (a_aload 0 43), some (a_getR 11 9 8 46), none, none, some (a_putR 11 9 7 49), none],
  [none, some (a_aload 0 50), some (a_aload 1 51), some (a_putR 11 9 8 54), none, none, some (a_aload 0 55), some (a_getR 11 9 4 58), none, none, some (a_iconst 0 59), some (a_putI 4 3 2 62), none, none, some (a_aload 0 63), some (a_getR 11 9 2 66)],
  [none, none, some (a_iconst 0 67), some (a_putI 0 3 2 70), none, none, some (a_aload 0 71), some (a_getR 11 9 3 74), none, none, some (a_iconst 0 75), some (a_putI 2 2 1 78), none, none, some (a_aload 0 79), some (a_getR 11 9 5 82)],
  [none, none, some (a_iconst 0 83), some (a_putZ 1 7 3 86), none, none, some (a_aload 0 87), some (a_getR 11 9 6 90), none, none, some (a_iconst 0 91), some (a_putZ 10 6 2 94), none, none, some (a_aload 0 95), some (a_getR 11 9 7 98)],
  [none, none, some (a_getR 3 2 0 101), none, none, some (a_getI 7 10 8 104), none, none, some (a_iret)]]
def t_X11_person : ax_T := [[some (a_aload 0 1), some (a_iload 1 2), some (a_callV 11 9 95 1 5), none, none, some (a_zne 10 8), none, none, some (a_iconst (-1) 9), some (a_iret), some (a_iload 2 11), some (a_tsw 0 2 [36, 49, 62] 81), none, none, none, none],
  [none, none, none, none, none, none, none, none, none, none, none, none, none, none, none, none],
  [none, none, none, none, some (a_aload 0 37), some (a_getR 11 9 7 40), none, none, some (a_getR 3 2 0 43), none, none, some (a_getR 7 10 1 46), none, none, some (a_iload 1 47), some (a_iald 48)],
  [some (a_iret), some (a_aload 0 50), some (a_getR 11 9 7 53), none, none, some (a_getR 3 2 0 56), none, none, some (a_getR 7 10 2 59), none, none, some (a_iload 1 60), some (a_iald 61), some (a_iret), some (a_aload 0 63), some (a_getR 11 9 7 66)],
  [none, none, some (a_getR 3 2 0 69), none, none, some (a_getR 7 10 3 72), none, none, some (a_getR 5 5 0 75), none, none, some (a_iload 1 76), some (a_iald 77), some (a_iconst 9 79), none, some (a_iadd 80)],
  [some (a_iret), some (a_iconst (-1) 82), some (a_iret)]]
def t_X11_where : ax_T := [[some (a_aload 0 1), some (a_iload 1 2), some (a_callV 11 9 95 1 5), none, none, some (a_zeq 30 8), none, none, some (a_iload 2 9), some (a_callS 97 1 12), none, none, some (a_zeq 30 15), none, none, some (a_aload 0 16)],
  [some (a_getR 11 9 7 19), none, none, some (a_getR 3 2 0 22), none, none, some (a_iload 1 23), some (a_iload 2 24), some (a_callV 7 10 35 2 27), none, none, some (a_goto 31), none, none, some (a_iconst (-1) 31), some (a_iret)]]
def t_X11_shadow : ax_T := [[some (a_aload 0 1), some (a_iload 1 2), some (a_callV 11 9 95 1 5), none, none, some (a_zeq 24 8), none, none, some (a_iload 2 9), some (a_callS 97 1 12), none, none, some (a_zeq 24 15), none, none, some (a_iload 3 16)],
  [some (a_zlt 24 19), none, none, some (a_iload 3 20), some (a_iconst 2 21), some (a_cle 26 24), none, none, some (a_iconst (-1) 25), some (a_iret), some (a_aload 0 27), some (a_getR 11 9 7 30), none, none, some (a_getR 3 2 0 33), none],
  [none, some (a_iload 1 34), some (a_iload 2 35), some (a_callV 7 10 39 2 38), none, none, some (a_istore 4 40), none, some (a_iload 3 41), some (a_zne 47 44), none, none, some (a_iload 4 46), none, some (a_iret), some (a_iload 4 49)],
  [none, some (a_zne 55 52), none, none, some (a_iconst (-4) 54), none, some (a_iret), some (a_iconst 200 58), none, none, some (a_iload 3 59), some (a_iconst 1 60), some (a_cne 78 63), none, none, some (a_aload 0 64)],
  [some (a_getR 11 9 7 67), none, none, some (a_getR 3 2 0 70), none, none, some (a_iload 1 71), some (a_iload 2 72), some (a_callV 7 10 42 2 75), none, none, some (a_goto 90), none, none, some (a_aload 0 79), some (a_getR 11 9 7 82)],
  [none, none, some (a_getR 3 2 0 85), none, none, some (a_iload 1 86), some (a_iload 2 87), some (a_callV 7 10 43 2 90), none, none, some (a_iadd 91), some (a_iret)]]
def t_X11_covers : ax_T := [[some (a_iload 1 1), some (a_callS 99 1 4), none, none, some (a_zeq 29 7), none, none, some (a_iload 2 8), some (a_callS 97 1 11), none, none, some (a_zeq 29 14), none, none, some (a_aload 0 15), some (a_getR 11 9 7 18)],
  [none, none, some (a_getR 3 2 0 21), none, none, some (a_iload 1 22), some (a_iload 2 23), some (a_callV 7 10 44 2 26), none, none, some (a_goto 30), none, none, some (a_iconst (-1) 30), some (a_iret)]]
def t_X11_stands : ax_T := [[some (a_aload 0 1), some (a_iload 1 2), some (a_callV 11 9 95 1 5), none, none, some (a_zeq 24 8), none, none, some (a_iload 2 9), some (a_callS 97 1 12), none, none, some (a_zeq 24 15), none, none, some (a_aload 0 16)],
  [some (a_iload 1 17), some (a_iload 2 18), some (a_callV 11 9 96 2 21), none, none, some (a_goto 25), none, none, some (a_iconst (-1) 25), some (a_iret)]]
def t_X11_wear : ax_T := [[some (a_aload 0 1), some (a_iload 1 2), some (a_callV 11 9 95 1 5), none, none, some (a_zeq 15 8), none, none, some (a_iload 2 9), some (a_callS 97 1 12), none, none, some (a_zne 17 15), none, none, some (a_iconst (-1) 16)],
  [some (a_iret), some (a_iconst 0 18), some (a_istore 3 19), some (a_iconst 6 21), none, some (a_istore 4 23), none, some (a_iload 4 25), none, some (a_iload 2 26), some (a_cgt 48 29), none, none, some (a_iload 3 30), some (a_aload 0 31), some (a_iload 1 32)],
  [some (a_iload 4 34), none, some (a_callV 11 9 96 2 37), none, none, some (a_callS 173 1 40), none, none, some (a_iadd 41), some (a_istore 3 42), some (a_iinc 4 1 45), none, none, some (a_goto 23), none, none],
  [some (a_iload 3 49), some (a_iret)]]
def t_X11_alter : ax_T := [[some (a_aload 0 1), some (a_iload 1 2), some (a_callV 11 9 95 1 5), none, none, some (a_zeq 18 8), none, none, some (a_iload 2 9), some (a_zlt 18 12), none, none, some (a_iload 2 13), some (a_iconst 29 15), none, some (a_cle 20 18)],
  [none, none, some (a_iconst (-1) 19), some (a_iret), some (a_aload 0 21), some (a_getR 11 9 7 24), none, none, some (a_getR 3 2 0 27), none, none, some (a_getR 7 10 3 30), none, none, some (a_astore 3 31), some (a_aload 3 32)],
  [some (a_getR 5 5 0 35), none, none, some (a_iload 1 36), some (a_iald 37), some (a_istore 4 39), none, some (a_aload 3 40), some (a_getR 5 5 0 43), none, none, some (a_iload 1 44), some (a_iload 2 45), some (a_iconst 9 47), none, some (a_isub 48)],
  [some (a_iast 49), some (a_aload 0 50), some (a_getR 11 9 2 53), none, none, some (a_iload 1 54), some (a_iload 4 56), none, some (a_callV 0 3 1 2 59), none, none, some (a_iload 4 61), none, some (a_iconst 9 63), none, some (a_iadd 64)],
  [some (a_iret)]]
def t_X11_walk : ax_T := [[some (a_aload 0 1), some (a_iload 1 2), some (a_callV 11 9 95 1 5), none, none, some (a_zeq 22 8), none, none, some (a_iload 2 9), some (a_callS 97 1 12), none, none, some (a_zeq 22 15), none, none, some (a_iload 3 16)],
  [some (a_callS 99 1 19), none, none, some (a_zne 24 22), none, none, some (a_iconst (-1) 23), some (a_iret), some (a_aload 0 25), some (a_getR 11 9 7 28), none, none, some (a_getR 3 2 0 31), none, none, some (a_getR 7 10 3 34)],
  [none, none, some (a_iload 1 35), some (a_iload 2 36), some (a_iload 3 37), some (a_callV 5 5 20 3 40), none, none, some (a_zne 46 43), none, none, some (a_iconst (-3) 45), none, some (a_iret), some (a_aload 0 47), some (a_getR 11 9 2 50)],
  [none, none, some (a_iconst (-1) 51), some (a_iconst 0 52), some (a_callV 0 3 1 2 55), none, none, some (a_aload 0 56), some (a_getR 11 9 7 59), none, none, some (a_getR 3 2 0 62), none, none, some (a_getR 7 10 3 65), none],
  [none, some (a_getI 5 5 4 68), none, none, some (a_iret)]]
def t_X11_undo : ax_T := [[some (a_aload 0 1), some (a_getR 11 9 2 4), none, none, some (a_aload 0 5), some (a_getR 11 9 7 8), none, none, some (a_getR 3 2 0 11), none, none, some (a_getR 7 10 3 14), none, none, some (a_callV 0 3 3 1 17), none],
  [none, some (a_zeq 30 20), none, none, some (a_aload 0 21), some (a_getR 11 9 2 24), none, none, some (a_getI 0 3 2 27), none, none, some (a_goto 32), none, none, some (a_iconst (-2) 32), none],
  [some (a_iret)]]
def t_X11_first : ax_T := [[some (a_iload 1 1), some (a_zlt 9 4), none, none, some (a_iload 1 5), some (a_iconst 2 6), some (a_cle 11 9), none, none, some (a_iconst (-1) 10), some (a_iret), some (a_iconst 6 13), none, some (a_istore 2 14), some (a_iload 2 15), some (a_iconst 18 17)],
  [none, some (a_cgt 84 20), none, none, some (a_iconst 0 21), some (a_istore 3 22), some (a_iload 3 23), some (a_aload 0 24), some (a_getR 11 9 7 27), none, none, some (a_getR 3 2 0 30), none, none, some (a_getI 7 10 8 33), none],
  [none, some (a_cge 78 36), none, none, some (a_aload 0 37), some (a_iload 3 38), some (a_iload 2 39), some (a_callV 11 9 96 2 42), none, none, some (a_istore 4 44), none, some (a_iload 4 46), none, some (a_zeq 72 49), none],
  [none, some (a_iload 1 50), some (a_zne 57 53), none, none, some (a_iload 2 54), some (a_goto 71), none, none, some (a_iload 1 58), some (a_iconst 1 59), some (a_cne 66 62), none, none, some (a_iload 3 63), some (a_goto 71)],
  [none, none, some (a_iload 4 68), none, some (a_callS 172 1 71), none, none, some (a_iret), some (a_iinc 3 1 75), none, none, some (a_goto 22), none, none, some (a_iinc 2 1 81), none],
  [none, some (a_goto 14), none, none, some (a_iconst (-4) 86), none, some (a_iret)]]
def t_X11_broken : ax_T := [[some (a_aload 0 1), some (a_getR 11 9 7 4), none, none, some (a_getR 3 2 0 7), none, none, some (a_callV 7 10 46 0 10), none, none, some (a_iret)]]
def t_X11_taken : ax_T := [[some (a_aload 0 1), some (a_iload 1 2), some (a_callV 11 9 95 1 5), none, none, some (a_zeq 16 8), none, none, some (a_iload 2 9), some (a_iload 3 10), some (a_callS 98 2 13), none, none, some (a_zne 18 16), none, none],
  [some (a_iconst (-1) 17), some (a_iret), some (a_aload 0 19), some (a_getR 11 9 7 22), none, none, some (a_getR 3 2 0 25), none, none, some (a_iload 1 26), some (a_callV 7 10 47 1 29), none, none, some (a_aload 0 30), some (a_getR 11 9 7 33), none],
  [none, some (a_getR 3 2 0 36), none, none, some (a_iload 1 37), some (a_iload 2 38), some (a_iload 3 39), some (a_callV 7 10 48 3 42), none, none, some (a_mmax 45), none, none, some (a_istore 4 47), none, some (a_iload 4 49)],
  [none, some (a_iconst 20 51), none, some (a_cgt 59 54), none, none, some (a_iload 4 56), none, some (a_goto 61), none, none, some (a_iconst (-4) 61), none, some (a_iret)]]
def t_X11_seen : ax_T := [[some (a_iload 1 1), some (a_callS 97 1 4), none, none, some (a_zeq 18 7), none, none, some (a_iload 2 8), some (a_zlt 18 11), none, none, some (a_iload 2 12), some (a_iconst 140 15), none, none, some (a_cle 20 18)],
  [none, none, some (a_iconst (-1) 19), some (a_iret), some (a_aload 0 21), some (a_getR 11 9 4 24), none, none, some (a_iload 1 25), some (a_iload 2 26), some (a_iconst 40 28), none, some (a_isub 29), some (a_callV 4 3 15 2 32), none, none],
  [some (a_zeq 45 35), none, none, some (a_aload 0 36), some (a_getR 11 9 4 39), none, none, some (a_getI 4 3 2 42), none, none, some (a_goto 47), none, none, some (a_iconst (-3) 47), none, some (a_iret)]]
def t_X11_forget : ax_T := [[some (a_aload 0 1), some (a_getR 11 9 4 4), none, none, some (a_getI 4 3 2 7), none, none, some (a_istore 1 8), some (a_aload 0 9), some (a_getR 11 9 4 12), none, none, some (a_iconst 0 13), some (a_putI 4 3 2 16), none, none],
  [some (a_iload 1 17), some (a_iret)]]
def t_X11_whose : ax_T := [[some (a_aload 0 1), some (a_getR 11 9 4 4), none, none, some (a_aload 0 5), some (a_getR 11 9 7 8), none, none, some (a_getR 3 2 0 11), none, none, some (a_callV 4 3 16 1 14), none, none, some (a_iret)]]
def t_X11_look : ax_T := [[some (a_iload 1 1), some (a_zlt 9 4), none, none, some (a_iload 1 5), some (a_iconst 1 6), some (a_cle 11 9), none, none, some (a_iconst (-1) 10), some (a_iret), some (a_aload 0 12), some (a_getR 11 9 4 15), none, none, some (a_aload 0 16)],
  [some (a_getR 11 9 7 19), none, none, some (a_getR 3 2 0 22), none, none, some (a_callV 4 3 16 1 25), none, none, some (a_istore 2 26), some (a_iload 2 27), some (a_zne 33 30), none, none, some (a_iconst (-4) 32), none],
  [some (a_iret), some (a_iconst 6 35), none, some (a_istore 3 36), some (a_iconst 7 38), none, some (a_istore 4 40), none, some (a_iconst 6 42), none, some (a_istore 5 44), none, some (a_iload 5 46), none, some (a_iconst 18 48), none],
  [some (a_cgt 86 51), none, none, some (a_aload 0 52), some (a_getR 11 9 7 55), none, none, some (a_getR 3 2 0 58), none, none, some (a_iload 2 59), some (a_iload 5 61), none, some (a_callS 18 3 64), none, none],
  [some (a_istore 6 66), none, some (a_iload 6 68), none, some (a_iload 4 70), none, some (a_cge 80 73), none, none, some (a_iload 6 75), none, some (a_istore 4 77), none, some (a_iload 5 79), none, some (a_istore 3 80)],
  [some (a_iinc 5 1 83), none, none, some (a_goto 44), none, none, some (a_iload 1 87), some (a_zne 94 90), none, none, some (a_iload 3 91), some (a_goto 96), none, none, some (a_iload 4 96), none],
  [some (a_iret)]]
def t_X11_cut : ax_T := [[some (a_iload 1 1), some (a_iconst (-2) 3), none, some (a_clt 20 6), none, none, some (a_iload 1 7), some (a_aload 0 8), some (a_getR 11 9 7 11), none, none, some (a_getR 3 2 1 14), none, none, some (a_getI 6 7 4 17), none],
  [none, some (a_clt 22 20), none, none, some (a_iconst (-1) 21), some (a_iret), some (a_aload 0 23), some (a_getR 11 9 5 26), none, none, some (a_getI 1 7 3 29), none, none, some (a_zne 46 32), none, none],
  [some (a_aload 0 33), some (a_getR 11 9 5 36), none, none, some (a_aload 0 37), some (a_getR 11 9 7 40), none, none, some (a_getR 3 2 1 43), none, none, some (a_callV 1 7 5 1 46), none, none, some (a_aload 0 47), some (a_getR 11 9 5 50)],
  [none, none, some (a_getI 1 7 4 53), none, none, some (a_zne 59 56), none, none, some (a_iconst (-4) 58), none, some (a_iret), some (a_iload 1 60), some (a_iconst (-1) 61), some (a_cne 83 64), none, none],
  [some (a_aload 0 65), some (a_getR 11 9 5 68), none, none, some (a_getI 1 7 5 71), none, none, some (a_aload 0 72), some (a_getR 11 9 7 75), none, none, some (a_getR 3 2 1 78), none, none, some (a_getI 6 7 5 81), none],
  [none, some (a_isub 82), some (a_iret), some (a_iload 1 84), some (a_iconst (-2) 86), none, some (a_cne 110 89), none, none, some (a_aload 0 90), some (a_getR 11 9 5 93), none, none, some (a_getI 1 7 6 96), none, none],
  [some (a_aload 0 97), some (a_getR 11 9 7 100), none, none, some (a_getR 3 2 1 103), none, none, some (a_callV 6 7 28 0 106), none, none, some (a_isub 107), some (a_goto 119), none, none, some (a_aload 0 111), some (a_getR 11 9 5 114)],
  [none, none, some (a_getR 1 7 2 117), none, none, some (a_iload 1 118), some (a_iald 119), some (a_iret)]]
def t_X11_fittings : ax_T := [[some (a_aload 0 1), some (a_getR 11 9 7 4), none, none, some (a_getR 3 2 1 7), none, none, some (a_getI 6 7 6 10), none, none, some (a_istore 2 11), some (a_iload 1 12), some (a_iconst (-2) 14), none, some (a_clt 26 17), none],
  [none, some (a_iload 1 18), some (a_iconst 1 19), some (a_iload 2 20), some (a_mmax 23), none, none, some (a_clt 28 26), none, none, some (a_iconst (-1) 27), some (a_iret), some (a_iload 2 29), some (a_zne 35 32), none, none],
  [some (a_iconst (-4) 34), none, some (a_iret), some (a_aload 0 36), some (a_getR 11 9 6 39), none, none, some (a_getI 10 6 2 42), none, none, some (a_zne 59 45), none, none, some (a_aload 0 46), some (a_getR 11 9 6 49), none],
  [none, some (a_aload 0 50), some (a_getR 11 9 7 53), none, none, some (a_getR 3 2 1 56), none, none, some (a_callV 10 6 61 1 59), none, none, some (a_iload 1 60), some (a_iconst (-1) 61), some (a_cne 72 64), none, none],
  [some (a_aload 0 65), some (a_getR 11 9 6 68), none, none, some (a_getI 10 6 4 71), none, none, some (a_iret), some (a_iload 1 73), some (a_iconst (-2) 75), none, some (a_cne 88 78), none, none, some (a_aload 0 79), some (a_getR 11 9 6 82)],
  [none, none, some (a_getI 10 6 5 85), none, none, some (a_goto 97), none, none, some (a_aload 0 89), some (a_getR 11 9 6 92), none, none, some (a_getR 10 6 1 95), none, none, some (a_iload 1 96)],
  [some (a_iald 97), some (a_iret)]]
def t_X11_watchers : ax_T := [[some (a_iload 1 1), some (a_callS 97 1 4), none, none, some (a_zeq 16 7), none, none, some (a_iload 2 8), some (a_zlt 16 11), none, none, some (a_iload 2 12), some (a_iconst 1 13), some (a_cle 18 16), none, none],
  [some (a_iconst (-1) 17), some (a_iret), some (a_aload 0 19), some (a_getR 11 9 7 22), none, none, some (a_getR 3 2 0 25), none, none, some (a_iload 1 26), some (a_iconst (-1000) 29), none, none, some (a_callV 7 10 49 2 32), none, none],
  [some (a_istore 3 33), some (a_iload 3 34), some (a_iconst 1000 37), none, none, some (a_cne 43 40), none, none, some (a_iconst (-4) 42), none, some (a_iret), some (a_iload 2 44), some (a_iconst 1 45), some (a_cne 54 48), none, none],
  [some (a_iload 3 49), some (a_iconst 200 52), none, none, some (a_iadd 53), some (a_iret), some (a_iconst 0 55), some (a_istore 4 57), none, some (a_iload 3 58), some (a_istore 5 60), none, some (a_iconst 0 61), some (a_istore 6 63), none, some (a_iload 6 65)],
  [none, some (a_iconst 6 67), none, some (a_cge 102 70), none, none, some (a_iload 5 72), none, some (a_iconst 1000 75), none, none, some (a_ceq 102 78), none, none, some (a_iinc 4 1 81), none],
  [none, some (a_aload 0 82), some (a_getR 11 9 7 85), none, none, some (a_getR 3 2 0 88), none, none, some (a_iload 1 89), some (a_iload 5 91), none, some (a_callV 7 10 49 2 94), none, none, some (a_istore 5 96), none],
  [some (a_iinc 6 1 99), none, none, some (a_goto 63), none, none, some (a_iload 4 104), none, some (a_iret)]]
def t_X11_poplar : ax_T := [[some (a_iload 1 1), some (a_iconst 1 2), some (a_clt 22 5), none, none, some (a_iload 1 6), some (a_iconst 99 8), none, some (a_cgt 22 11), none, none, some (a_iload 2 12), some (a_iconst 1 13), some (a_clt 22 16), none, none],
  [some (a_iload 2 17), some (a_iconst 9 19), none, some (a_cle 24 22), none, none, some (a_iconst (-1) 23), some (a_iret), some (a_iload 1 25), some (a_iconst 1 26), some (a_isub 27), some (a_iload 2 28), some (a_iconst 1 29), some (a_iadd 30), some (a_irem 31), some (a_iret)]]
def t_X11_light : ax_T := [[some (a_iload 1 1), some (a_callS 97 1 4), none, none, some (a_zne 9 7), none, none, some (a_iconst (-1) 8), some (a_iret), some (a_iconst 0 10), some (a_istore 2 11), some (a_iconst 0 12), some (a_istore 3 13), some (a_iload 3 14), some (a_iconst 60 16), none],
  [some (a_cgt 43 19), none, none, some (a_aload 0 20), some (a_getR 11 9 7 23), none, none, some (a_getR 3 2 0 26), none, none, some (a_iload 3 27), some (a_iload 1 28), some (a_callV 7 10 44 2 31), none, none, some (a_zne 37 34)],
  [none, none, some (a_iinc 2 1 37), none, none, some (a_iinc 3 1 40), none, none, some (a_goto 13), none, none, some (a_iload 2 44), some (a_iret)]]
def t_X11_clouds : ax_T := [[some (a_aload 0 1), some (a_iload 1 2), some (a_callV 11 9 95 1 5), none, none, some (a_zeq 39 8), none, none, some (a_iload 2 9), some (a_iload 3 10), some (a_callS 98 2 13), none, none, some (a_zeq 39 16), none, none],
  [some (a_iload 4 18), none, some (a_zlt 39 21), none, none, some (a_iload 4 23), none, some (a_iconst 10 25), none, some (a_cgt 39 28), none, none, some (a_iload 5 30), none, some (a_zlt 39 33), none],
  [none, some (a_iload 5 35), none, some (a_iconst 1 36), some (a_cle 43 39), none, none, some (a_lconst (-1) 42), none, none, some (a_lret), some (a_iload 4 45), none, some (a_iconst 10 47), none, some (a_callS 101 2 50)],
  [none, none, some (a_istore 6 52), none, some (a_iload 5 54), none, some (a_zne 62 57), none, none, some (a_iload 4 59), none, some (a_goto 64), none, none, some (a_iconst 10 64), none],
  [some (a_iload 6 66), none, some (a_idiv 67), some (a_i2l 68), some (a_lstore 7 70), none, some (a_lconst 1 71), some (a_lstore 9 73), none, some (a_iload 2 74), some (a_istore 11 76), none, some (a_iload 11 78), none, some (a_iload 3 79), some (a_cgt 105 82)],
  [none, none, some (a_aload 0 83), some (a_iload 1 84), some (a_iload 11 86), none, some (a_callV 11 9 96 2 89), none, none, some (a_zeq 99 92), none, none, some (a_lload 9 94), none, some (a_lload 7 96), none],
  [some (a_lmul 97), some (a_lstore 9 99), none, some (a_iinc 11 1 102), none, none, some (a_goto 76), none, none, some (a_lload 9 107), none, some (a_lret)]]
def t_X11_day : ax_T := [[some (a_iload 1 1), some (a_zlt 20 4), none, none, some (a_iload 1 5), some (a_iconst 9999 8), none, none, some (a_cgt 20 11), none, none, some (a_iload 2 12), some (a_zlt 20 15), none, none, some (a_iload 2 16)],
  [some (a_iconst 1 17), some (a_cle 22 20), none, none, some (a_iconst (-1) 21), some (a_iret), some (a_iconst 0 23), some (a_istore 3 24), some (a_iconst (-4) 26), none, some (a_istore 4 28), none, some (a_iconst 6 30), none, some (a_istore 5 32), none],
  [some (a_iload 5 34), none, some (a_iconst 18 36), none, some (a_cgt 121 39), none, none, some (a_aload 0 40), some (a_getR 11 9 7 43), none, none, some (a_getR 3 2 0 46), none, none, some (a_iload 1 47), some (a_iload 5 49)],
  [none, some (a_callV 7 10 37 2 52), none, none, some (a_astore 6 54), none, some (a_iconst 0 55), some (a_istore 7 57), none, some (a_iload 7 59), none, some (a_aload 0 60), some (a_getR 11 9 7 63), none, none, some (a_getR 3 2 0 66)],
  [none, none, some (a_getI 7 10 8 69), none, none, some (a_cge 100 72), none, none, some (a_iload 3 73), some (a_aload 0 74), some (a_getR 11 9 7 77), none, none, some (a_getR 3 2 0 80), none, none],
  [some (a_iload 7 82), none, some (a_iload 5 84), none, some (a_aload 6 86), none, some (a_callV 7 10 45 3 89), none, none, some (a_callS 173 1 92), none, none, some (a_iadd 93), some (a_istore 3 94), some (a_iinc 7 1 97), none],
  [none, some (a_goto 57), none, none, some (a_iload 4 102), none, some (a_iconst (-4) 104), none, some (a_cne 115 107), none, none, some (a_iload 3 108), some (a_zle 115 111), none, none, some (a_iload 5 113)],
  [none, some (a_istore 4 115), none, some (a_iinc 5 1 118), none, none, some (a_goto 32), none, none, some (a_iload 2 122), some (a_zne 129 125), none, none, some (a_iload 3 126), some (a_goto 131), none],
  [none, some (a_iload 4 131), none, some (a_iret)]]
def t_X11_keep : ax_T := [[some (a_aload 0 1), some (a_getR 11 9 3 4), none, none, some (a_aload 0 5), some (a_getR 11 9 7 8), none, none, some (a_getR 3 2 0 11), none, none, some (a_getR 7 10 3 14), none, none, some (a_callV 2 2 10 1 17), none],
  [none, some (a_zeq 30 20), none, none, some (a_aload 0 21), some (a_getR 11 9 3 24), none, none, some (a_getI 2 2 1 27), none, none, some (a_goto 32), none, none, some (a_iconst (-3) 32), none],
  [some (a_iret)]]
def t_X11_back : ax_T := [[some (a_aload 0 1), some (a_getR 11 9 3 4), none, none, some (a_aload 0 5), some (a_getR 11 9 7 8), none, none, some (a_getR 3 2 0 11), none, none, some (a_getR 7 10 3 14), none, none, some (a_callV 2 2 11 1 17), none],
  [none, some (a_zne 23 20), none, none, some (a_iconst (-2) 22), none, some (a_iret), some (a_aload 0 24), some (a_getR 11 9 2 27), none, none, some (a_iconst 0 28), some (a_putI 0 3 2 31), none, none, some (a_aload 0 32)],
  [some (a_getR 11 9 3 35), none, none, some (a_getI 2 2 1 38), none, none, some (a_iret)]]
def t_X11_count : ax_T := [[some (a_iload 1 1), some (a_tsw 0 9 [56, 67, 81, 92, 103, 114, 125, 133, 141, 149] 157), none, none, none, none, none, none, none, none, none, none, none, none, none, none],
  [none, none, none, none, none, none, none, none, none, none, none, none, none, none, none, none],
  [none, none, none, none, none, none, none, none, none, none, none, none, none, none, none, none],
  [none, none, none, none, none, none, none, none, some (a_aload 0 57), some (a_getR 11 9 7 60), none, none, some (a_getR 3 2 0 63), none, none, some (a_getI 7 10 8 66)],
  [none, none, some (a_iret), some (a_aload 0 68), some (a_getR 11 9 7 71), none, none, some (a_getR 3 2 0 74), none, none, some (a_getR 7 10 3 77), none, none, some (a_getI 5 5 4 80), none, none],
  [some (a_iret), some (a_aload 0 82), some (a_getR 11 9 7 85), none, none, some (a_getR 3 2 0 88), none, none, some (a_getI 7 10 9 91), none, none, some (a_iret), some (a_aload 0 93), some (a_getR 11 9 7 96), none, none],
  [some (a_getR 3 2 1 99), none, none, some (a_getI 6 7 4 102), none, none, some (a_iret), some (a_aload 0 104), some (a_getR 11 9 7 107), none, none, some (a_getR 3 2 1 110), none, none, some (a_getI 6 7 5 113), none],
  [none, some (a_iret), some (a_aload 0 115), some (a_getR 11 9 7 118), none, none, some (a_getR 3 2 1 121), none, none, some (a_getI 6 7 6 124), none, none, some (a_iret), some (a_aload 0 126), some (a_getR 11 9 4 129), none],
  [none, some (a_getI 4 3 2 132), none, none, some (a_iret), some (a_aload 0 134), some (a_getR 11 9 2 137), none, none, some (a_getI 0 3 2 140), none, none, some (a_iret), some (a_aload 0 142), some (a_getR 11 9 3 145), none],
  [none, some (a_getI 2 2 1 148), none, none, some (a_iret), some (a_aload 0 150), some (a_getR 11 9 0 153), none, none, some (a_getI 8 2 1 156), none, none, some (a_iret), some (a_iconst (-1) 158), some (a_iret)]]
def t_X11_isPerson : ax_T := [[some (a_iload 1 1), some (a_zlt 22 4), none, none, some (a_iload 1 5), some (a_aload 0 6), some (a_getR 11 9 7 9), none, none, some (a_getR 3 2 0 12), none, none, some (a_getI 7 10 8 15), none, none, some (a_cge 22 18)],
  [none, none, some (a_iconst 1 19), some (a_goto 23), none, none, some (a_iconst 0 23), some (a_zret)]]
def t_X11_standersAt : ax_T := [[some (a_aload 0 1), some (a_getR 11 9 7 4), none, none, some (a_getR 3 2 0 7), none, none, some (a_iload 1 8), some (a_iload 2 9), some (a_aload 0 10), some (a_getR 11 9 7 13), none, none, some (a_getR 3 2 0 16), none, none],
  [some (a_iload 2 17), some (a_callV 7 10 36 1 20), none, none, some (a_callV 7 10 45 3 23), none, none, some (a_iret)]]
def t_X11_isHour : ax_T := [[some (a_iload 0 1), some (a_iconst 6 3), none, some (a_clt 16 6), none, none, some (a_iload 0 7), some (a_iconst 18 9), none, some (a_cgt 16 12), none, none, some (a_iconst 1 13), some (a_goto 17), none, none],
  [some (a_iconst 0 17), some (a_zret)]]
def t_X11_areHours : ax_T := [[some (a_iload 0 1), some (a_callS 97 1 4), none, none, some (a_zeq 23 7), none, none, some (a_iload 1 8), some (a_callS 97 1 11), none, none, some (a_zeq 23 14), none, none, some (a_iload 0 15), some (a_iload 1 16)],
  [some (a_cgt 23 19), none, none, some (a_iconst 1 20), some (a_goto 24), none, none, some (a_iconst 0 24), some (a_zret)]]
def t_X11_isCell : ax_T := [[some (a_iload 0 1), some (a_zlt 14 4), none, none, some (a_iload 0 5), some (a_iconst 60 7), none, some (a_cgt 14 10), none, none, some (a_iconst 1 11), some (a_goto 15), none, none, some (a_iconst 0 15), some (a_zret)]]
def t_X11_isWithin : ax_T := [[some (a_iload 0 1), some (a_iload 1 2), some (a_clt 14 5), none, none, some (a_iload 0 6), some (a_iload 2 7), some (a_cgt 14 10), none, none, some (a_iconst 1 11), some (a_goto 15), none, none, some (a_iconst 0 15), some (a_zret)]]
def t_X11_commonDivisor : ax_T := [[some (a_iload 1 1), some (a_istore 2 2), some (a_iload 2 3), some (a_iconst 1 4), some (a_cle 27 7), none, none, some (a_iload 0 8), some (a_iload 2 9), some (a_irem 10), some (a_zne 21 13), none, none, some (a_iload 1 14), some (a_iload 2 15), some (a_irem 16)],
  [some (a_zne 21 19), none, none, some (a_iload 2 20), some (a_iret), some (a_iinc 2 (-1) 24), none, none, some (a_goto 2), none, none, some (a_iconst 1 28), some (a_iret)]]
def t_X12_init : ax_T := [[some (a_aload 0 1), some (a_oinit 4), none, none, some (a_aload 0 5), some (a_iconst 4 6), some (a_putI 12 38 0 9), none, none, some (a_aload 0 10), some (a_iconst 18 12), none, some (a_newa 100 18 14), none, some (a_putR 12 38 1 17), none],
  [none, some (a_aload 0 18), some (a_iconst 2 19), some (a_putI 12 38 2 22), none, none, some (a_aload 0 23), some (a_iconst 18 25), none, some (a_newa 100 18 27), none, some (a_putR 12 38 3 30), none, none, some (a_aload 0 31), some (a_iconst 4 32)],
  [some (a_putI 12 38 4 35), none, none, some (a_aload 0 36), some (a_iconst 7 38), none, some (a_newa 100 7 40), none, some (a_putR 12 38 5 43), none, none, some (a_aload 0 44), some (a_iconst 2 45), some (a_putI 12 38 6 48), none, none],
  [some (a_aload 0 49), some (a_iconst 3 50), some (a_newa 100 3 52), none, some (a_putR 12 38 7 55), none, none, some (a_aload 0 56), some (a_iconst 3 57), some (a_putI 12 38 8 60), none, none, some (a_aload 0 61), some (a_iconst 12 63), none, some (a_newa 100 12 65)],
  [none, some (a_putR 12 38 9 68), none, none, some (a_aload 0 69), some (a_iconst 34 71), none, some (a_newa 100 34 73), none, some (a_putR 12 38 10 76), none, none, some (a_aload 0 77), some (a_iconst 272 80), none, none],
  [some (a_newa 100 272 82), none, some (a_putR 12 38 12 85), none, none, some (a_aload 0 86), some (a_iconst 68 88), none, some (a_newa 100 68 90), none, some (a_putR 12 38 14 93), none, none, some (a_aload 0 94), some (a_iconst 12 96), none],
  [some (a_newa 100 12 98), none, some (a_putR 12 38 16 101), none, none, some (a_aload 0 102), some (a_iconst 200 105), none, none, some (a_newa 100 200 107), none, some (a_putR 12 38 17 110), none, none, some (a_aload 0 111), some (a_iconst 4 112)],
  [some (a_newa 100 4 114), none, some (a_putR 12 38 20 117), none, none, some (a_aload 0 118), some (a_iconst 18 120), none, some (a_newa 100 18 122), none, some (a_putR 12 38 22 125), none, none, some (a_aload 0 126), some (a_iconst 18 128), none],
  [some (a_newa 100 18 130), none, some (a_putR 12 38 24 133), none, none, some (a_aload 0 134), some (a_iconst 7 136), none, some (a_newa 100 7 138), none, some (a_putR 12 38 26 141), none, none, some (a_aload 0 142), some (a_iconst 3 143), some (a_newa 100 3 145)],
  [none, some (a_putR 12 38 28 148), none, none, some (a_aload 0 149), some (a_iconst 12 151), none, some (a_newa 100 12 153), none, some (a_putR 12 38 30 156), none, none, some (a_aload 0 157), some (a_iconst 34 159), none, some (a_newa 100 34 161)],
  [none, some (a_putR 12 38 31 164), none, none, some (a_aload 0 165), some (a_iconst 7 167), none, some (a_newa 100 7 169), none, some (a_putR 12 38 32 172), none, none, some (a_aload 0 173), some (a_iconst 6 175), none, some (a_newa 100 6 177)],
  [none, some (a_putR 12 38 35 180), none, none, some (a_aload 0 181), some (a_getR 12 38 1 184), none, none, some (a_iconst 0 185), some (a_iconst 10 187), none, some (a_iconst 4 188), some (a_iconst 0 189), some (a_callS 103 5 192), none, none],
  [some (a_aload 0 193), some (a_getR 12 38 1 196), none, none, some (a_iconst 3 197), some (a_iconst 16 199), none, some (a_iconst 2 200), some (a_iconst 1 201), some (a_callS 103 5 204), none, none, some (a_aload 0 205), some (a_getR 12 38 1 208), none, none],
  [some (a_iconst 6 210), none, some (a_iconst 30 212), none, some (a_iconst 6 214), none, some (a_iconst 2 215), some (a_callS 103 5 218), none, none, some (a_aload 0 219), some (a_getR 12 38 1 222), none, none, some (a_iconst 9 224), none],
  [some (a_iconst 33 226), none, some (a_iconst 3 227), some (a_iconst 3 228), some (a_callS 103 5 231), none, none, some (a_aload 0 232), some (a_getR 12 38 10 235), none, none, some (a_iconst 2 236), some (a_iconst 3 237), some (a_iast 238), some (a_aload 0 239), some (a_getR 12 38 10 242)],
  [none, none, some (a_iconst 3 243), some (a_iconst 1 244), some (a_iast 245), some (a_aload 0 246), some (a_getR 12 38 10 249), none, none, some (a_iconst 6 251), none, some (a_iconst 1 252), some (a_iast 253), some (a_aload 0 254), some (a_getR 12 38 10 257), none],
  [none, some (a_iconst 7 259), none, some (a_iconst 1 260), some (a_iconst 14 262), none, some (a_iconst 12 264), none, some (a_callS 103 5 267), none, none, some (a_aload 0 268), some (a_getR 12 38 3 271), none, none, some (a_iconst 0 272)],
  [some (a_iconst 0 273), some (a_iconst 8 275), none, some (a_iconst 6 277), none, some (a_callS 103 5 280), none, none, some (a_aload 0 281), some (a_getR 12 38 3 284), none, none, some (a_iconst 3 285), some (a_iconst 2 286), some (a_iconst 16 288), none],
  [some (a_iconst 9 290), none, some (a_callS 103 5 293), none, none, some (a_aload 0 294), some (a_getR 12 38 5 297), none, none, some (a_iconst 0 298), some (a_iconst 5 299), some (a_iconst 3 300), some (a_iconst 8 302), none, some (a_callS 103 5 305), none],
  [none, some (a_aload 0 306), some (a_getR 12 38 5 309), none, none, some (a_iconst 3 310), some (a_iconst 2 311), some (a_iast 312), some (a_aload 0 313), some (a_getR 12 38 7 316), none, none, some (a_iconst 0 317), some (a_iconst 6 319), none, some (a_iast 320)],
  [some (a_aload 0 321), some (a_getR 12 38 7 324), none, none, some (a_iconst 1 325), some (a_iconst 9 327), none, some (a_iast 328), some (a_aload 0 329), some (a_getR 12 38 9 332), none, none, some (a_iconst 0 333), some (a_iconst 2 334), some (a_iconst 4 335), some (a_iconst 3 336)],
  [some (a_callS 103 5 339), none, none, some (a_aload 0 340), some (a_getR 12 38 9 343), none, none, some (a_iconst 3 344), some (a_iconst 3 345), some (a_iconst 1 346), some (a_iconst 6 348), none, some (a_callS 103 5 351), none, none, some (a_vret)]]
def t_X12_lays : ax_T := [[some (a_aload 0 1), some (a_iload 1 2), some (a_iload 2 3), some (a_iast 4), some (a_aload 0 5), some (a_iload 1 6), some (a_iconst 1 7), some (a_iadd 8), some (a_iload 3 9), some (a_iast 10), some (a_aload 0 11), some (a_iload 1 12), some (a_iconst 2 13), some (a_iadd 14), some (a_iload 4 16), none],
  [some (a_iast 17), some (a_vret)]]
def t_X12_in : ax_T := [[some (a_iload 0 1), some (a_iload 1 2), some (a_clt 14 5), none, none, some (a_iload 0 6), some (a_iload 2 7), some (a_cgt 14 10), none, none, some (a_iconst 1 11), some (a_goto 15), none, none, some (a_iconst 0 15), some (a_zret)]]
def t_X12_has : ax_T := [[some (a_iload 0 1), some (a_iload 1 2), some (a_ishr 3), some (a_iconst 1 4), some (a_iand 5), some (a_iconst 1 6), some (a_cne 13 9), none, none, some (a_iconst 1 10), some (a_goto 14), none, none, some (a_iconst 0 14), some (a_zret)]]
def t_X12_bits : ax_T := [[some (a_iconst 0 1), some (a_istore 1 2), some (a_iload 0 3), some (a_istore 2 4), some (a_iload 2 5), some (a_zle 20 8), none, none, some (a_iinc 1 1 11), none, none, some (a_iload 2 12), some (a_iload 2 13), some (a_iconst 1 14), some (a_isub 15), some (a_iand 16)],
  [some (a_istore 2 17), some (a_goto 4), none, none, some (a_iload 1 21), some (a_iret)]]
def t_X12_isPerson : ax_T := [[some (a_iload 1 1), some (a_iconst 0 2), some (a_aload 0 3), some (a_getI 12 38 0 6), none, none, some (a_iconst 1 7), some (a_isub 8), some (a_callS 104 3 11), none, none, some (a_zret)]]
def t_X12_isHour : ax_T := [[some (a_iload 0 1), some (a_iconst 6 3), none, some (a_iconst 18 5), none, some (a_callS 104 3 8), none, none, some (a_zret)]]
def t_X12_write : ax_T := [[some (a_iload 1 1), some (a_iconst 32 3), none, some (a_iconst 126 5), none, some (a_callS 104 3 8), none, none, some (a_zne 13 11), none, none, some (a_iconst (-1) 12), some (a_iret), some (a_aload 0 14), some (a_getI 12 38 18 17), none],
  [none, some (a_iconst 200 20), none, none, some (a_cne 26 23), none, none, some (a_iconst (-3) 25), none, some (a_iret), some (a_aload 0 27), some (a_getR 12 38 17 30), none, none, some (a_aload 0 31), some (a_getI 12 38 18 34)],
  [none, none, some (a_iload 1 35), some (a_iast 36), some (a_aload 0 37), some (a_dup 38), some (a_getI 12 38 18 41), none, none, some (a_iconst 1 42), some (a_iadd 43), some (a_putI 12 38 18 46), none, none, some (a_aload 0 47), some (a_getI 12 38 18 50)],
  [none, none, some (a_iret)]]
def t_X12_wipe : ax_T := [[some (a_aload 0 1), some (a_getI 12 38 18 4), none, none, some (a_istore 1 5), some (a_aload 0 6), some (a_iconst 0 7), some (a_putI 12 38 18 10), none, none, some (a_iload 1 11), some (a_iret)]]
def t_X12_letterAt : ax_T := [[some (a_iload 1 1), some (a_aload 0 2), some (a_getI 12 38 18 5), none, none, some (a_cge 17 8), none, none, some (a_aload 0 9), some (a_getR 12 38 17 12), none, none, some (a_iload 1 13), some (a_iald 14), some (a_goto 18), none],
  [none, some (a_iconst (-1) 18), some (a_iret)]]
def t_X12_isFigure : ax_T := [[some (a_iload 0 1), some (a_iconst 48 3), none, some (a_iconst 57 5), none, some (a_callS 104 3 8), none, none, some (a_zret)]]
def t_X12_readNumbers : ax_T := [[some (a_iconst 0 1), some (a_istore 2 2), some (a_iload 2 3), some (a_iload 1 4), some (a_cge 144 7), none, none, some (a_aload 0 8), some (a_aload 0 9), some (a_getI 12 38 19 12), none, none, some (a_callV 12 38 111 1 15), none, none, some (a_callS 112 1 18)],
  [none, none, some (a_zne 23 21), none, none, some (a_iconst 0 22), some (a_zret), some (a_aload 0 24), some (a_getR 12 38 20 27), none, none, some (a_iload 2 28), some (a_aload 0 29), some (a_aload 0 30), some (a_getI 12 38 19 33), none],
  [none, some (a_callV 12 38 111 1 36), none, none, some (a_iconst 48 38), none, some (a_isub 39), some (a_iast 40), some (a_aload 0 41), some (a_dup 42), some (a_getI 12 38 19 45), none, none, some (a_iconst 1 46), some (a_iadd 47), some (a_putI 12 38 19 50)],
  [none, none, some (a_aload 0 51), some (a_aload 0 52), some (a_getI 12 38 19 55), none, none, some (a_callV 12 38 111 1 58), none, none, some (a_callS 112 1 61), none, none, some (a_zeq 101 64), none, none],
  [some (a_aload 0 65), some (a_getR 12 38 20 68), none, none, some (a_iload 2 69), some (a_iconst 10 71), none, some (a_aload 0 72), some (a_getR 12 38 20 75), none, none, some (a_iload 2 76), some (a_iald 77), some (a_imul 78), some (a_aload 0 79), some (a_aload 0 80)],
  [some (a_getI 12 38 19 83), none, none, some (a_callV 12 38 111 1 86), none, none, some (a_iadd 87), some (a_iconst 48 89), none, some (a_isub 90), some (a_iast 91), some (a_aload 0 92), some (a_dup 93), some (a_getI 12 38 19 96), none, none],
  [some (a_iconst 1 97), some (a_iadd 98), some (a_putI 12 38 19 101), none, none, some (a_aload 0 102), some (a_aload 0 103), some (a_getI 12 38 19 106), none, none, some (a_callV 12 38 111 1 109), none, none, some (a_iload 2 110), some (a_iload 1 111), some (a_iconst 1 112)],
  [some (a_isub 113), some (a_cge 121 116), none, none, some (a_iconst 44 118), none, some (a_goto 123), none, none, some (a_iconst 59 123), none, some (a_ceq 128 126), none, none, some (a_iconst 0 127), some (a_zret)],
  [some (a_aload 0 129), some (a_dup 130), some (a_getI 12 38 19 133), none, none, some (a_iconst 1 134), some (a_iadd 135), some (a_putI 12 38 19 138), none, none, some (a_iinc 2 1 141), none, none, some (a_goto 2), none, none],
  [some (a_iconst 1 145), some (a_zret)]]
def t_X12_isTold : ax_T := [[some (a_aload 0 1), some (a_getR 12 38 20 4), none, none, some (a_iload 1 5), some (a_iald 6), some (a_iload 2 7), some (a_iload 3 8), some (a_callS 104 3 11), none, none, some (a_zret)]]
def t_X12_put : ax_T := [[some (a_iconst 0 1), some (a_istore 4 3), none, some (a_iload 4 5), none, some (a_iload 3 6), some (a_cge 25 9), none, none, some (a_aload 0 10), some (a_iload 1 11), some (a_iload 4 13), none, some (a_iadd 14), some (a_aload 2 15), some (a_iload 4 17)],
  [none, some (a_iald 18), some (a_iast 19), some (a_iinc 4 1 22), none, none, some (a_goto 3), none, none, some (a_vret)]]
def t_X12_readPersonOf : ax_T := [[some (a_aload 0 1), some (a_getI 12 38 21 4), none, none, some (a_iconst 6 6), none, some (a_ceq 60 9), none, none, some (a_aload 0 10), some (a_iconst 4 11), some (a_callV 12 38 113 1 14), none, none, some (a_zeq 60 17), none],
  [none, some (a_aload 0 18), some (a_iconst 0 19), some (a_iconst 0 20), some (a_iconst 60 22), none, some (a_callV 12 38 114 3 25), none, none, some (a_zeq 60 28), none, none, some (a_aload 0 29), some (a_iconst 1 30), some (a_iconst 1 31), some (a_iconst 9 33)],
  [none, some (a_callV 12 38 114 3 36), none, none, some (a_zeq 60 39), none, none, some (a_aload 0 40), some (a_iconst 2 41), some (a_iconst 0 42), some (a_iconst 3 43), some (a_callV 12 38 114 3 46), none, none, some (a_zeq 60 49), none],
  [none, some (a_aload 0 50), some (a_iconst 3 51), some (a_iconst 0 52), some (a_iconst 20 54), none, some (a_callV 12 38 114 3 57), none, none, some (a_zne 62 60), none, none, some (a_iconst 0 61), some (a_zret), some (a_aload 0 63), some (a_getR 12 38 22 66)],
  [none, none, some (a_iconst 3 67), some (a_aload 0 68), some (a_getI 12 38 21 71), none, none, some (a_imul 72), some (a_aload 0 73), some (a_getR 12 38 20 76), none, none, some (a_iconst 3 77), some (a_callS 115 4 80), none, none],
  [some (a_aload 0 81), some (a_getR 12 38 31 84), none, none, some (a_iconst 0 85), some (a_aload 0 86), some (a_getI 12 38 21 89), none, none, some (a_iadd 90), some (a_aload 0 91), some (a_getR 12 38 20 94), none, none, some (a_iconst 3 95), some (a_iald 96)],
  [some (a_iast 97), some (a_aload 0 98), some (a_dup 99), some (a_getI 12 38 21 102), none, none, some (a_iconst 1 103), some (a_iadd 104), some (a_putI 12 38 21 107), none, none, some (a_iconst 1 108), some (a_zret)]]
def t_X12_isHourOfOne : ax_T := [[some (a_aload 0 1), some (a_iconst 0 2), some (a_iconst 0 3), some (a_aload 0 4), some (a_getI 12 38 21 7), none, none, some (a_iconst 1 8), some (a_isub 9), some (a_callV 12 38 114 3 12), none, none, some (a_zeq 42 15), none, none, some (a_aload 0 16)],
  [some (a_iconst 1 17), some (a_iconst 6 19), none, some (a_iconst 18 21), none, some (a_callV 12 38 114 3 24), none, none, some (a_zeq 42 27), none, none, some (a_aload 0 28), some (a_iconst 2 29), some (a_iconst 0 30), some (a_iconst 60 32), none],
  [some (a_callV 12 38 114 3 35), none, none, some (a_zeq 42 38), none, none, some (a_iconst 1 39), some (a_goto 43), none, none, some (a_iconst 0 43), some (a_zret)]]
def t_X12_readWalk : ax_T := [[some (a_aload 0 1), some (a_getR 12 38 31 4), none, none, some (a_iconst 6 6), none, some (a_iald 7), some (a_iconst 9 9), none, some (a_ceq 27 12), none, none, some (a_aload 0 13), some (a_iconst 3 14), some (a_callV 12 38 113 1 17), none],
  [none, some (a_zeq 27 20), none, none, some (a_aload 0 21), some (a_callV 12 38 117 0 24), none, none, some (a_zne 29 27), none, none, some (a_iconst 0 28), some (a_zret), some (a_aload 0 30), some (a_getR 12 38 31 33), none],
  [none, some (a_iconst 7 35), none, some (a_iconst 3 36), some (a_aload 0 37), some (a_getR 12 38 31 40), none, none, some (a_iconst 6 42), none, some (a_iald 43), some (a_imul 44), some (a_iadd 45), some (a_aload 0 46), some (a_getR 12 38 20 49), none],
  [none, some (a_iconst 3 50), some (a_callS 115 4 53), none, none, some (a_aload 0 54), some (a_getR 12 38 31 57), none, none, some (a_iconst 6 59), none, some (a_dup2 60), some (a_iald 61), some (a_iconst 1 62), some (a_iadd 63), some (a_iast 64)],
  [some (a_iconst 1 65), some (a_zret)]]
def t_X12_readLawOf : ax_T := [[some (a_aload 0 1), some (a_getI 12 38 23 4), none, none, some (a_iconst 6 6), none, some (a_ceq 24 9), none, none, some (a_aload 0 10), some (a_iconst 3 11), some (a_callV 12 38 113 1 14), none, none, some (a_zeq 24 17), none],
  [none, some (a_aload 0 18), some (a_callV 12 38 117 0 21), none, none, some (a_zne 26 24), none, none, some (a_iconst 0 25), some (a_zret), some (a_aload 0 27), some (a_getR 12 38 24 30), none, none, some (a_iconst 3 31), some (a_aload 0 32)],
  [some (a_getI 12 38 23 35), none, none, some (a_imul 36), some (a_aload 0 37), some (a_getR 12 38 20 40), none, none, some (a_iconst 3 41), some (a_callS 115 4 44), none, none, some (a_aload 0 45), some (a_dup 46), some (a_getI 12 38 23 49), none],
  [none, some (a_iconst 1 50), some (a_iadd 51), some (a_putI 12 38 23 54), none, none, some (a_iconst 1 55), some (a_zret)]]
def t_X12_readRemnantOf : ax_T := [[some (a_aload 0 1), some (a_getI 12 38 25 4), none, none, some (a_iconst 7 6), none, some (a_ceq 28 9), none, none, some (a_aload 0 10), some (a_iconst 1 11), some (a_callV 12 38 113 1 14), none, none, some (a_zeq 28 17), none],
  [none, some (a_aload 0 18), some (a_iconst 0 19), some (a_iconst 1 20), some (a_iconst 40 22), none, some (a_callV 12 38 114 3 25), none, none, some (a_zne 30 28), none, none, some (a_iconst 0 29), some (a_zret), some (a_aload 0 31), some (a_getR 12 38 26 34)],
  [none, none, some (a_aload 0 35), some (a_getI 12 38 25 38), none, none, some (a_aload 0 39), some (a_getR 12 38 20 42), none, none, some (a_iconst 0 43), some (a_iald 44), some (a_iast 45), some (a_aload 0 46), some (a_dup 47), some (a_getI 12 38 25 50)],
  [none, none, some (a_iconst 1 51), some (a_iadd 52), some (a_putI 12 38 25 55), none, none, some (a_iconst 1 56), some (a_zret)]]
def t_X12_readOrderOf : ax_T := [[some (a_aload 0 1), some (a_getI 12 38 27 4), none, none, some (a_iconst 3 5), some (a_ceq 27 8), none, none, some (a_aload 0 9), some (a_iconst 1 10), some (a_callV 12 38 113 1 13), none, none, some (a_zeq 27 16), none, none],
  [some (a_aload 0 17), some (a_iconst 0 18), some (a_iconst 1 19), some (a_iconst 60 21), none, some (a_callV 12 38 114 3 24), none, none, some (a_zne 29 27), none, none, some (a_iconst 0 28), some (a_zret), some (a_aload 0 30), some (a_getR 12 38 28 33), none],
  [none, some (a_aload 0 34), some (a_getI 12 38 27 37), none, none, some (a_aload 0 38), some (a_getR 12 38 20 41), none, none, some (a_iconst 0 42), some (a_iald 43), some (a_iast 44), some (a_aload 0 45), some (a_dup 46), some (a_getI 12 38 27 49), none],
  [none, some (a_iconst 1 50), some (a_iadd 51), some (a_putI 12 38 27 54), none, none, some (a_iconst 1 55), some (a_zret)]]
def t_X12_readFittingOf : ax_T := [[some (a_aload 0 1), some (a_getI 12 38 29 4), none, none, some (a_iconst 6 6), none, some (a_ceq 39 9), none, none, some (a_aload 0 10), some (a_iconst 2 11), some (a_callV 12 38 113 1 14), none, none, some (a_zeq 39 17), none],
  [none, some (a_aload 0 18), some (a_iconst 0 19), some (a_iconst 1 20), some (a_iconst 9 22), none, some (a_callV 12 38 114 3 25), none, none, some (a_zeq 39 28), none, none, some (a_aload 0 29), some (a_iconst 1 30), some (a_iconst 1 31), some (a_iconst 60 33)],
  [none, some (a_callV 12 38 114 3 36), none, none, some (a_zne 41 39), none, none, some (a_iconst 0 40), some (a_zret), some (a_aload 0 42), some (a_getR 12 38 30 45), none, none, some (a_iconst 2 46), some (a_aload 0 47), some (a_getI 12 38 29 50)],
  [none, none, some (a_imul 51), some (a_aload 0 52), some (a_getR 12 38 20 55), none, none, some (a_iconst 2 56), some (a_callS 115 4 59), none, none, some (a_aload 0 60), some (a_dup 61), some (a_getI 12 38 29 64), none, none],
  [some (a_iconst 1 65), some (a_iadd 66), some (a_putI 12 38 29 69), none, none, some (a_iconst 1 70), some (a_zret)]]
def t_X12_readItem : ax_T := [[some (a_aload 0 1), some (a_aload 0 2), some (a_getI 12 38 19 5), none, none, some (a_callV 12 38 111 1 8), none, none, some (a_istore 1 9), some (a_aload 0 10), some (a_dup 11), some (a_getI 12 38 19 14), none, none, some (a_iconst 1 15), some (a_iadd 16)],
  [some (a_putI 12 38 19 19), none, none, some (a_iload 1 20), some (a_tsw 102 119 [133, 138, 138, 138, 138, 138, 118, 138, 138, 128, 108, 138, 123, 138, 138, 138, 138, 113] 138), none, none, none, none, none, none, none, none, none, none, none],
  [none, none, none, none, none, none, none, none, none, none, none, none, none, none, none, none],
  [none, none, none, none, none, none, none, none, none, none, none, none, none, none, none, none],
  [none, none, none, none, none, none, none, none, none, none, none, none, none, none, none, none],
  [none, none, none, none, none, none, none, none, none, none, none, none, none, none, none, none],
  [none, none, none, none, none, none, none, none, none, none, none, none, some (a_aload 0 109), some (a_callV 12 38 116 0 112), none, none],
  [some (a_zret), some (a_aload 0 114), some (a_callV 12 38 118 0 117), none, none, some (a_zret), some (a_aload 0 119), some (a_callV 12 38 119 0 122), none, none, some (a_zret), some (a_aload 0 124), some (a_callV 12 38 120 0 127), none, none, some (a_zret)],
  [some (a_aload 0 129), some (a_callV 12 38 121 0 132), none, none, some (a_zret), some (a_aload 0 134), some (a_callV 12 38 122 0 137), none, none, some (a_zret), some (a_iconst 0 139), some (a_zret)]]
def t_X12_fault : ax_T := [[some (a_aload 0 1), some (a_iconst 0 2), some (a_putI 12 38 19 5), none, none, some (a_aload 0 6), some (a_iconst 0 7), some (a_putI 12 38 21 10), none, none, some (a_aload 0 11), some (a_iconst 0 12), some (a_putI 12 38 23 15), none, none, some (a_aload 0 16)],
  [some (a_iconst 0 17), some (a_putI 12 38 25 20), none, none, some (a_aload 0 21), some (a_iconst 0 22), some (a_putI 12 38 27 25), none, none, some (a_aload 0 26), some (a_iconst 0 27), some (a_putI 12 38 29 30), none, none, some (a_iconst 0 31), some (a_istore 1 32)],
  [some (a_iload 1 33), some (a_iconst 34 35), none, some (a_cge 51 38), none, none, some (a_aload 0 39), some (a_getR 12 38 31 42), none, none, some (a_iload 1 43), some (a_iconst 0 44), some (a_iast 45), some (a_iinc 1 1 48), none, none],
  [some (a_goto 32), none, none, some (a_aload 0 52), some (a_getI 12 38 19 55), none, none, some (a_aload 0 56), some (a_getI 12 38 18 59), none, none, some (a_cge 79 62), none, none, some (a_aload 0 63), some (a_getI 12 38 19 66)],
  [none, none, some (a_istore 1 67), some (a_aload 0 68), some (a_callV 12 38 123 0 71), none, none, some (a_zne 76 74), none, none, some (a_iload 1 75), some (a_iret), some (a_goto 51), none, none, some (a_iconst (-4) 81)],
  [none, some (a_iret)]]
def t_X12_lay : ax_T := [[some (a_aload 0 1), some (a_callV 12 38 124 0 4), none, none, some (a_iconst (-4) 6), none, some (a_cne 16 9), none, none, some (a_aload 0 10), some (a_getI 12 38 21 13), none, none, some (a_zne 19 16), none, none],
  [some (a_iconst (-2) 18), none, some (a_iret), some (a_aload 0 20), some (a_aload 0 21), some (a_getI 12 38 21 24), none, none, some (a_putI 12 38 0 27), none, none, some (a_aload 0 28), some (a_aload 0 29), some (a_getI 12 38 23 32), none, none],
  [some (a_putI 12 38 2 35), none, none, some (a_aload 0 36), some (a_aload 0 37), some (a_getI 12 38 25 40), none, none, some (a_putI 12 38 4 43), none, none, some (a_aload 0 44), some (a_aload 0 45), some (a_getI 12 38 27 48), none, none],
  [some (a_putI 12 38 6 51), none, none, some (a_aload 0 52), some (a_aload 0 53), some (a_getI 12 38 29 56), none, none, some (a_putI 12 38 8 59), none, none, some (a_aload 0 60), some (a_getR 12 38 1 63), none, none, some (a_iconst 0 64)],
  [some (a_aload 0 65), some (a_getR 12 38 22 68), none, none, some (a_iconst 18 70), none, some (a_callS 115 4 73), none, none, some (a_aload 0 74), some (a_getR 12 38 3 77), none, none, some (a_iconst 0 78), some (a_aload 0 79), some (a_getR 12 38 24 82)],
  [none, none, some (a_iconst 18 84), none, some (a_callS 115 4 87), none, none, some (a_aload 0 88), some (a_getR 12 38 5 91), none, none, some (a_iconst 0 92), some (a_aload 0 93), some (a_getR 12 38 26 96), none, none],
  [some (a_iconst 7 98), none, some (a_callS 115 4 101), none, none, some (a_aload 0 102), some (a_getR 12 38 7 105), none, none, some (a_iconst 0 106), some (a_aload 0 107), some (a_getR 12 38 28 110), none, none, some (a_iconst 3 111), some (a_callS 115 4 114)],
  [none, none, some (a_aload 0 115), some (a_getR 12 38 9 118), none, none, some (a_iconst 0 119), some (a_aload 0 120), some (a_getR 12 38 30 123), none, none, some (a_iconst 12 125), none, some (a_callS 115 4 128), none, none],
  [some (a_aload 0 129), some (a_getR 12 38 10 132), none, none, some (a_iconst 0 133), some (a_aload 0 134), some (a_getR 12 38 31 137), none, none, some (a_iconst 34 139), none, some (a_callS 115 4 142), none, none, some (a_aload 0 143), some (a_iconst 0 144)],
  [some (a_putI 12 38 11 147), none, none, some (a_aload 0 148), some (a_iconst 0 149), some (a_putI 12 38 13 152), none, none, some (a_aload 0 153), some (a_iconst 0 154), some (a_putI 12 38 15 157), none, none, some (a_aload 0 158), some (a_getI 12 38 0 161), none],
  [none, some (a_iret)]]
def t_X12_whereAt : ax_T := [[some (a_aload 0 1), some (a_getR 12 38 1 4), none, none, some (a_iconst 3 5), some (a_iload 1 6), some (a_imul 7), some (a_iald 8), some (a_istore 3 9), some (a_iconst 0 10), some (a_istore 4 12), none, some (a_iconst 0 13), some (a_istore 5 15), none, some (a_iload 5 17)],
  [none, some (a_aload 0 18), some (a_getR 12 38 10 21), none, none, some (a_iconst 6 23), none, some (a_iald 24), some (a_cge 101 27), none, none, some (a_iconst 7 29), none, some (a_iconst 3 30), some (a_iload 5 32), none],
  [some (a_imul 33), some (a_iadd 34), some (a_istore 6 36), none, some (a_aload 0 37), some (a_getR 12 38 10 40), none, none, some (a_iload 6 42), none, some (a_iald 43), some (a_iload 1 44), some (a_cne 95 47), none, none, some (a_aload 0 48)],
  [some (a_getR 12 38 10 51), none, none, some (a_iload 6 53), none, some (a_iconst 1 54), some (a_iadd 55), some (a_iald 56), some (a_iload 2 57), some (a_cgt 95 60), none, none, some (a_aload 0 61), some (a_getR 12 38 10 64), none, none],
  [some (a_iload 6 66), none, some (a_iconst 1 67), some (a_iadd 68), some (a_iald 69), some (a_iload 4 71), none, some (a_clt 95 74), none, none, some (a_aload 0 75), some (a_getR 12 38 10 78), none, none, some (a_iload 6 80), none],
  [some (a_iconst 2 81), some (a_iadd 82), some (a_iald 83), some (a_istore 3 84), some (a_aload 0 85), some (a_getR 12 38 10 88), none, none, some (a_iload 6 90), none, some (a_iconst 1 91), some (a_iadd 92), some (a_iald 93), some (a_istore 4 95), none, some (a_iinc 5 1 98)],
  [none, none, some (a_goto 15), none, none, some (a_iload 3 102), some (a_iret)]]
def t_X12_fromNoon : ax_T := [[some (a_iload 1 1), some (a_iconst 12 3), none, some (a_cge 13 6), none, none, some (a_iconst 12 8), none, some (a_iload 1 9), some (a_isub 10), some (a_goto 17), none, none, some (a_iload 1 14), some (a_iconst 12 16), none],
  [some (a_isub 17), some (a_iret)]]
def t_X12_longBy : ax_T := [[some (a_aload 0 1), some (a_getR 12 38 1 4), none, none, some (a_iconst 3 5), some (a_iload 1 6), some (a_imul 7), some (a_iconst 1 8), some (a_iadd 9), some (a_iald 10), some (a_aload 0 11), some (a_iload 2 12), some (a_callV 12 38 127 1 15), none, none, some (a_imul 16)],
  [some (a_iconst 2 17), some (a_idiv 18), some (a_istore 4 20), none, some (a_aload 0 21), some (a_getR 12 38 1 24), none, none, some (a_iconst 3 25), some (a_iload 1 26), some (a_imul 27), some (a_iconst 2 28), some (a_iadd 29), some (a_iald 30), some (a_istore 5 32), none],
  [some (a_iload 2 33), some (a_iconst 8 35), none, some (a_clt 44 38), none, none, some (a_iload 2 39), some (a_iconst 16 41), none, some (a_cle 48 44), none, none, some (a_iconst 1 45), some (a_goto 49), none, none],
  [some (a_iconst 0 49), some (a_istore 6 51), none, some (a_iload 5 53), none, some (a_iconst 2 54), some (a_cne 64 57), none, none, some (a_iconst 2 58), some (a_iload 4 60), none, some (a_imul 61), some (a_goto 84), none, none],
  [some (a_iload 5 66), none, some (a_iconst 3 67), some (a_cne 82 70), none, none, some (a_iload 6 72), none, some (a_zeq 82 75), none, none, some (a_iload 4 77), none, some (a_iconst 1 78), some (a_iadd 79), some (a_goto 84)],
  [none, none, some (a_iload 4 84), none, some (a_istore 7 86), none, some (a_iload 7 88), none, some (a_iload 3 89), some (a_cle 99 92), none, none, some (a_iload 7 94), none, some (a_iload 3 95), some (a_isub 96)],
  [some (a_goto 100), none, none, some (a_iconst 0 100), some (a_iret)]]
def t_X12_longAt : ax_T := [[some (a_aload 0 1), some (a_iload 1 2), some (a_iload 2 3), some (a_aload 0 4), some (a_getR 12 38 10 7), none, none, some (a_iconst 0 8), some (a_iload 1 9), some (a_iadd 10), some (a_iald 11), some (a_callV 12 38 128 3 14), none, none, some (a_iret)]]
def t_X12_wayAt : ax_T := [[some (a_aload 0 1), some (a_getR 12 38 1 4), none, none, some (a_iconst 3 5), some (a_iload 1 6), some (a_imul 7), some (a_iconst 2 8), some (a_iadd 9), some (a_iald 10), some (a_iconst 1 11), some (a_cne 20 14), none, none, some (a_iload 2 15), some (a_iconst 3 16)],
  [some (a_iadd 17), some (a_goto 21), none, none, some (a_iload 2 21), some (a_istore 3 22), some (a_iload 3 23), some (a_iconst 12 25), none, some (a_cge 32 28), none, none, some (a_iconst (-1) 29), some (a_goto 33), none, none],
  [some (a_iconst 1 33), some (a_iret)]]
def t_X12_endAt : ax_T := [[some (a_aload 0 1), some (a_iload 1 2), some (a_iload 2 3), some (a_callV 12 38 126 2 6), none, none, some (a_aload 0 7), some (a_iload 1 8), some (a_iload 2 9), some (a_callV 12 38 130 2 12), none, none, some (a_aload 0 13), some (a_iload 1 14), some (a_iload 2 15), some (a_callV 12 38 129 2 18)],
  [none, none, some (a_imul 19), some (a_iadd 20), some (a_iret)]]
def t_X12_reaches : ax_T := [[some (a_iload 3 1), some (a_iload 0 2), some (a_isub 3), some (a_iload 1 4), some (a_imul 5), some (a_istore 4 7), none, some (a_iload 4 9), none, some (a_zle 22 12), none, none, some (a_iload 4 14), none, some (a_iload 2 15), some (a_cgt 22 18)],
  [none, none, some (a_iconst 1 19), some (a_goto 23), none, none, some (a_iconst 0 23), some (a_zret)]]
def t_X12_person : ax_T := [[some (a_aload 0 1), some (a_iload 1 2), some (a_callV 12 38 107 1 5), none, none, some (a_zeq 17 8), none, none, some (a_iload 2 9), some (a_iconst 0 10), some (a_iconst 2 11), some (a_callS 104 3 14), none, none, some (a_zne 19 17), none],
  [none, some (a_iconst (-1) 18), some (a_iret), some (a_iload 2 20), some (a_iconst 2 21), some (a_cge 39 24), none, none, some (a_aload 0 25), some (a_getR 12 38 1 28), none, none, some (a_iconst 3 29), some (a_iload 1 30), some (a_imul 31), some (a_iconst 1 32)],
  [some (a_iadd 33), some (a_iload 2 34), some (a_iadd 35), some (a_iald 36), some (a_goto 50), none, none, some (a_aload 0 40), some (a_getR 12 38 10 43), none, none, some (a_iconst 0 44), some (a_iload 1 45), some (a_iadd 46), some (a_iald 47), some (a_iconst 9 49)],
  [none, some (a_iadd 50), some (a_iret)]]
def t_X12_where : ax_T := [[some (a_aload 0 1), some (a_iload 1 2), some (a_callV 12 38 107 1 5), none, none, some (a_zeq 24 8), none, none, some (a_iload 2 9), some (a_callS 108 1 12), none, none, some (a_zeq 24 15), none, none, some (a_aload 0 16)],
  [some (a_iload 1 17), some (a_iload 2 18), some (a_callV 12 38 126 2 21), none, none, some (a_goto 25), none, none, some (a_iconst (-1) 25), some (a_iret)]]
def t_X12_shadow : ax_T := [[some (a_aload 0 1), some (a_iload 1 2), some (a_callV 12 38 107 1 5), none, none, some (a_zeq 24 8), none, none, some (a_iload 2 9), some (a_callS 108 1 12), none, none, some (a_zeq 24 15), none, none, some (a_iload 3 16)],
  [some (a_iconst 0 17), some (a_iconst 2 18), some (a_callS 104 3 21), none, none, some (a_zne 26 24), none, none, some (a_iconst (-1) 25), some (a_iret), some (a_aload 0 27), some (a_iload 1 28), some (a_iload 2 29), some (a_callV 12 38 129 2 32), none, none],
  [some (a_istore 4 34), none, some (a_iload 3 35), some (a_zne 41 38), none, none, some (a_iload 4 40), none, some (a_iret), some (a_iload 4 43), none, some (a_zne 49 46), none, none, some (a_iconst (-4) 48), none],
  [some (a_iret), some (a_aload 0 50), some (a_iload 1 51), some (a_iload 2 52), some (a_callV 12 38 126 2 55), none, none, some (a_aload 0 56), some (a_iload 1 57), some (a_iload 2 58), some (a_callV 12 38 130 2 61), none, none, some (a_iadd 62), some (a_istore 5 64), none],
  [some (a_aload 0 65), some (a_iload 1 66), some (a_iload 2 67), some (a_callV 12 38 131 2 70), none, none, some (a_istore 6 72), none, some (a_aload 0 73), some (a_iload 1 74), some (a_iload 2 75), some (a_callV 12 38 130 2 78), none, none, some (a_zge 85 81), none],
  [none, some (a_iconst 1 82), some (a_goto 86), none, none, some (a_iconst 0 86), some (a_iload 3 87), some (a_iconst 1 88), some (a_cne 95 91), none, none, some (a_iconst 1 92), some (a_goto 96), none, none, some (a_iconst 0 96)],
  [some (a_cne 103 99), none, none, some (a_iconst 1 100), some (a_goto 104), none, none, some (a_iconst 0 104), some (a_istore 7 106), none, some (a_iconst 200 109), none, none, some (a_iload 7 111), none, some (a_zeq 119 114)],
  [none, none, some (a_iload 6 116), none, some (a_goto 121), none, none, some (a_iload 5 121), none, some (a_iadd 122), some (a_iret)]]
def t_X12_covers : ax_T := [[some (a_iload 1 1), some (a_iconst 0 2), some (a_iconst 60 4), none, some (a_callS 104 3 7), none, none, some (a_zeq 17 10), none, none, some (a_iload 2 11), some (a_callS 108 1 14), none, none, some (a_zne 19 17), none],
  [none, some (a_iconst (-1) 18), some (a_iret), some (a_iconst 0 20), some (a_istore 3 21), some (a_iconst 0 22), some (a_istore 4 24), none, some (a_iload 4 26), none, some (a_aload 0 27), some (a_getI 12 38 0 30), none, none, some (a_cge 78 33), none],
  [none, some (a_iload 3 34), some (a_aload 0 35), some (a_iload 4 37), none, some (a_iload 2 38), some (a_callV 12 38 126 2 41), none, none, some (a_aload 0 42), some (a_iload 4 44), none, some (a_iload 2 45), some (a_callV 12 38 130 2 48), none, none],
  [some (a_aload 0 49), some (a_iload 4 51), none, some (a_iload 2 52), some (a_callV 12 38 129 2 55), none, none, some (a_iload 1 56), some (a_callS 132 4 59), none, none, some (a_zeq 69 62), none, none, some (a_iconst 1 63), some (a_iload 4 65)],
  [none, some (a_ishl 66), some (a_goto 70), none, none, some (a_iconst 0 70), some (a_ior 71), some (a_istore 3 72), some (a_iinc 4 1 75), none, none, some (a_goto 24), none, none, some (a_iload 3 79), some (a_iret)]]
def t_X12_standOn : ax_T := [[some (a_iconst 0 1), some (a_istore 4 3), none, some (a_iconst 0 4), some (a_istore 5 6), none, some (a_iload 5 8), none, some (a_aload 0 9), some (a_getI 12 38 0 12), none, none, some (a_cge 66 15), none, none, some (a_iload 4 17)],
  [none, some (a_iload 5 19), none, some (a_iload 1 20), some (a_ceq 56 23), none, none, some (a_aload 0 24), some (a_iload 1 25), some (a_iload 2 26), some (a_callV 12 38 126 2 29), none, none, some (a_aload 0 30), some (a_iload 1 31), some (a_iload 2 32)],
  [some (a_callV 12 38 130 2 35), none, none, some (a_iload 3 36), some (a_aload 0 37), some (a_iload 5 39), none, some (a_iload 2 40), some (a_callV 12 38 126 2 43), none, none, some (a_callS 132 4 46), none, none, some (a_zeq 56 49), none],
  [none, some (a_iconst 1 50), some (a_iload 5 52), none, some (a_ishl 53), some (a_goto 57), none, none, some (a_iconst 0 57), some (a_ior 58), some (a_istore 4 60), none, some (a_iinc 5 1 63), none, none, some (a_goto 6)],
  [none, none, some (a_iload 4 68), none, some (a_iret)]]
def t_X12_standsAt : ax_T := [[some (a_aload 0 1), some (a_iload 1 2), some (a_iload 2 3), some (a_aload 0 4), some (a_iload 1 5), some (a_iload 2 6), some (a_callV 12 38 129 2 9), none, none, some (a_callV 12 38 137 3 12), none, none, some (a_iret)]]
def t_X12_stands : ax_T := [[some (a_aload 0 1), some (a_iload 1 2), some (a_callV 12 38 107 1 5), none, none, some (a_zeq 24 8), none, none, some (a_iload 2 9), some (a_callS 108 1 12), none, none, some (a_zeq 24 15), none, none, some (a_aload 0 16)],
  [some (a_iload 1 17), some (a_iload 2 18), some (a_callV 12 38 138 2 21), none, none, some (a_goto 25), none, none, some (a_iconst (-1) 25), some (a_iret)]]
def t_X12_wear : ax_T := [[some (a_aload 0 1), some (a_iload 1 2), some (a_callV 12 38 107 1 5), none, none, some (a_zeq 15 8), none, none, some (a_iload 2 9), some (a_callS 108 1 12), none, none, some (a_zne 17 15), none, none, some (a_iconst (-1) 16)],
  [some (a_iret), some (a_iconst 0 18), some (a_istore 3 19), some (a_iconst 6 21), none, some (a_istore 4 23), none, some (a_iload 4 25), none, some (a_iload 2 26), some (a_cgt 48 29), none, none, some (a_iload 3 30), some (a_aload 0 31), some (a_iload 1 32)],
  [some (a_iload 4 34), none, some (a_callV 12 38 138 2 37), none, none, some (a_callS 106 1 40), none, none, some (a_iadd 41), some (a_istore 3 42), some (a_iinc 4 1 45), none, none, some (a_goto 23), none, none],
  [some (a_iload 3 49), some (a_iret)]]
def t_X12_remembers : ax_T := [[some (a_aload 0 1), some (a_getI 12 38 11 4), none, none, some (a_iconst 8 6), none, some (a_cne 49 9), none, none, some (a_iconst 0 10), some (a_istore 1 11), some (a_iload 1 12), some (a_iconst 238 15), none, none, some (a_cge 39 18)],
  [none, none, some (a_aload 0 19), some (a_getR 12 38 12 22), none, none, some (a_iload 1 23), some (a_aload 0 24), some (a_getR 12 38 12 27), none, none, some (a_iload 1 28), some (a_iconst 34 30), none, some (a_iadd 31), some (a_iald 32)],
  [some (a_iast 33), some (a_iinc 1 1 36), none, none, some (a_goto 11), none, none, some (a_aload 0 40), some (a_dup 41), some (a_getI 12 38 11 44), none, none, some (a_iconst 1 45), some (a_isub 46), some (a_putI 12 38 11 49), none],
  [none, some (a_iconst 0 50), some (a_istore 1 51), some (a_iload 1 52), some (a_iconst 34 54), none, some (a_cge 83 57), none, none, some (a_aload 0 58), some (a_getR 12 38 12 61), none, none, some (a_iconst 34 63), none, some (a_aload 0 64)],
  [some (a_getI 12 38 11 67), none, none, some (a_imul 68), some (a_iload 1 69), some (a_iadd 70), some (a_aload 0 71), some (a_getR 12 38 10 74), none, none, some (a_iload 1 75), some (a_iald 76), some (a_iast 77), some (a_iinc 1 1 80), none, none],
  [some (a_goto 51), none, none, some (a_aload 0 84), some (a_dup 85), some (a_getI 12 38 11 88), none, none, some (a_iconst 1 89), some (a_iadd 90), some (a_putI 12 38 11 93), none, none, some (a_vret)]]
def t_X12_alter : ax_T := [[some (a_aload 0 1), some (a_iload 1 2), some (a_callV 12 38 107 1 5), none, none, some (a_zeq 18 8), none, none, some (a_iload 2 9), some (a_iconst 0 10), some (a_iconst 29 12), none, some (a_callS 104 3 15), none, none, some (a_zne 20 18)],
  [none, none, some (a_iconst (-1) 19), some (a_iret), some (a_aload 0 21), some (a_callV 12 38 141 0 24), none, none, some (a_aload 0 25), some (a_getR 12 38 10 28), none, none, some (a_iconst 0 29), some (a_iload 1 30), some (a_iadd 31), some (a_iald 32)],
  [some (a_iconst 9 34), none, some (a_iadd 35), some (a_istore 3 36), some (a_aload 0 37), some (a_getR 12 38 10 40), none, none, some (a_iconst 0 41), some (a_iload 1 42), some (a_iadd 43), some (a_iload 2 44), some (a_iconst 9 46), none, some (a_isub 47), some (a_iast 48)],
  [some (a_iload 3 49), some (a_iret)]]
def t_X12_walk : ax_T := [[some (a_aload 0 1), some (a_iload 1 2), some (a_callV 12 38 107 1 5), none, none, some (a_zeq 25 8), none, none, some (a_iload 2 9), some (a_callS 108 1 12), none, none, some (a_zeq 25 15), none, none, some (a_iload 3 16)],
  [some (a_iconst 0 17), some (a_iconst 60 19), none, some (a_callS 104 3 22), none, none, some (a_zne 27 25), none, none, some (a_iconst (-1) 26), some (a_iret), some (a_aload 0 28), some (a_getR 12 38 10 31), none, none, some (a_iconst 6 33)],
  [none, some (a_iald 34), some (a_iconst 9 36), none, some (a_cne 42 39), none, none, some (a_iconst (-3) 41), none, some (a_iret), some (a_aload 0 43), some (a_callV 12 38 141 0 46), none, none, some (a_aload 0 47), some (a_getR 12 38 10 50)],
  [none, none, some (a_iconst 7 52), none, some (a_iconst 3 53), some (a_aload 0 54), some (a_getR 12 38 10 57), none, none, some (a_iconst 6 59), none, some (a_iald 60), some (a_imul 61), some (a_iadd 62), some (a_iload 1 63), some (a_iload 2 64)],
  [some (a_iload 3 65), some (a_callS 103 5 68), none, none, some (a_aload 0 69), some (a_getR 12 38 10 72), none, none, some (a_iconst 6 74), none, some (a_dup2 75), some (a_iald 76), some (a_iconst 1 77), some (a_iadd 78), some (a_iast 79), some (a_aload 0 80)],
  [some (a_getR 12 38 10 83), none, none, some (a_iconst 6 85), none, some (a_iald 86), some (a_iret)]]
def t_X12_undo : ax_T := [[some (a_aload 0 1), some (a_getI 12 38 11 4), none, none, some (a_zne 10 7), none, none, some (a_iconst (-2) 9), none, some (a_iret), some (a_aload 0 11), some (a_dup 12), some (a_getI 12 38 11 15), none, none, some (a_iconst 1 16)],
  [some (a_isub 17), some (a_putI 12 38 11 20), none, none, some (a_iconst 0 21), some (a_istore 1 22), some (a_iload 1 23), some (a_iconst 34 25), none, some (a_cge 54 28), none, none, some (a_aload 0 29), some (a_getR 12 38 10 32), none, none],
  [some (a_iload 1 33), some (a_aload 0 34), some (a_getR 12 38 12 37), none, none, some (a_iconst 34 39), none, some (a_aload 0 40), some (a_getI 12 38 11 43), none, none, some (a_imul 44), some (a_iload 1 45), some (a_iadd 46), some (a_iald 47), some (a_iast 48)],
  [some (a_iinc 1 1 51), none, none, some (a_goto 22), none, none, some (a_aload 0 55), some (a_getI 12 38 11 58), none, none, some (a_iret)]]
def t_X12_first : ax_T := [[some (a_iload 1 1), some (a_iconst 0 2), some (a_iconst 2 3), some (a_callS 104 3 6), none, none, some (a_zne 11 9), none, none, some (a_iconst (-1) 10), some (a_iret), some (a_iconst 6 13), none, some (a_istore 2 14), some (a_iload 2 15), some (a_iconst 18 17)],
  [none, some (a_cgt 78 20), none, none, some (a_iconst 0 21), some (a_istore 3 22), some (a_iload 3 23), some (a_aload 0 24), some (a_getI 12 38 0 27), none, none, some (a_cge 72 30), none, none, some (a_aload 0 31), some (a_iload 3 32)],
  [some (a_iload 2 33), some (a_callV 12 38 138 2 36), none, none, some (a_istore 4 38), none, some (a_iload 4 40), none, some (a_zle 66 43), none, none, some (a_iload 1 44), some (a_zne 51 47), none, none, some (a_iload 2 48)],
  [some (a_goto 65), none, none, some (a_iload 1 52), some (a_iconst 1 53), some (a_cne 60 56), none, none, some (a_iload 3 57), some (a_goto 65), none, none, some (a_iload 4 62), none, some (a_callS 146 1 65), none],
  [none, some (a_iret), some (a_iinc 3 1 69), none, none, some (a_goto 22), none, none, some (a_iinc 2 1 75), none, none, some (a_goto 14), none, none, some (a_iconst (-4) 80), none],
  [some (a_iret)]]
def t_X12_lowest : ax_T := [[some (a_iconst 0 1), some (a_istore 1 2), some (a_iload 0 3), some (a_iload 1 4), some (a_callS 105 2 7), none, none, some (a_zne 16 10), none, none, some (a_iinc 1 1 13), none, none, some (a_goto 2), none, none],
  [some (a_iload 1 17), some (a_iret)]]
def t_X12_broken : ax_T := [[some (a_iconst 0 1), some (a_istore 1 2), some (a_iload 1 3), some (a_aload 0 4), some (a_getI 12 38 2 7), none, none, some (a_cge 53 10), none, none, some (a_aload 0 11), some (a_aload 0 12), some (a_getR 12 38 3 15), none, none, some (a_iconst 3 16)],
  [some (a_iload 1 17), some (a_imul 18), some (a_iald 19), some (a_aload 0 20), some (a_getR 12 38 3 23), none, none, some (a_iconst 3 24), some (a_iload 1 25), some (a_imul 26), some (a_iconst 1 27), some (a_iadd 28), some (a_iald 29), some (a_callV 12 38 129 2 32), none, none],
  [some (a_aload 0 33), some (a_getR 12 38 3 36), none, none, some (a_iconst 3 37), some (a_iload 1 38), some (a_imul 39), some (a_iconst 2 40), some (a_iadd 41), some (a_iald 42), some (a_cle 47 45), none, none, some (a_iload 1 46), some (a_iret), some (a_iinc 1 1 50)],
  [none, none, some (a_goto 2), none, none, some (a_iconst (-4) 55), none, some (a_iret)]]
def t_X12_does : ax_T := [[some (a_iconst 1 1), some (a_istore 5 3), none, some (a_iload 2 4), some (a_istore 6 6), none, some (a_iload 6 8), none, some (a_iload 3 9), some (a_cgt 49 12), none, none, some (a_iload 5 14), none, some (a_zeq 40 17), none],
  [none, some (a_aload 0 18), some (a_iload 1 19), some (a_iload 6 21), none, some (a_aload 0 22), some (a_iload 1 23), some (a_iload 6 25), none, some (a_iload 4 27), none, some (a_callV 12 38 128 3 30), none, none, some (a_callV 12 38 137 3 33), none],
  [none, some (a_zne 40 36), none, none, some (a_iconst 1 37), some (a_goto 41), none, none, some (a_iconst 0 41), some (a_istore 5 43), none, some (a_iinc 6 1 46), none, none, some (a_goto 6), none],
  [none, some (a_iconst 0 50), some (a_istore 6 52), none, some (a_iload 6 54), none, some (a_aload 0 55), some (a_getI 12 38 2 58), none, none, some (a_cge 124 61), none, none, some (a_iload 5 63), none, some (a_zeq 115 66)],
  [none, none, some (a_aload 0 67), some (a_getR 12 38 3 70), none, none, some (a_iconst 3 71), some (a_iload 6 73), none, some (a_imul 74), some (a_iald 75), some (a_iload 1 76), some (a_cne 111 79), none, none, some (a_aload 0 80)],
  [some (a_iload 1 81), some (a_aload 0 82), some (a_getR 12 38 3 85), none, none, some (a_iconst 3 86), some (a_iload 6 88), none, some (a_imul 89), some (a_iconst 1 90), some (a_iadd 91), some (a_iald 92), some (a_iload 4 94), none, some (a_callV 12 38 128 3 97), none],
  [none, some (a_aload 0 98), some (a_getR 12 38 3 101), none, none, some (a_iconst 3 102), some (a_iload 6 104), none, some (a_imul 105), some (a_iconst 2 106), some (a_iadd 107), some (a_iald 108), some (a_cgt 115 111), none, none, some (a_iconst 1 112)],
  [some (a_goto 116), none, none, some (a_iconst 0 116), some (a_istore 5 118), none, some (a_iinc 6 1 121), none, none, some (a_goto 52), none, none, some (a_iload 5 126), none, some (a_zret)]]
def t_X12_taken : ax_T := [[some (a_aload 0 1), some (a_iload 1 2), some (a_callV 12 38 107 1 5), none, none, some (a_zeq 27 8), none, none, some (a_iload 2 9), some (a_callS 108 1 12), none, none, some (a_zeq 27 15), none, none, some (a_iload 3 16)],
  [some (a_callS 108 1 19), none, none, some (a_zeq 27 22), none, none, some (a_iload 3 23), some (a_iload 2 24), some (a_cge 29 27), none, none, some (a_iconst (-1) 28), some (a_iret), some (a_iconst 0 30), some (a_istore 4 32), none],
  [some (a_iload 4 34), none, some (a_iconst 20 36), none, some (a_cgt 60 39), none, none, some (a_aload 0 40), some (a_iload 1 41), some (a_iload 2 42), some (a_iload 3 43), some (a_iload 4 45), none, some (a_callV 12 38 148 4 48), none, none],
  [some (a_zeq 54 51), none, none, some (a_iload 4 53), none, some (a_iret), some (a_iinc 4 1 57), none, none, some (a_goto 32), none, none, some (a_iconst (-4) 62), none, some (a_iret)]]
def t_X12_seen : ax_T := [[some (a_iload 1 1), some (a_callS 108 1 4), none, none, some (a_zeq 18 7), none, none, some (a_iload 2 8), some (a_iconst 0 9), some (a_iconst 140 12), none, none, some (a_callS 104 3 15), none, none, some (a_zne 20 18)],
  [none, none, some (a_iconst (-1) 19), some (a_iret), some (a_aload 0 21), some (a_getI 12 38 15 24), none, none, some (a_iconst 6 26), none, some (a_cne 32 29), none, none, some (a_iconst (-3) 31), none, some (a_iret)],
  [some (a_aload 0 33), some (a_getR 12 38 16 36), none, none, some (a_iconst 2 37), some (a_aload 0 38), some (a_getI 12 38 15 41), none, none, some (a_imul 42), some (a_iload 1 43), some (a_iast 44), some (a_aload 0 45), some (a_getR 12 38 16 48), none, none],
  [some (a_iconst 2 49), some (a_aload 0 50), some (a_getI 12 38 15 53), none, none, some (a_imul 54), some (a_iconst 1 55), some (a_iadd 56), some (a_iload 2 57), some (a_iconst 40 59), none, some (a_isub 60), some (a_iast 61), some (a_aload 0 62), some (a_dup 63), some (a_getI 12 38 15 66)],
  [none, none, some (a_iconst 1 67), some (a_iadd 68), some (a_putI 12 38 15 71), none, none, some (a_aload 0 72), some (a_getI 12 38 15 75), none, none, some (a_iret)]]
def t_X12_forget : ax_T := [[some (a_aload 0 1), some (a_getI 12 38 15 4), none, none, some (a_istore 1 5), some (a_aload 0 6), some (a_iconst 0 7), some (a_putI 12 38 15 10), none, none, some (a_iload 1 11), some (a_iret)]]
def t_X12_whose : ax_T := [[some (a_iconst 0 1), some (a_istore 1 2), some (a_iconst 0 3), some (a_istore 2 4), some (a_iload 2 5), some (a_aload 0 6), some (a_getI 12 38 0 9), none, none, some (a_cge 90 12), none, none, some (a_iconst 1 13), some (a_istore 3 14), some (a_iconst 0 15), some (a_istore 4 17)],
  [none, some (a_iload 4 19), none, some (a_aload 0 20), some (a_getI 12 38 15 23), none, none, some (a_cge 70 26), none, none, some (a_iload 3 27), some (a_zeq 62 30), none, none, some (a_aload 0 31), some (a_iload 2 32)],
  [some (a_aload 0 33), some (a_getR 12 38 16 36), none, none, some (a_iconst 2 37), some (a_iload 4 39), none, some (a_imul 40), some (a_iald 41), some (a_callV 12 38 131 2 44), none, none, some (a_aload 0 45), some (a_getR 12 38 16 48), none, none],
  [some (a_iconst 2 49), some (a_iload 4 51), none, some (a_imul 52), some (a_iconst 1 53), some (a_iadd 54), some (a_iald 55), some (a_cne 62 58), none, none, some (a_iconst 1 59), some (a_goto 63), none, none, some (a_iconst 0 63), some (a_istore 3 64)],
  [some (a_iinc 4 1 67), none, none, some (a_goto 17), none, none, some (a_iload 1 71), some (a_iload 3 72), some (a_zeq 81 75), none, none, some (a_iconst 1 76), some (a_iload 2 77), some (a_ishl 78), some (a_goto 82), none],
  [none, some (a_iconst 0 82), some (a_ior 83), some (a_istore 1 84), some (a_iinc 2 1 87), none, none, some (a_goto 4), none, none, some (a_iload 1 91), some (a_iret)]]
def t_X12_alike : ax_T := [[some (a_iconst 0 1), some (a_istore 3 2), some (a_iconst 0 3), some (a_istore 4 5), none, some (a_iload 4 7), none, some (a_aload 0 8), some (a_getI 12 38 0 11), none, none, some (a_cge 99 14), none, none, some (a_iconst 0 15), some (a_istore 5 17)],
  [none, some (a_iconst 0 18), some (a_istore 6 20), none, some (a_iload 6 22), none, some (a_aload 0 23), some (a_getI 12 38 0 26), none, none, some (a_cge 80 29), none, none, some (a_iload 5 31), none, some (a_iload 1 32)],
  [some (a_iload 4 34), none, some (a_callS 105 2 37), none, none, some (a_zeq 70 40), none, none, some (a_iload 1 41), some (a_iload 6 43), none, some (a_callS 105 2 46), none, none, some (a_zeq 70 49), none],
  [none, some (a_aload 0 50), some (a_iload 4 52), none, some (a_iload 2 53), some (a_callV 12 38 131 2 56), none, none, some (a_aload 0 57), some (a_iload 6 59), none, some (a_iload 2 60), some (a_callV 12 38 131 2 63), none, none, some (a_cne 70 66)],
  [none, none, some (a_iconst 1 67), some (a_goto 71), none, none, some (a_iconst 0 71), some (a_iadd 72), some (a_istore 5 74), none, some (a_iinc 6 1 77), none, none, some (a_goto 20), none, none],
  [some (a_iload 5 82), none, some (a_iload 3 83), some (a_cle 91 86), none, none, some (a_iload 5 88), none, some (a_goto 92), none, none, some (a_iload 3 92), some (a_istore 3 93), some (a_iinc 4 1 96), none, none],
  [some (a_goto 5), none, none, some (a_iload 3 100), some (a_iret)]]
def t_X12_look : ax_T := [[some (a_iload 1 1), some (a_iconst 0 2), some (a_iconst 1 3), some (a_callS 104 3 6), none, none, some (a_zne 11 9), none, none, some (a_iconst (-1) 10), some (a_iret), some (a_aload 0 12), some (a_callV 12 38 152 0 15), none, none, some (a_istore 2 16)],
  [some (a_iload 2 17), some (a_zne 23 20), none, none, some (a_iconst (-4) 22), none, some (a_iret), some (a_iconst 6 25), none, some (a_istore 3 26), some (a_iconst 7 28), none, some (a_istore 4 30), none, some (a_iload 4 32), none],
  [some (a_iconst 18 34), none, some (a_cgt 66 37), none, none, some (a_aload 0 38), some (a_iload 2 39), some (a_iload 4 41), none, some (a_callV 12 38 153 2 44), none, none, some (a_aload 0 45), some (a_iload 2 46), some (a_iload 3 47), some (a_callV 12 38 153 2 50)],
  [none, none, some (a_cge 58 53), none, none, some (a_iload 4 55), none, some (a_goto 59), none, none, some (a_iload 3 59), some (a_istore 3 60), some (a_iinc 4 1 63), none, none, some (a_goto 30)],
  [none, none, some (a_iload 1 67), some (a_zne 74 70), none, none, some (a_iload 3 71), some (a_goto 80), none, none, some (a_aload 0 75), some (a_iload 2 76), some (a_iload 3 77), some (a_callV 12 38 153 2 80), none, none],
  [some (a_iret)]]
def t_X12_shares : ax_T := [[some (a_iload 1 1), some (a_istore 2 2), some (a_iconst 0 3), some (a_istore 3 4), some (a_iconst 0 5), some (a_istore 4 7), none, some (a_aload 0 8), some (a_getI 12 38 4 11), none, none, some (a_iconst 1 12), some (a_isub 13), some (a_istore 5 15), none, some (a_iload 5 17)],
  [none, some (a_zlt 102 20), none, none, some (a_aload 0 21), some (a_getR 12 38 32 24), none, none, some (a_iload 5 26), none, some (a_iload 2 27), some (a_aload 0 28), some (a_getI 12 38 6 31), none, none, some (a_iconst 1 32)],
  [some (a_iadd 33), some (a_irem 34), some (a_iast 35), some (a_iload 2 36), some (a_aload 0 37), some (a_getI 12 38 6 40), none, none, some (a_iconst 1 41), some (a_iadd 42), some (a_idiv 43), some (a_istore 2 44), some (a_iload 3 45), some (a_aload 0 46), some (a_getR 12 38 32 49), none],
  [none, some (a_iload 5 51), none, some (a_iald 52), some (a_aload 0 53), some (a_getI 12 38 6 56), none, none, some (a_cge 63 59), none, none, some (a_iconst 1 60), some (a_goto 64), none, none, some (a_iconst 0 64)],
  [some (a_iadd 65), some (a_istore 3 66), some (a_iload 4 68), none, some (a_aload 0 69), some (a_getR 12 38 32 72), none, none, some (a_iload 5 74), none, some (a_iald 75), some (a_aload 0 76), some (a_getI 12 38 6 79), none, none, some (a_cge 92 82)],
  [none, none, some (a_aload 0 83), some (a_getR 12 38 5 86), none, none, some (a_iload 5 88), none, some (a_iald 89), some (a_goto 93), none, none, some (a_iconst 0 93), some (a_iadd 94), some (a_istore 4 96), none],
  [some (a_iinc 5 (-1) 99), none, none, some (a_goto 15), none, none, some (a_iconst 1 103), some (a_istore 5 105), none, some (a_iconst 0 106), some (a_istore 6 108), none, some (a_iload 6 110), none, some (a_aload 0 111), some (a_getI 12 38 6 114)],
  [none, none, some (a_cge 208 117), none, none, some (a_iconst 0 118), some (a_istore 7 120), none, some (a_iconst 0 121), some (a_istore 8 123), none, some (a_iload 8 125), none, some (a_aload 0 126), some (a_getI 12 38 4 129), none],
  [none, some (a_cge 166 132), none, none, some (a_iload 7 134), none, some (a_aload 0 135), some (a_getR 12 38 32 138), none, none, some (a_iload 8 140), none, some (a_iald 141), some (a_iload 6 143), none, some (a_cne 156 146)],
  [none, none, some (a_aload 0 147), some (a_getR 12 38 5 150), none, none, some (a_iload 8 152), none, some (a_iald 153), some (a_goto 157), none, none, some (a_iconst 0 157), some (a_iadd 158), some (a_istore 7 160), none],
  [some (a_iinc 8 1 163), none, none, some (a_goto 123), none, none, some (a_iload 5 168), none, some (a_zeq 187 171), none, none, some (a_iload 7 173), none, some (a_aload 0 174), some (a_getR 12 38 7 177), none],
  [none, some (a_iload 6 179), none, some (a_iald 180), some (a_clt 187 183), none, none, some (a_iconst 1 184), some (a_goto 188), none, none, some (a_iconst 0 188), some (a_istore 5 190), none, some (a_iload 4 192), none],
  [some (a_aload 0 193), some (a_getR 12 38 7 196), none, none, some (a_iload 6 198), none, some (a_iald 199), some (a_isub 200), some (a_istore 4 202), none, some (a_iinc 6 1 205), none, none, some (a_goto 108), none, none],
  [some (a_aload 0 209), some (a_iload 3 210), some (a_aload 0 211), some (a_getI 12 38 6 214), none, none, some (a_isub 215), some (a_putI 12 38 33 218), none, none, some (a_aload 0 219), some (a_iload 4 221), none, some (a_putI 12 38 34 224), none, none],
  [some (a_iload 5 226), none, some (a_zret)]]
def t_X12_cut : ax_T := [[some (a_iload 1 1), some (a_iconst (-2) 3), none, some (a_aload 0 4), some (a_getI 12 38 4 7), none, none, some (a_iconst 1 8), some (a_isub 9), some (a_callS 104 3 12), none, none, some (a_zne 17 15), none, none, some (a_iconst (-1) 16)],
  [some (a_iret), some (a_iconst 1 18), some (a_istore 2 19), some (a_iconst 0 20), some (a_istore 3 21), some (a_iload 3 22), some (a_aload 0 23), some (a_getI 12 38 4 26), none, none, some (a_cge 44 29), none, none, some (a_iload 2 30), some (a_aload 0 31), some (a_getI 12 38 6 34)],
  [none, none, some (a_iconst 1 35), some (a_iadd 36), some (a_imul 37), some (a_istore 2 38), some (a_iinc 3 1 41), none, none, some (a_goto 21), none, none, some (a_iconst (-4) 46), none, some (a_istore 3 47), some (a_iconst 0 48)],
  [some (a_istore 4 50), none, some (a_iconst 0 51), some (a_istore 5 53), none, some (a_iconst 0 54), some (a_istore 6 56), none, some (a_iload 6 58), none, some (a_iload 2 59), some (a_cge 161 62), none, none, some (a_aload 0 63), some (a_iload 6 65)],
  [none, some (a_callV 12 38 155 1 68), none, none, some (a_zeq 108 71), none, none, some (a_iload 3 72), some (a_iconst (-4) 74), none, some (a_ceq 104 77), none, none, some (a_aload 0 78), some (a_getI 12 38 33 81), none],
  [none, some (a_iload 4 83), none, some (a_clt 104 86), none, none, some (a_aload 0 87), some (a_getI 12 38 33 90), none, none, some (a_iload 4 92), none, some (a_cne 108 95), none, none, some (a_aload 0 96)],
  [some (a_getI 12 38 34 99), none, none, some (a_iload 5 101), none, some (a_cge 108 104), none, none, some (a_iconst 1 105), some (a_goto 109), none, none, some (a_iconst 0 109), some (a_istore 7 111), none, some (a_iload 7 113)],
  [none, some (a_zeq 121 116), none, none, some (a_iload 6 118), none, some (a_goto 122), none, none, some (a_iload 3 122), some (a_istore 3 123), some (a_iload 7 125), none, some (a_zeq 135 128), none, none],
  [some (a_aload 0 129), some (a_getI 12 38 33 132), none, none, some (a_goto 137), none, none, some (a_iload 4 137), none, some (a_istore 4 139), none, some (a_iload 7 141), none, some (a_zeq 151 144), none, none],
  [some (a_aload 0 145), some (a_getI 12 38 34 148), none, none, some (a_goto 153), none, none, some (a_iload 5 153), none, some (a_istore 5 155), none, some (a_iinc 6 1 158), none, none, some (a_goto 56), none],
  [none, some (a_iload 3 162), some (a_iconst (-4) 164), none, some (a_cne 170 167), none, none, some (a_iconst (-4) 169), none, some (a_iret), some (a_aload 0 171), some (a_iload 3 172), some (a_callV 12 38 155 1 175), none, none, some (a_pop 176)],
  [some (a_iload 1 177), some (a_iconst (-1) 178), some (a_cne 188 181), none, none, some (a_aload 0 182), some (a_getI 12 38 33 185), none, none, some (a_goto 225), none, none, some (a_iload 1 189), some (a_iconst (-2) 191), none, some (a_cne 201 194)],
  [none, none, some (a_aload 0 195), some (a_getI 12 38 34 198), none, none, some (a_goto 225), none, none, some (a_aload 0 202), some (a_getR 12 38 32 205), none, none, some (a_iload 1 206), some (a_iald 207), some (a_aload 0 208)],
  [some (a_getI 12 38 6 211), none, none, some (a_cge 223 214), none, none, some (a_aload 0 215), some (a_getR 12 38 32 218), none, none, some (a_iload 1 219), some (a_iald 220), some (a_goto 225), none, none, some (a_iconst (-4) 225)],
  [none, some (a_iret)]]
def t_X12_arranges : ax_T := [[some (a_iload 1 1), some (a_istore 2 2), some (a_iconst 1 3), some (a_istore 3 4), some (a_iconst 2 5), some (a_istore 4 7), none, some (a_iload 4 9), none, some (a_aload 0 10), some (a_getI 12 38 8 13), none, none, some (a_cgt 27 16), none, none],
  [some (a_iload 3 17), some (a_iload 4 19), none, some (a_imul 20), some (a_istore 3 21), some (a_iinc 4 1 24), none, none, some (a_goto 7), none, none, some (a_iconst 0 28), some (a_istore 4 30), none, some (a_iconst 0 31), some (a_istore 5 33)],
  [none, some (a_aload 0 34), some (a_iconst 0 35), some (a_putI 12 38 36 38), none, none, some (a_aload 0 39), some (a_iconst 0 40), some (a_putI 12 38 37 43), none, none, some (a_iconst 0 44), some (a_istore 6 46), none, some (a_iload 6 48), none],
  [some (a_aload 0 49), some (a_getI 12 38 8 52), none, none, some (a_cge 229 55), none, none, some (a_iload 3 56), some (a_aload 0 57), some (a_getI 12 38 8 60), none, none, some (a_iload 6 62), none, some (a_isub 63), some (a_idiv 64)],
  [some (a_istore 3 65), some (a_iload 2 66), some (a_iload 3 67), some (a_idiv 68), some (a_istore 7 70), none, some (a_iload 2 71), some (a_iload 3 72), some (a_irem 73), some (a_istore 2 74), some (a_iconst 0 75), some (a_istore 8 77), none, some (a_iload 4 79), none, some (a_iload 8 81)],
  [none, some (a_callS 105 2 84), none, none, some (a_zne 92 87), none, none, some (a_iload 7 89), none, some (a_zle 118 92), none, none, some (a_iload 7 94), none, some (a_iload 4 96), none],
  [some (a_iload 8 98), none, some (a_callS 105 2 101), none, none, some (a_zeq 108 104), none, none, some (a_iconst 0 105), some (a_goto 109), none, none, some (a_iconst 1 109), some (a_isub 110), some (a_istore 7 112), none],
  [some (a_iinc 8 1 115), none, none, some (a_goto 77), none, none, some (a_iload 4 120), none, some (a_iconst 1 121), some (a_iload 8 123), none, some (a_ishl 124), some (a_ior 125), some (a_istore 4 127), none, some (a_aload 0 128)],
  [some (a_getR 12 38 35 131), none, none, some (a_iload 6 133), none, some (a_iload 8 135), none, some (a_iast 136), some (a_iload 5 138), none, some (a_aload 0 139), some (a_getR 12 38 9 142), none, none, some (a_iconst 2 143), some (a_iload 8 145)],
  [none, some (a_imul 146), some (a_iald 147), some (a_iadd 148), some (a_istore 5 150), none, some (a_aload 0 151), some (a_dup 152), some (a_getI 12 38 36 155), none, none, some (a_iload 5 157), none, some (a_aload 0 158), some (a_getR 12 38 9 161), none],
  [none, some (a_iconst 2 162), some (a_iload 8 164), none, some (a_imul 165), some (a_iconst 1 166), some (a_iadd 167), some (a_iald 168), some (a_cle 175 171), none, none, some (a_iconst 1 172), some (a_goto 176), none, none, some (a_iconst 0 176)],
  [some (a_iadd 177), some (a_putI 12 38 36 180), none, none, some (a_aload 0 181), some (a_dup 182), some (a_getI 12 38 37 185), none, none, some (a_iload 5 187), none, some (a_aload 0 188), some (a_getR 12 38 9 191), none, none, some (a_iconst 2 192)],
  [some (a_iload 8 194), none, some (a_imul 195), some (a_iconst 1 196), some (a_iadd 197), some (a_iald 198), some (a_cle 218 201), none, none, some (a_iload 5 203), none, some (a_aload 0 204), some (a_getR 12 38 9 207), none, none, some (a_iconst 2 208)],
  [some (a_iload 8 210), none, some (a_imul 211), some (a_iconst 1 212), some (a_iadd 213), some (a_iald 214), some (a_isub 215), some (a_goto 219), none, none, some (a_iconst 0 219), some (a_iadd 220), some (a_putI 12 38 37 223), none, none, some (a_iinc 6 1 226)],
  [none, none, some (a_goto 46), none, none, some (a_vret)]]
def t_X12_fittings : ax_T := [[some (a_iload 1 1), some (a_iconst (-2) 3), none, some (a_aload 0 4), some (a_getI 12 38 8 7), none, none, some (a_iconst 1 8), some (a_isub 9), some (a_iconst 0 10), some (a_callS 159 2 13), none, none, some (a_callS 104 3 16), none, none],
  [some (a_zne 21 19), none, none, some (a_iconst (-1) 20), some (a_iret), some (a_aload 0 22), some (a_getI 12 38 8 25), none, none, some (a_zne 31 28), none, none, some (a_iconst (-4) 30), none, some (a_iret), some (a_iconst 1 32)],
  [some (a_istore 2 33), some (a_iconst 2 34), some (a_istore 3 35), some (a_iload 3 36), some (a_aload 0 37), some (a_getI 12 38 8 40), none, none, some (a_cgt 53 43), none, none, some (a_iload 2 44), some (a_iload 3 45), some (a_imul 46), some (a_istore 2 47), some (a_iinc 3 1 50)],
  [none, none, some (a_goto 35), none, none, some (a_iconst 0 54), some (a_istore 3 55), some (a_iconst (-1) 56), some (a_istore 4 58), none, some (a_iconst 0 59), some (a_istore 5 61), none, some (a_iload 5 63), none, some (a_iload 2 64)],
  [some (a_cge 134 67), none, none, some (a_aload 0 68), some (a_iload 5 70), none, some (a_callV 12 38 157 1 73), none, none, some (a_iconst 1000 76), none, none, some (a_aload 0 77), some (a_getI 12 38 36 80), none, none],
  [some (a_imul 81), some (a_aload 0 82), some (a_getI 12 38 37 85), none, none, some (a_iadd 86), some (a_istore 6 88), none, some (a_iload 4 90), none, some (a_zlt 100 93), none, none, some (a_iload 6 95), none, some (a_iload 4 97)],
  [none, some (a_cge 105 100), none, none, some (a_iload 5 102), none, some (a_goto 106), none, none, some (a_iload 3 106), some (a_istore 3 107), some (a_iload 4 109), none, some (a_zlt 119 112), none, none],
  [some (a_iload 6 114), none, some (a_iload 4 116), none, some (a_cge 124 119), none, none, some (a_iload 6 121), none, some (a_goto 126), none, none, some (a_iload 4 126), none, some (a_istore 4 128), none],
  [some (a_iinc 5 1 131), none, none, some (a_goto 61), none, none, some (a_aload 0 135), some (a_iload 3 136), some (a_callV 12 38 157 1 139), none, none, some (a_iload 1 140), some (a_iconst (-1) 141), some (a_cne 151 144), none, none],
  [some (a_aload 0 145), some (a_getI 12 38 36 148), none, none, some (a_goto 170), none, none, some (a_iload 1 152), some (a_iconst (-2) 154), none, some (a_cne 164 157), none, none, some (a_aload 0 158), some (a_getI 12 38 37 161), none],
  [none, some (a_goto 170), none, none, some (a_aload 0 165), some (a_getR 12 38 35 168), none, none, some (a_iload 1 169), some (a_iald 170), some (a_iret)]]
def t_X12_most : ax_T := [[some (a_iload 0 1), some (a_iload 1 2), some (a_cle 9 5), none, none, some (a_iload 0 6), some (a_goto 10), none, none, some (a_iload 1 10), some (a_iret)]]
def t_X12_lowAt : ax_T := [[some (a_aload 0 1), some (a_iload 1 2), some (a_iload 2 3), some (a_callV 12 38 130 2 6), none, none, some (a_zge 18 9), none, none, some (a_aload 0 10), some (a_iload 1 11), some (a_iload 2 12), some (a_callV 12 38 131 2 15), none, none, some (a_goto 26)],
  [none, none, some (a_aload 0 19), some (a_iload 1 20), some (a_iload 2 21), some (a_callV 12 38 126 2 24), none, none, some (a_iconst 1 25), some (a_iadd 26), some (a_iret)]]
def t_X12_highAt : ax_T := [[some (a_aload 0 1), some (a_iload 1 2), some (a_iload 2 3), some (a_callV 12 38 130 2 6), none, none, some (a_zge 20 9), none, none, some (a_aload 0 10), some (a_iload 1 11), some (a_iload 2 12), some (a_callV 12 38 126 2 15), none, none, some (a_iconst 1 16)],
  [some (a_isub 17), some (a_goto 26), none, none, some (a_aload 0 21), some (a_iload 1 22), some (a_iload 2 23), some (a_callV 12 38 131 2 26), none, none, some (a_iret)]]
def t_X12_nearest : ax_T := [[some (a_iconst (-4) 2), none, some (a_istore 3 3), some (a_iconst 0 4), some (a_istore 4 6), none, some (a_iload 4 8), none, some (a_aload 0 9), some (a_getI 12 38 0 12), none, none, some (a_cge 59 15), none, none, some (a_iload 1 16)],
  [some (a_iload 4 18), none, some (a_callS 105 2 21), none, none, some (a_zeq 51 24), none, none, some (a_iload 3 25), some (a_iconst (-4) 27), none, some (a_ceq 46 30), none, none, some (a_aload 0 31), some (a_iload 4 33)],
  [none, some (a_iload 2 34), some (a_callV 12 38 161 2 37), none, none, some (a_aload 0 38), some (a_iload 3 39), some (a_iload 2 40), some (a_callV 12 38 161 2 43), none, none, some (a_cge 51 46), none, none, some (a_iload 4 48), none],
  [some (a_goto 52), none, none, some (a_iload 3 52), some (a_istore 3 53), some (a_iinc 4 1 56), none, none, some (a_goto 6), none, none, some (a_iload 3 60), some (a_iret)]]
def t_X12_watchers : ax_T := [[some (a_iload 1 1), some (a_callS 108 1 4), none, none, some (a_zeq 16 7), none, none, some (a_iload 2 8), some (a_iconst 0 9), some (a_iconst 1 10), some (a_callS 104 3 13), none, none, some (a_zne 18 16), none, none],
  [some (a_iconst (-1) 17), some (a_iret), some (a_iconst 0 19), some (a_istore 3 20), some (a_iconst 0 21), some (a_istore 4 23), none, some (a_iload 4 25), none, some (a_aload 0 26), some (a_getI 12 38 0 29), none, none, some (a_cge 59 32), none, none],
  [some (a_iload 3 33), some (a_aload 0 34), some (a_iload 4 36), none, some (a_iload 1 37), some (a_callV 12 38 129 2 40), none, none, some (a_zle 50 43), none, none, some (a_iconst 1 44), some (a_iload 4 46), none, some (a_ishl 47), some (a_goto 51)],
  [none, none, some (a_iconst 0 51), some (a_ior 52), some (a_istore 3 53), some (a_iinc 4 1 56), none, none, some (a_goto 23), none, none, some (a_iload 3 60), some (a_zne 66 63), none, none, some (a_iconst (-4) 65)],
  [none, some (a_iret), some (a_aload 0 67), some (a_aload 0 68), some (a_iload 3 69), some (a_iload 1 70), some (a_callV 12 38 162 2 73), none, none, some (a_iload 1 74), some (a_callV 12 38 161 2 77), none, none, some (a_istore 4 79), none, some (a_iconst 0 80)],
  [some (a_istore 5 82), none, some (a_iload 3 83), some (a_zeq 163 86), none, none, some (a_aload 0 87), some (a_aload 0 88), some (a_iload 3 89), some (a_iload 1 90), some (a_callV 12 38 162 2 93), none, none, some (a_iload 1 94), some (a_callV 12 38 161 2 97), none],
  [none, some (a_istore 6 99), none, some (a_iconst 0 100), some (a_istore 7 102), none, some (a_iconst 0 103), some (a_istore 8 105), none, some (a_iload 8 107), none, some (a_aload 0 108), some (a_getI 12 38 0 111), none, none, some (a_cge 154 114)],
  [none, none, some (a_iload 7 116), none, some (a_iload 3 117), some (a_iload 8 119), none, some (a_callS 105 2 122), none, none, some (a_zeq 144 125), none, none, some (a_aload 0 126), some (a_iload 8 128), none],
  [some (a_iload 1 129), some (a_callV 12 38 160 2 132), none, none, some (a_iload 6 134), none, some (a_cle 144 137), none, none, some (a_iconst 1 138), some (a_iload 8 140), none, some (a_ishl 141), some (a_goto 145), none, none],
  [some (a_iconst 0 145), some (a_ior 146), some (a_istore 7 148), none, some (a_iinc 8 1 151), none, none, some (a_goto 105), none, none, some (a_iload 7 156), none, some (a_istore 3 157), some (a_iinc 5 1 160), none, none],
  [some (a_goto 82), none, none, some (a_iload 2 164), some (a_zne 172 167), none, none, some (a_iload 5 169), none, some (a_goto 178), none, none, some (a_iload 4 174), none, some (a_iconst 200 177), none],
  [none, some (a_iadd 178), some (a_iret)]]
def t_X12_poplar : ax_T := [[some (a_iload 1 1), some (a_iconst 1 2), some (a_iconst 99 4), none, some (a_callS 104 3 7), none, none, some (a_zeq 30 10), none, none, some (a_iload 2 11), some (a_iconst 1 12), some (a_iconst 9 14), none, some (a_callS 104 3 17), none],
  [none, some (a_zeq 30 20), none, none, some (a_iload 1 21), some (a_iconst 1 22), some (a_isub 23), some (a_iload 2 24), some (a_iconst 1 25), some (a_iadd 26), some (a_irem 27), some (a_goto 31), none, none, some (a_iconst (-1) 31), some (a_iret)]]
def t_X12_light : ax_T := [[some (a_iload 1 1), some (a_callS 108 1 4), none, none, some (a_zne 9 7), none, none, some (a_iconst (-1) 8), some (a_iret), some (a_iconst 0 10), some (a_istore 2 11), some (a_iconst 0 12), some (a_istore 3 13), some (a_iload 3 14), some (a_iconst 60 16), none],
  [some (a_cgt 42 19), none, none, some (a_iload 2 20), some (a_aload 0 21), some (a_iload 3 22), some (a_iload 1 23), some (a_callV 12 38 136 2 26), none, none, some (a_zne 33 29), none, none, some (a_iconst 1 30), some (a_goto 34), none],
  [none, some (a_iconst 0 34), some (a_iadd 35), some (a_istore 2 36), some (a_iinc 3 1 39), none, none, some (a_goto 13), none, none, some (a_iload 2 43), some (a_iret)]]
def t_X12_clouds : ax_T := [[some (a_aload 0 1), some (a_iload 1 2), some (a_callV 12 38 107 1 5), none, none, some (a_zeq 48 8), none, none, some (a_iload 2 9), some (a_callS 108 1 12), none, none, some (a_zeq 48 15), none, none, some (a_iload 3 16)],
  [some (a_callS 108 1 19), none, none, some (a_zeq 48 22), none, none, some (a_iload 3 23), some (a_iload 2 24), some (a_clt 48 27), none, none, some (a_iload 4 29), none, some (a_iconst 0 30), some (a_iconst 10 32), none],
  [some (a_callS 104 3 35), none, none, some (a_zeq 48 38), none, none, some (a_iload 5 40), none, some (a_iconst 0 41), some (a_iconst 1 42), some (a_callS 104 3 45), none, none, some (a_zne 52 48), none, none],
  [some (a_lconst (-1) 51), none, none, some (a_lret), some (a_lconst 1 53), some (a_lstore 6 55), none, some (a_lconst 1 56), some (a_lstore 8 58), none, some (a_iload 2 59), some (a_istore 10 61), none, some (a_iload 10 63), none, some (a_iload 3 64)],
  [some (a_cgt 99 67), none, none, some (a_aload 0 68), some (a_iload 1 69), some (a_iload 10 71), none, some (a_callV 12 38 138 2 74), none, none, some (a_zle 93 77), none, none, some (a_lload 6 79), none, some (a_iload 4 81)],
  [none, some (a_i2l 82), some (a_lmul 83), some (a_lstore 6 85), none, some (a_lload 8 87), none, some (a_lconst (10) 90), none, none, some (a_lmul 91), some (a_lstore 8 93), none, some (a_iinc 10 1 96), none, none],
  [some (a_goto 61), none, none, some (a_lload 6 101), none, some (a_lstore 10 103), none, some (a_lload 8 105), none, some (a_lstore 12 107), none, some (a_lload 12 109), none, some (a_lconst 0 110), some (a_lcmp 111), some (a_zle 132 114)],
  [none, none, some (a_lload 10 116), none, some (a_lload 12 118), none, some (a_lrem 119), some (a_lstore 14 121), none, some (a_lload 12 123), none, some (a_lstore 10 125), none, some (a_lload 14 127), none, some (a_lstore 12 129)],
  [none, some (a_goto 107), none, none, some (a_iload 5 134), none, some (a_zne 142 137), none, none, some (a_lload 6 139), none, some (a_goto 144), none, none, some (a_lload 8 144), none],
  [some (a_lload 10 146), none, some (a_ldiv 147), some (a_lret)]]
def t_X12_drawn : ax_T := [[some (a_lconst (7919) 3), none, none, some (a_iload 0 4), some (a_i2l 5), some (a_lmul 6), some (a_lconst (6151) 9), none, none, some (a_iload 1 10), some (a_i2l 11), some (a_lmul 12), some (a_ladd 13), some (a_lconst (3571) 16), none, none],
  [some (a_iload 2 17), some (a_i2l 18), some (a_lmul 19), some (a_ladd 20), some (a_lconst 1 21), some (a_ladd 22), some (a_lstore 3 23), some (a_lload 3 24), some (a_lload 3 25), some (a_lmul 26), some (a_lconst (65521) 29), none, none, some (a_lrem 30), some (a_lconst (61) 33), none],
  [none, some (a_lrem 34), some (a_l2i 35), some (a_iret)]]
def t_X12_day : ax_T := [[some (a_iload 1 1), some (a_iconst 0 2), some (a_iconst 9999 5), none, none, some (a_callS 104 3 8), none, none, some (a_zeq 20 11), none, none, some (a_iload 2 12), some (a_iconst 0 13), some (a_iconst 1 14), some (a_callS 104 3 17), none],
  [none, some (a_zne 22 20), none, none, some (a_iconst (-1) 21), some (a_iret), some (a_iconst 0 23), some (a_istore 3 24), some (a_iconst (-4) 26), none, some (a_istore 4 28), none, some (a_iconst 6 30), none, some (a_istore 5 32), none],
  [some (a_iload 5 34), none, some (a_iconst 18 36), none, some (a_cgt 172 39), none, none, some (a_iconst 0 40), some (a_istore 6 42), none, some (a_iload 6 44), none, some (a_aload 0 45), some (a_getI 12 38 0 48), none, none],
  [some (a_aload 0 49), some (a_getI 12 38 0 52), none, none, some (a_imul 53), some (a_cge 166 56), none, none, some (a_iload 6 58), none, some (a_aload 0 59), some (a_getI 12 38 0 62), none, none, some (a_idiv 63), some (a_istore 7 65)],
  [none, some (a_iload 6 67), none, some (a_aload 0 68), some (a_getI 12 38 0 71), none, none, some (a_irem 72), some (a_istore 8 74), none, some (a_iload 7 76), none, some (a_iload 8 78), none, some (a_ceq 123 81), none],
  [none, some (a_iload 1 82), some (a_iload 5 84), none, some (a_iload 7 86), none, some (a_callS 167 3 89), none, none, some (a_aload 0 90), some (a_iload 7 92), none, some (a_iload 5 94), none, some (a_callV 12 38 130 2 97), none],
  [none, some (a_aload 0 98), some (a_iload 7 100), none, some (a_iload 5 102), none, some (a_callV 12 38 129 2 105), none, none, some (a_iload 1 106), some (a_iload 5 108), none, some (a_iload 8 110), none, some (a_callS 167 3 113), none],
  [none, some (a_callS 132 4 116), none, none, some (a_zeq 123 119), none, none, some (a_iconst 1 120), some (a_goto 124), none, none, some (a_iconst 0 124), some (a_istore 9 126), none, some (a_iload 3 127), some (a_iload 9 129)],
  [none, some (a_zeq 136 132), none, none, some (a_iconst 1 133), some (a_goto 137), none, none, some (a_iconst 0 137), some (a_iadd 138), some (a_istore 3 139), some (a_iload 9 141), none, some (a_zeq 156 144), none, none],
  [some (a_iload 4 146), none, some (a_iconst (-4) 148), none, some (a_cne 156 151), none, none, some (a_iload 5 153), none, some (a_goto 158), none, none, some (a_iload 4 158), none, some (a_istore 4 160), none],
  [some (a_iinc 6 1 163), none, none, some (a_goto 42), none, none, some (a_iinc 5 1 169), none, none, some (a_goto 32), none, none, some (a_iload 2 173), some (a_zne 180 176), none, none],
  [some (a_iload 3 177), some (a_goto 182), none, none, some (a_iload 4 182), none, some (a_iret)]]
def t_X12_keep : ax_T := [[some (a_aload 0 1), some (a_getI 12 38 13 4), none, none, some (a_iconst 2 5), some (a_cne 11 8), none, none, some (a_iconst (-3) 10), none, some (a_iret), some (a_iconst 0 12), some (a_istore 1 13), some (a_iload 1 14), some (a_iconst 34 16), none],
  [some (a_cge 45 19), none, none, some (a_aload 0 20), some (a_getR 12 38 14 23), none, none, some (a_iconst 34 25), none, some (a_aload 0 26), some (a_getI 12 38 13 29), none, none, some (a_imul 30), some (a_iload 1 31), some (a_iadd 32)],
  [some (a_aload 0 33), some (a_getR 12 38 10 36), none, none, some (a_iload 1 37), some (a_iald 38), some (a_iast 39), some (a_iinc 1 1 42), none, none, some (a_goto 13), none, none, some (a_aload 0 46), some (a_dup 47), some (a_getI 12 38 13 50)],
  [none, none, some (a_iconst 1 51), some (a_iadd 52), some (a_putI 12 38 13 55), none, none, some (a_aload 0 56), some (a_getI 12 38 13 59), none, none, some (a_iret)]]
def t_X12_back : ax_T := [[some (a_aload 0 1), some (a_getI 12 38 13 4), none, none, some (a_zne 10 7), none, none, some (a_iconst (-2) 9), none, some (a_iret), some (a_aload 0 11), some (a_dup 12), some (a_getI 12 38 13 15), none, none, some (a_iconst 1 16)],
  [some (a_isub 17), some (a_putI 12 38 13 20), none, none, some (a_iconst 0 21), some (a_istore 1 22), some (a_iload 1 23), some (a_iconst 34 25), none, some (a_cge 54 28), none, none, some (a_aload 0 29), some (a_getR 12 38 10 32), none, none],
  [some (a_iload 1 33), some (a_aload 0 34), some (a_getR 12 38 14 37), none, none, some (a_iconst 34 39), none, some (a_aload 0 40), some (a_getI 12 38 13 43), none, none, some (a_imul 44), some (a_iload 1 45), some (a_iadd 46), some (a_iald 47), some (a_iast 48)],
  [some (a_iinc 1 1 51), none, none, some (a_goto 22), none, none, some (a_aload 0 55), some (a_iconst 0 56), some (a_putI 12 38 11 59), none, none, some (a_aload 0 60), some (a_getI 12 38 13 63), none, none, some (a_iret)]]
def t_X12_count : ax_T := [[some (a_iload 1 1), some (a_tsw 0 9 [56, 61, 69, 74, 79, 84, 89, 94, 99, 104] 109), none, none, none, none, none, none, none, none, none, none, none, none, none, none],
  [none, none, none, none, none, none, none, none, none, none, none, none, none, none, none, none],
  [none, none, none, none, none, none, none, none, none, none, none, none, none, none, none, none],
  [none, none, none, none, none, none, none, none, some (a_aload 0 57), some (a_getI 12 38 0 60), none, none, some (a_iret), some (a_aload 0 62), some (a_getR 12 38 10 65), none],
  [none, some (a_iconst 6 67), none, some (a_iald 68), some (a_iret), some (a_aload 0 70), some (a_getI 12 38 2 73), none, none, some (a_iret), some (a_aload 0 75), some (a_getI 12 38 4 78), none, none, some (a_iret), some (a_aload 0 80)],
  [some (a_getI 12 38 6 83), none, none, some (a_iret), some (a_aload 0 85), some (a_getI 12 38 8 88), none, none, some (a_iret), some (a_aload 0 90), some (a_getI 12 38 15 93), none, none, some (a_iret), some (a_aload 0 95), some (a_getI 12 38 11 98)],
  [none, none, some (a_iret), some (a_aload 0 100), some (a_getI 12 38 13 103), none, none, some (a_iret), some (a_aload 0 105), some (a_getI 12 38 18 108), none, none, some (a_iret), some (a_iconst (-1) 110), some (a_iret)]]
def t_J6_numberOfTrailingZeros_0f7a4 : ax_T := [[some (a_iload 0 1), some (a_iconst (-1) 2), some (a_ixor 3), some (a_iload 0 4), some (a_iconst 1 5), some (a_isub 6), some (a_iand 7), some (a_istore 0 8), some (a_iload 0 9), some (a_zgt 17 12), none, none, some (a_iload 0 13), some (a_iconst 32 15), none, some (a_iand 16)],
  [some (a_iret), some (a_iconst 1 18), some (a_istore 1 19), some (a_iload 0 20), some (a_iconst (65536) 23), none, none, some (a_cle 34 26), none, none, some (a_iinc 1 16 29), none, none, some (a_iload 0 30), some (a_iconst 16 32), none],
  [some (a_iushr 33), some (a_istore 0 34), some (a_iload 0 35), some (a_iconst 256 38), none, none, some (a_cle 49 41), none, none, some (a_iinc 1 8 44), none, none, some (a_iload 0 45), some (a_iconst 8 47), none, some (a_iushr 48)],
  [some (a_istore 0 49), some (a_iload 0 50), some (a_iconst 16 52), none, some (a_cle 62 55), none, none, some (a_iinc 1 4 58), none, none, some (a_iload 0 59), some (a_iconst 4 60), some (a_iushr 61), some (a_istore 0 62), some (a_iload 0 63), some (a_iconst 4 64)],
  [some (a_cle 74 67), none, none, some (a_iinc 1 2 70), none, none, some (a_iload 0 71), some (a_iconst 2 72), some (a_iushr 73), some (a_istore 0 74), some (a_iload 1 75), some (a_iload 0 76), some (a_iconst 1 77), some (a_iushr 78), some (a_iadd 79), some (a_iret)]]
def t_J6_bitCount_0f7a4 : ax_T := [[some (a_iload 0 1), some (a_iload 0 2), some (a_iconst 1 3), some (a_iushr 4), some (a_iconst (1431655765) 7), none, none, some (a_iand 8), some (a_isub 9), some (a_istore 0 10), some (a_iload 0 11), some (a_iconst (858993459) 14), none, none, some (a_iand 15), some (a_iload 0 16)],
  [some (a_iconst 2 17), some (a_iushr 18), some (a_iconst (858993459) 21), none, none, some (a_iand 22), some (a_iadd 23), some (a_istore 0 24), some (a_iload 0 25), some (a_iload 0 26), some (a_iconst 4 27), some (a_iushr 28), some (a_iadd 29), some (a_iconst (252645135) 32), none, none],
  [some (a_iand 33), some (a_istore 0 34), some (a_iload 0 35), some (a_iload 0 36), some (a_iconst 8 38), none, some (a_iushr 39), some (a_iadd 40), some (a_istore 0 41), some (a_iload 0 42), some (a_iload 0 43), some (a_iconst 16 45), none, some (a_iushr 46), some (a_iadd 47), some (a_istore 0 48)],
  [some (a_iload 0 49), some (a_iconst 63 51), none, some (a_iand 52), some (a_iret)]]
def t_law : ax_T := [[some (a_new 11 9 3), none, none, some (a_dup 4), some (a_callV 11 9 64 0 7), none, none, some (a_astore 1 8), some (a_new 12 38 11), none, none, some (a_dup 12), some (a_callV 12 38 102 0 15), none, none, some (a_astore 2 16)],
  [some (a_iconst 0 17), some (a_istore 3 18), some (a_iload 3 19), some (a_aload 0 20), some (a_slen 21), some (a_iconst 6 23), none, some (a_isub 24), some (a_cgt 975 27), none, none, some (a_aload 0 28), some (a_iload 3 29), some (a_sald 30), some (a_iconst 31 32), none],
  [some (a_iand 33), some (a_tsw 0 29 [168, 191, 204, 217, 230, 263, 296, 339, 372, 405, 438, 471, 514, 527, 550, 563, 606, 639, 652, 665, 688, 711, 734, 767, 800, 823, 887, 920, 933, 946] 969), none, none, none, none, none, none, none, none, none, none, none, none, none, none],
  [none, none, none, none, none, none, none, none, none, none, none, none, none, none, none, none],
  [none, none, none, none, none, none, none, none, none, none, none, none, none, none, none, none],
  [none, none, none, none, none, none, none, none, none, none, none, none, none, none, none, none],
  [none, none, none, none, none, none, none, none, none, none, none, none, none, none, none, none],
  [none, none, none, none, none, none, none, none, none, none, none, none, none, none, none, none],
  [none, none, none, none, none, none, none, none, none, none, none, none, none, none, none, none],
  [none, none, none, none, none, none, none, none, none, none, none, none, none, none, none, none],
  [none, none, none, none, none, none, none, none, some (a_aload 1 169), some (a_aload 0 170), some (a_iload 3 171), some (a_iconst 1 172), some (a_iadd 173), some (a_sald 174), some (a_callV 11 9 65 1 177), none],
  [none, some (a_aload 2 178), some (a_aload 0 179), some (a_iload 3 180), some (a_iconst 1 181), some (a_iadd 182), some (a_sald 183), some (a_callV 12 38 109 1 186), none, none, some (a_ceq 969 189), none, none, some (a_iconst 0 190), some (a_zret), some (a_aload 1 192)],
  [some (a_callV 11 9 66 0 195), none, none, some (a_aload 2 196), some (a_callV 12 38 110 0 199), none, none, some (a_ceq 969 202), none, none, some (a_iconst 0 203), some (a_zret), some (a_aload 1 205), some (a_callV 11 9 67 0 208), none, none],
  [some (a_aload 2 209), some (a_callV 12 38 124 0 212), none, none, some (a_ceq 969 215), none, none, some (a_iconst 0 216), some (a_zret), some (a_aload 1 218), some (a_callV 11 9 68 0 221), none, none, some (a_aload 2 222), some (a_callV 12 38 125 0 225), none],
  [none, some (a_ceq 969 228), none, none, some (a_iconst 0 229), some (a_zret), some (a_aload 1 231), some (a_aload 0 232), some (a_iload 3 233), some (a_iconst 1 234), some (a_iadd 235), some (a_sald 236), some (a_aload 0 237), some (a_iload 3 238), some (a_iconst 2 239), some (a_iadd 240)],
  [some (a_sald 241), some (a_callV 11 9 69 2 244), none, none, some (a_aload 2 245), some (a_aload 0 246), some (a_iload 3 247), some (a_iconst 1 248), some (a_iadd 249), some (a_sald 250), some (a_aload 0 251), some (a_iload 3 252), some (a_iconst 2 253), some (a_iadd 254), some (a_sald 255), some (a_callV 12 38 133 2 258)],
  [none, none, some (a_ceq 969 261), none, none, some (a_iconst 0 262), some (a_zret), some (a_aload 1 264), some (a_aload 0 265), some (a_iload 3 266), some (a_iconst 1 267), some (a_iadd 268), some (a_sald 269), some (a_aload 0 270), some (a_iload 3 271), some (a_iconst 2 272)],
  [some (a_iadd 273), some (a_sald 274), some (a_callV 11 9 70 2 277), none, none, some (a_aload 2 278), some (a_aload 0 279), some (a_iload 3 280), some (a_iconst 1 281), some (a_iadd 282), some (a_sald 283), some (a_aload 0 284), some (a_iload 3 285), some (a_iconst 2 286), some (a_iadd 287), some (a_sald 288)],
  [some (a_callV 12 38 134 2 291), none, none, some (a_ceq 969 294), none, none, some (a_iconst 0 295), some (a_zret), some (a_aload 1 297), some (a_aload 0 298), some (a_iload 3 299), some (a_iconst 1 300), some (a_iadd 301), some (a_sald 302), some (a_aload 0 303), some (a_iload 3 304)],
  [some (a_iconst 2 305), some (a_iadd 306), some (a_sald 307), some (a_aload 0 308), some (a_iload 3 309), some (a_iconst 3 310), some (a_iadd 311), some (a_sald 312), some (a_callV 11 9 71 3 315), none, none, some (a_aload 2 316), some (a_aload 0 317), some (a_iload 3 318), some (a_iconst 1 319), some (a_iadd 320)],
  [some (a_sald 321), some (a_aload 0 322), some (a_iload 3 323), some (a_iconst 2 324), some (a_iadd 325), some (a_sald 326), some (a_aload 0 327), some (a_iload 3 328), some (a_iconst 3 329), some (a_iadd 330), some (a_sald 331), some (a_callV 12 38 135 3 334), none, none, some (a_ceq 969 337), none],
  [none, some (a_iconst 0 338), some (a_zret), some (a_aload 1 340), some (a_aload 0 341), some (a_iload 3 342), some (a_iconst 1 343), some (a_iadd 344), some (a_sald 345), some (a_aload 0 346), some (a_iload 3 347), some (a_iconst 2 348), some (a_iadd 349), some (a_sald 350), some (a_callV 11 9 72 2 353), none],
  [none, some (a_aload 2 354), some (a_aload 0 355), some (a_iload 3 356), some (a_iconst 1 357), some (a_iadd 358), some (a_sald 359), some (a_aload 0 360), some (a_iload 3 361), some (a_iconst 2 362), some (a_iadd 363), some (a_sald 364), some (a_callV 12 38 136 2 367), none, none, some (a_ceq 969 370)],
  [none, none, some (a_iconst 0 371), some (a_zret), some (a_aload 1 373), some (a_aload 0 374), some (a_iload 3 375), some (a_iconst 1 376), some (a_iadd 377), some (a_sald 378), some (a_aload 0 379), some (a_iload 3 380), some (a_iconst 2 381), some (a_iadd 382), some (a_sald 383), some (a_callV 11 9 73 2 386)],
  [none, none, some (a_aload 2 387), some (a_aload 0 388), some (a_iload 3 389), some (a_iconst 1 390), some (a_iadd 391), some (a_sald 392), some (a_aload 0 393), some (a_iload 3 394), some (a_iconst 2 395), some (a_iadd 396), some (a_sald 397), some (a_callV 12 38 139 2 400), none, none],
  [some (a_ceq 969 403), none, none, some (a_iconst 0 404), some (a_zret), some (a_aload 1 406), some (a_aload 0 407), some (a_iload 3 408), some (a_iconst 1 409), some (a_iadd 410), some (a_sald 411), some (a_aload 0 412), some (a_iload 3 413), some (a_iconst 2 414), some (a_iadd 415), some (a_sald 416)],
  [some (a_callV 11 9 74 2 419), none, none, some (a_aload 2 420), some (a_aload 0 421), some (a_iload 3 422), some (a_iconst 1 423), some (a_iadd 424), some (a_sald 425), some (a_aload 0 426), some (a_iload 3 427), some (a_iconst 2 428), some (a_iadd 429), some (a_sald 430), some (a_callV 12 38 140 2 433), none],
  [none, some (a_ceq 969 436), none, none, some (a_iconst 0 437), some (a_zret), some (a_aload 1 439), some (a_aload 0 440), some (a_iload 3 441), some (a_iconst 1 442), some (a_iadd 443), some (a_sald 444), some (a_aload 0 445), some (a_iload 3 446), some (a_iconst 2 447), some (a_iadd 448)],
  [some (a_sald 449), some (a_callV 11 9 75 2 452), none, none, some (a_aload 2 453), some (a_aload 0 454), some (a_iload 3 455), some (a_iconst 1 456), some (a_iadd 457), some (a_sald 458), some (a_aload 0 459), some (a_iload 3 460), some (a_iconst 2 461), some (a_iadd 462), some (a_sald 463), some (a_callV 12 38 142 2 466)],
  [none, none, some (a_ceq 969 469), none, none, some (a_iconst 0 470), some (a_zret), some (a_aload 1 472), some (a_aload 0 473), some (a_iload 3 474), some (a_iconst 1 475), some (a_iadd 476), some (a_sald 477), some (a_aload 0 478), some (a_iload 3 479), some (a_iconst 2 480)],
  [some (a_iadd 481), some (a_sald 482), some (a_aload 0 483), some (a_iload 3 484), some (a_iconst 3 485), some (a_iadd 486), some (a_sald 487), some (a_callV 11 9 76 3 490), none, none, some (a_aload 2 491), some (a_aload 0 492), some (a_iload 3 493), some (a_iconst 1 494), some (a_iadd 495), some (a_sald 496)],
  [some (a_aload 0 497), some (a_iload 3 498), some (a_iconst 2 499), some (a_iadd 500), some (a_sald 501), some (a_aload 0 502), some (a_iload 3 503), some (a_iconst 3 504), some (a_iadd 505), some (a_sald 506), some (a_callV 12 38 143 3 509), none, none, some (a_ceq 969 512), none, none],
  [some (a_iconst 0 513), some (a_zret), some (a_aload 1 515), some (a_callV 11 9 77 0 518), none, none, some (a_aload 2 519), some (a_callV 12 38 144 0 522), none, none, some (a_ceq 969 525), none, none, some (a_iconst 0 526), some (a_zret), some (a_aload 1 528)],
  [some (a_aload 0 529), some (a_iload 3 530), some (a_iconst 1 531), some (a_iadd 532), some (a_sald 533), some (a_callV 11 9 78 1 536), none, none, some (a_aload 2 537), some (a_aload 0 538), some (a_iload 3 539), some (a_iconst 1 540), some (a_iadd 541), some (a_sald 542), some (a_callV 12 38 145 1 545), none],
  [none, some (a_ceq 969 548), none, none, some (a_iconst 0 549), some (a_zret), some (a_aload 1 551), some (a_callV 11 9 79 0 554), none, none, some (a_aload 2 555), some (a_callV 12 38 147 0 558), none, none, some (a_ceq 969 561), none],
  [none, some (a_iconst 0 562), some (a_zret), some (a_aload 1 564), some (a_aload 0 565), some (a_iload 3 566), some (a_iconst 1 567), some (a_iadd 568), some (a_sald 569), some (a_aload 0 570), some (a_iload 3 571), some (a_iconst 2 572), some (a_iadd 573), some (a_sald 574), some (a_aload 0 575), some (a_iload 3 576)],
  [some (a_iconst 3 577), some (a_iadd 578), some (a_sald 579), some (a_callV 11 9 80 3 582), none, none, some (a_aload 2 583), some (a_aload 0 584), some (a_iload 3 585), some (a_iconst 1 586), some (a_iadd 587), some (a_sald 588), some (a_aload 0 589), some (a_iload 3 590), some (a_iconst 2 591), some (a_iadd 592)],
  [some (a_sald 593), some (a_aload 0 594), some (a_iload 3 595), some (a_iconst 3 596), some (a_iadd 597), some (a_sald 598), some (a_callV 12 38 149 3 601), none, none, some (a_ceq 969 604), none, none, some (a_iconst 0 605), some (a_zret), some (a_aload 1 607), some (a_aload 0 608)],
  [some (a_iload 3 609), some (a_iconst 1 610), some (a_iadd 611), some (a_sald 612), some (a_aload 0 613), some (a_iload 3 614), some (a_iconst 2 615), some (a_iadd 616), some (a_sald 617), some (a_callV 11 9 81 2 620), none, none, some (a_aload 2 621), some (a_aload 0 622), some (a_iload 3 623), some (a_iconst 1 624)],
  [some (a_iadd 625), some (a_sald 626), some (a_aload 0 627), some (a_iload 3 628), some (a_iconst 2 629), some (a_iadd 630), some (a_sald 631), some (a_callV 12 38 150 2 634), none, none, some (a_ceq 969 637), none, none, some (a_iconst 0 638), some (a_zret), some (a_aload 1 640)],
  [some (a_callV 11 9 82 0 643), none, none, some (a_aload 2 644), some (a_callV 12 38 151 0 647), none, none, some (a_ceq 969 650), none, none, some (a_iconst 0 651), some (a_zret), some (a_aload 1 653), some (a_callV 11 9 83 0 656), none, none],
  [some (a_aload 2 657), some (a_callV 12 38 152 0 660), none, none, some (a_ceq 969 663), none, none, some (a_iconst 0 664), some (a_zret), some (a_aload 1 666), some (a_aload 0 667), some (a_iload 3 668), some (a_iconst 1 669), some (a_iadd 670), some (a_sald 671), some (a_callV 11 9 84 1 674)],
  [none, none, some (a_aload 2 675), some (a_aload 0 676), some (a_iload 3 677), some (a_iconst 1 678), some (a_iadd 679), some (a_sald 680), some (a_callV 12 38 154 1 683), none, none, some (a_ceq 969 686), none, none, some (a_iconst 0 687), some (a_zret)],
  [some (a_aload 1 689), some (a_aload 0 690), some (a_iload 3 691), some (a_iconst 1 692), some (a_iadd 693), some (a_sald 694), some (a_callV 11 9 85 1 697), none, none, some (a_aload 2 698), some (a_aload 0 699), some (a_iload 3 700), some (a_iconst 1 701), some (a_iadd 702), some (a_sald 703), some (a_callV 12 38 156 1 706)],
  [none, none, some (a_ceq 969 709), none, none, some (a_iconst 0 710), some (a_zret), some (a_aload 1 712), some (a_aload 0 713), some (a_iload 3 714), some (a_iconst 1 715), some (a_iadd 716), some (a_sald 717), some (a_callV 11 9 86 1 720), none, none],
  [some (a_aload 2 721), some (a_aload 0 722), some (a_iload 3 723), some (a_iconst 1 724), some (a_iadd 725), some (a_sald 726), some (a_callV 12 38 158 1 729), none, none, some (a_ceq 969 732), none, none, some (a_iconst 0 733), some (a_zret), some (a_aload 1 735), some (a_aload 0 736)],
  [some (a_iload 3 737), some (a_iconst 1 738), some (a_iadd 739), some (a_sald 740), some (a_aload 0 741), some (a_iload 3 742), some (a_iconst 2 743), some (a_iadd 744), some (a_sald 745), some (a_callV 11 9 87 2 748), none, none, some (a_aload 2 749), some (a_aload 0 750), some (a_iload 3 751), some (a_iconst 1 752)],
  [some (a_iadd 753), some (a_sald 754), some (a_aload 0 755), some (a_iload 3 756), some (a_iconst 2 757), some (a_iadd 758), some (a_sald 759), some (a_callV 12 38 163 2 762), none, none, some (a_ceq 969 765), none, none, some (a_iconst 0 766), some (a_zret), some (a_aload 1 768)],
  [some (a_aload 0 769), some (a_iload 3 770), some (a_iconst 1 771), some (a_iadd 772), some (a_sald 773), some (a_aload 0 774), some (a_iload 3 775), some (a_iconst 2 776), some (a_iadd 777), some (a_sald 778), some (a_callV 11 9 88 2 781), none, none, some (a_aload 2 782), some (a_aload 0 783), some (a_iload 3 784)],
  [some (a_iconst 1 785), some (a_iadd 786), some (a_sald 787), some (a_aload 0 788), some (a_iload 3 789), some (a_iconst 2 790), some (a_iadd 791), some (a_sald 792), some (a_callV 12 38 164 2 795), none, none, some (a_ceq 969 798), none, none, some (a_iconst 0 799), some (a_zret)],
  [some (a_aload 1 801), some (a_aload 0 802), some (a_iload 3 803), some (a_iconst 1 804), some (a_iadd 805), some (a_sald 806), some (a_callV 11 9 89 1 809), none, none, some (a_aload 2 810), some (a_aload 0 811), some (a_iload 3 812), some (a_iconst 1 813), some (a_iadd 814), some (a_sald 815), some (a_callV 12 38 165 1 818)],
  [none, none, some (a_ceq 969 821), none, none, some (a_iconst 0 822), some (a_zret), some (a_aload 1 824), some (a_aload 0 825), some (a_iload 3 826), some (a_iconst 1 827), some (a_iadd 828), some (a_sald 829), some (a_aload 0 830), some (a_iload 3 831), some (a_iconst 2 832)],
  [some (a_iadd 833), some (a_sald 834), some (a_aload 0 835), some (a_iload 3 836), some (a_iconst 3 837), some (a_iadd 838), some (a_sald 839), some (a_aload 0 840), some (a_iload 3 841), some (a_iconst 4 842), some (a_iadd 843), some (a_sald 844), some (a_aload 0 845), some (a_iload 3 846), some (a_iconst 5 847), some (a_iadd 848)],
  [some (a_sald 849), some (a_callV 11 9 90 5 852), none, none, some (a_aload 2 853), some (a_aload 0 854), some (a_iload 3 855), some (a_iconst 1 856), some (a_iadd 857), some (a_sald 858), some (a_aload 0 859), some (a_iload 3 860), some (a_iconst 2 861), some (a_iadd 862), some (a_sald 863), some (a_aload 0 864)],
  [some (a_iload 3 865), some (a_iconst 3 866), some (a_iadd 867), some (a_sald 868), some (a_aload 0 869), some (a_iload 3 870), some (a_iconst 4 871), some (a_iadd 872), some (a_sald 873), some (a_aload 0 874), some (a_iload 3 875), some (a_iconst 5 876), some (a_iadd 877), some (a_sald 878), some (a_callV 12 38 166 5 881), none],
  [none, some (a_lcmp 882), some (a_zeq 969 885), none, none, some (a_iconst 0 886), some (a_zret), some (a_aload 1 888), some (a_aload 0 889), some (a_iload 3 890), some (a_iconst 1 891), some (a_iadd 892), some (a_sald 893), some (a_aload 0 894), some (a_iload 3 895), some (a_iconst 2 896)],
  [some (a_iadd 897), some (a_sald 898), some (a_callV 11 9 91 2 901), none, none, some (a_aload 2 902), some (a_aload 0 903), some (a_iload 3 904), some (a_iconst 1 905), some (a_iadd 906), some (a_sald 907), some (a_aload 0 908), some (a_iload 3 909), some (a_iconst 2 910), some (a_iadd 911), some (a_sald 912)],
  [some (a_callV 12 38 168 2 915), none, none, some (a_ceq 969 918), none, none, some (a_iconst 0 919), some (a_zret), some (a_aload 1 921), some (a_callV 11 9 92 0 924), none, none, some (a_aload 2 925), some (a_callV 12 38 169 0 928), none, none],
  [some (a_ceq 969 931), none, none, some (a_iconst 0 932), some (a_zret), some (a_aload 1 934), some (a_callV 11 9 93 0 937), none, none, some (a_aload 2 938), some (a_callV 12 38 170 0 941), none, none, some (a_ceq 969 944), none, none],
  [some (a_iconst 0 945), some (a_zret), some (a_aload 1 947), some (a_aload 0 948), some (a_iload 3 949), some (a_iconst 1 950), some (a_iadd 951), some (a_sald 952), some (a_callV 11 9 94 1 955), none, none, some (a_aload 2 956), some (a_aload 0 957), some (a_iload 3 958), some (a_iconst 1 959), some (a_iadd 960)],
  [some (a_sald 961), some (a_callV 12 38 171 1 964), none, none, some (a_ceq 969 967), none, none, some (a_iconst 0 968), some (a_zret), some (a_iinc 3 6 972), none, none, some (a_goto 18), none, none, some (a_iconst 1 976)],
  [some (a_zret)]]
abbrev n_X0_init : Nat := 0
abbrev n_X0_add : Nat := 1
abbrev n_X0_dropOldest : Nat := 2
abbrev n_X0_takeBack : Nat := 3
abbrev n_X1_init : Nat := 4
abbrev n_X1_seek : Nat := 5
abbrev n_X1_seekFrom : Nat := 6
abbrev n_X1_lackingLength : Nat := 7
abbrev n_X1_take : Nat := 8
abbrev n_X2_init : Nat := 9
abbrev n_X2_add : Nat := 10
abbrev n_X2_restore : Nat := 11
abbrev n_X3_init : Nat := 12
abbrev n_X3_clear : Nat := 13
abbrev n_X4_init : Nat := 14
abbrev n_X4_add : Nat := 15
abbrev n_X4_suspects : Nat := 16
abbrev n_X4_fits : Nat := 17
abbrev n_X4_mostAlike : Nat := 18
abbrev n_X5_init : Nat := 19
abbrev n_X5_addWalk : Nat := 20
abbrev n_X5_cellAfterWalks : Nat := 21
abbrev n_X5_copyFrom : Nat := 22
abbrev n_X6_init : Nat := 23
abbrev n_X6_clear : Nat := 24
abbrev n_X6_addRemnant : Nat := 25
abbrev n_X6_addOrder : Nat := 26
abbrev n_X6_addFitting : Nat := 27
abbrev n_X6_orderedLength : Nat := 28
abbrev n_X6_lengthFrom : Nat := 29
abbrev n_X7_init : Nat := 30
abbrev n_X7_clear : Nat := 31
abbrev n_X7_hasPerson : Nat := 32
abbrev n_X7_addPerson : Nat := 33
abbrev n_X7_addLaw : Nat := 34
abbrev n_X7_cellOf : Nat := 35
abbrev n_X7_cellsAt : Nat := 36
abbrev n_X7_drawnCells : Nat := 37
abbrev n_X7_fullLength : Nat := 38
abbrev n_X7_lengthOf : Nat := 39
abbrev n_X7_wayOf : Nat := 40
abbrev n_X7_endOf : Nat := 41
abbrev n_X7_lowEndOf : Nat := 42
abbrev n_X7_highEndOf : Nat := 43
abbrev n_X7_coverersOf : Nat := 44
abbrev n_X7_standersOn : Nat := 45
abbrev n_X7_firstBroken : Nat := 46
abbrev n_X7_neededByLaws : Nat := 47
abbrev n_X7_neededByStanders : Nat := 48
abbrev n_X7_nextWatcher : Nat := 49
abbrev n_X8_init : Nat := 50
abbrev n_X8_add : Nat := 51
abbrev n_X8_put : Nat := 52
abbrev n_X8_signAt : Nat := 53
abbrev n_X9_init : Nat := 54
abbrev n_X9_readInto : Nat := 55
abbrev n_X9_numbersOf : Nat := 56
abbrev n_X9_readNumbers : Nat := 57
abbrev n_X9_figureAt : Nat := 58
abbrev n_X9_addItem : Nat := 59
abbrev n_X10_init : Nat := 60
abbrev n_X10_seek : Nat := 61
abbrev n_X10_seekFrom : Nat := 62
abbrev n_X10_take : Nat := 63
abbrev n_X11_init : Nat := 64
abbrev n_X11_write : Nat := 65
abbrev n_X11_wipe : Nat := 66
abbrev n_X11_fault : Nat := 67
abbrev n_X11_lay : Nat := 68
abbrev n_X11_person : Nat := 69
abbrev n_X11_where : Nat := 70
abbrev n_X11_shadow : Nat := 71
abbrev n_X11_covers : Nat := 72
abbrev n_X11_stands : Nat := 73
abbrev n_X11_wear : Nat := 74
abbrev n_X11_alter : Nat := 75
abbrev n_X11_walk : Nat := 76
abbrev n_X11_undo : Nat := 77
abbrev n_X11_first : Nat := 78
abbrev n_X11_broken : Nat := 79
abbrev n_X11_taken : Nat := 80
abbrev n_X11_seen : Nat := 81
abbrev n_X11_forget : Nat := 82
abbrev n_X11_whose : Nat := 83
abbrev n_X11_look : Nat := 84
abbrev n_X11_cut : Nat := 85
abbrev n_X11_fittings : Nat := 86
abbrev n_X11_watchers : Nat := 87
abbrev n_X11_poplar : Nat := 88
abbrev n_X11_light : Nat := 89
abbrev n_X11_clouds : Nat := 90
abbrev n_X11_day : Nat := 91
abbrev n_X11_keep : Nat := 92
abbrev n_X11_back : Nat := 93
abbrev n_X11_count : Nat := 94
abbrev n_X11_isPerson : Nat := 95
abbrev n_X11_standersAt : Nat := 96
abbrev n_X11_isHour : Nat := 97
abbrev n_X11_areHours : Nat := 98
abbrev n_X11_isCell : Nat := 99
abbrev n_X11_isWithin : Nat := 100
abbrev n_X11_commonDivisor : Nat := 101
abbrev n_X12_init : Nat := 102
abbrev n_X12_lays : Nat := 103
abbrev n_X12_in : Nat := 104
abbrev n_X12_has : Nat := 105
abbrev n_X12_bits : Nat := 106
abbrev n_X12_isPerson : Nat := 107
abbrev n_X12_isHour : Nat := 108
abbrev n_X12_write : Nat := 109
abbrev n_X12_wipe : Nat := 110
abbrev n_X12_letterAt : Nat := 111
abbrev n_X12_isFigure : Nat := 112
abbrev n_X12_readNumbers : Nat := 113
abbrev n_X12_isTold : Nat := 114
abbrev n_X12_put : Nat := 115
abbrev n_X12_readPersonOf : Nat := 116
abbrev n_X12_isHourOfOne : Nat := 117
abbrev n_X12_readWalk : Nat := 118
abbrev n_X12_readLawOf : Nat := 119
abbrev n_X12_readRemnantOf : Nat := 120
abbrev n_X12_readOrderOf : Nat := 121
abbrev n_X12_readFittingOf : Nat := 122
abbrev n_X12_readItem : Nat := 123
abbrev n_X12_fault : Nat := 124
abbrev n_X12_lay : Nat := 125
abbrev n_X12_whereAt : Nat := 126
abbrev n_X12_fromNoon : Nat := 127
abbrev n_X12_longBy : Nat := 128
abbrev n_X12_longAt : Nat := 129
abbrev n_X12_wayAt : Nat := 130
abbrev n_X12_endAt : Nat := 131
abbrev n_X12_reaches : Nat := 132
abbrev n_X12_person : Nat := 133
abbrev n_X12_where : Nat := 134
abbrev n_X12_shadow : Nat := 135
abbrev n_X12_covers : Nat := 136
abbrev n_X12_standOn : Nat := 137
abbrev n_X12_standsAt : Nat := 138
abbrev n_X12_stands : Nat := 139
abbrev n_X12_wear : Nat := 140
abbrev n_X12_remembers : Nat := 141
abbrev n_X12_alter : Nat := 142
abbrev n_X12_walk : Nat := 143
abbrev n_X12_undo : Nat := 144
abbrev n_X12_first : Nat := 145
abbrev n_X12_lowest : Nat := 146
abbrev n_X12_broken : Nat := 147
abbrev n_X12_does : Nat := 148
abbrev n_X12_taken : Nat := 149
abbrev n_X12_seen : Nat := 150
abbrev n_X12_forget : Nat := 151
abbrev n_X12_whose : Nat := 152
abbrev n_X12_alike : Nat := 153
abbrev n_X12_look : Nat := 154
abbrev n_X12_shares : Nat := 155
abbrev n_X12_cut : Nat := 156
abbrev n_X12_arranges : Nat := 157
abbrev n_X12_fittings : Nat := 158
abbrev n_X12_most : Nat := 159
abbrev n_X12_lowAt : Nat := 160
abbrev n_X12_highAt : Nat := 161
abbrev n_X12_nearest : Nat := 162
abbrev n_X12_watchers : Nat := 163
abbrev n_X12_poplar : Nat := 164
abbrev n_X12_light : Nat := 165
abbrev n_X12_clouds : Nat := 166
abbrev n_X12_drawn : Nat := 167
abbrev n_X12_day : Nat := 168
abbrev n_X12_keep : Nat := 169
abbrev n_X12_back : Nat := 170
abbrev n_X12_count : Nat := 171
abbrev n_J6_numberOfTrailingZeros_0f7a4 : Nat := 172
abbrev n_J6_bitCount_0f7a4 : Nat := 173
abbrev n_J0_length_8abf5 : Nat := 174
abbrev n_J0_charAt_5068e : Nat := 175
def ax_MEl : List ax_M := [(yX0_init, cX0_init, 1, none),
  (yX0_add, cX0_add, 3, none),
  (yX0_dropOldest, cX0_dropOldest, 2, none),
  (yX0_takeBack, cX0_takeBack, 2, (some FieldType.boolean)),
  (yX1_init, cX1_init, 1, none),
  (yX1_seek, cX1_seek, 3, none),
  (yX1_seekFrom, cX1_seekFrom, 8, none),
  (yX1_lackingLength, cX1_lackingLength, 4, (some FieldType.int)),
  (yX1_take, cX1_take, 5, none),
  (yX2_init, cX2_init, 2, none),
  (yX2_add, cX2_add, 2, (some FieldType.boolean)),
  (yX2_restore, cX2_restore, 2, (some FieldType.boolean)),
  (yX3_init, cX3_init, 1, none),
  (yX3_clear, cX3_clear, 1, none),
  (yX4_init, cX4_init, 1, none),
  (yX4_add, cX4_add, 3, (some FieldType.boolean)),
  (yX4_suspects, cX4_suspects, 4, (some FieldType.int)),
  (yX4_fits, cX4_fits, 4, (some FieldType.boolean)),
  (yX4_mostAlike, cX4_mostAlike, 8, (some FieldType.int)),
  (yX5_init, cX5_init, 1, none),
  (yX5_addWalk, cX5_addWalk, 4, (some FieldType.boolean)),
  (yX5_cellAfterWalks, cX5_cellAfterWalks, 7, (some FieldType.int)),
  (yX5_copyFrom, cX5_copyFrom, 2, none),
  (yX6_init, cX6_init, 1, none),
  (yX6_clear, cX6_clear, 1, none),
  (yX6_addRemnant, cX6_addRemnant, 2, (some FieldType.boolean)),
  (yX6_addOrder, cX6_addOrder, 2, (some FieldType.boolean)),
  (yX6_addFitting, cX6_addFitting, 3, (some FieldType.boolean)),
  (yX6_orderedLength, cX6_orderedLength, 3, (some FieldType.int)),
  (yX6_lengthFrom, cX6_lengthFrom, 4, (some FieldType.int)),
  (yX7_init, cX7_init, 1, none),
  (yX7_clear, cX7_clear, 1, none),
  (yX7_hasPerson, cX7_hasPerson, 2, (some FieldType.boolean)),
  (yX7_addPerson, cX7_addPerson, 5, (some FieldType.boolean)),
  (yX7_addLaw, cX7_addLaw, 4, (some FieldType.boolean)),
  (yX7_cellOf, cX7_cellOf, 3, (some FieldType.int)),
  (yX7_cellsAt, cX7_cellsAt, 3, (some (FieldType.array FieldType.int))),
  (yX7_drawnCells, cX7_drawnCells, 6, (some (FieldType.array FieldType.int))),
  (yX7_fullLength, cX7_fullLength, 5, (some FieldType.int)),
  (yX7_lengthOf, cX7_lengthOf, 3, (some FieldType.int)),
  (yX7_wayOf, cX7_wayOf, 4, (some FieldType.int)),
  (yX7_endOf, cX7_endOf, 3, (some FieldType.int)),
  (yX7_lowEndOf, cX7_lowEndOf, 3, (some FieldType.int)),
  (yX7_highEndOf, cX7_highEndOf, 3, (some FieldType.int)),
  (yX7_coverersOf, cX7_coverersOf, 6, (some FieldType.int)),
  (yX7_standersOn, cX7_standersOn, 9, (some FieldType.int)),
  (yX7_firstBroken, cX7_firstBroken, 2, (some FieldType.int)),
  (yX7_neededByLaws, cX7_neededByLaws, 4, (some FieldType.int)),
  (yX7_neededByStanders, cX7_neededByStanders, 9, (some FieldType.int)),
  (yX7_nextWatcher, cX7_nextWatcher, 5, (some FieldType.int)),
  (yX8_init, cX8_init, 1, none),
  (yX8_add, cX8_add, 2, (some FieldType.boolean)),
  (yX8_put, cX8_put, 3, none),
  (yX8_signAt, cX8_signAt, 2, (some FieldType.char)),
  (yX9_init, cX9_init, 1, none),
  (yX9_readInto, cX9_readInto, 7, (some FieldType.int)),
  (yX9_numbersOf, cX9_numbersOf, 1, (some FieldType.int)),
  (yX9_readNumbers, cX9_readNumbers, 8, (some FieldType.int)),
  (yX9_figureAt, cX9_figureAt, 3, (some FieldType.int)),
  (yX9_addItem, cX9_addItem, 5, (some FieldType.boolean)),
  (yX10_init, cX10_init, 1, none),
  (yX10_seek, cX10_seek, 2, none),
  (yX10_seekFrom, cX10_seekFrom, 10, none),
  (yX10_take, cX10_take, 5, none),
  (yX11_init, cX11_init, 1, none),
  (yX11_write, cX11_write, 2, (some FieldType.int)),
  (yX11_wipe, cX11_wipe, 2, (some FieldType.int)),
  (yX11_fault, cX11_fault, 1, (some FieldType.int)),
  (yX11_lay, cX11_lay, 2, (some FieldType.int)),
  (yX11_person, cX11_person, 3, (some FieldType.int)),
  (yX11_where, cX11_where, 3, (some FieldType.int)),
  (yX11_shadow, cX11_shadow, 5, (some FieldType.int)),
  (yX11_covers, cX11_covers, 3, (some FieldType.int)),
  (yX11_stands, cX11_stands, 3, (some FieldType.int)),
  (yX11_wear, cX11_wear, 5, (some FieldType.int)),
  (yX11_alter, cX11_alter, 5, (some FieldType.int)),
  (yX11_walk, cX11_walk, 4, (some FieldType.int)),
  (yX11_undo, cX11_undo, 1, (some FieldType.int)),
  (yX11_first, cX11_first, 5, (some FieldType.int)),
  (yX11_broken, cX11_broken, 1, (some FieldType.int)),
  (yX11_taken, cX11_taken, 5, (some FieldType.int)),
  (yX11_seen, cX11_seen, 3, (some FieldType.int)),
  (yX11_forget, cX11_forget, 2, (some FieldType.int)),
  (yX11_whose, cX11_whose, 1, (some FieldType.int)),
  (yX11_look, cX11_look, 7, (some FieldType.int)),
  (yX11_cut, cX11_cut, 2, (some FieldType.int)),
  (yX11_fittings, cX11_fittings, 3, (some FieldType.int)),
  (yX11_watchers, cX11_watchers, 7, (some FieldType.int)),
  (yX11_poplar, cX11_poplar, 3, (some FieldType.int)),
  (yX11_light, cX11_light, 4, (some FieldType.int)),
  (yX11_clouds, cX11_clouds, 12, (some FieldType.long)),
  (yX11_day, cX11_day, 8, (some FieldType.int)),
  (yX11_keep, cX11_keep, 1, (some FieldType.int)),
  (yX11_back, cX11_back, 1, (some FieldType.int)),
  (yX11_count, cX11_count, 2, (some FieldType.int)),
  (yX11_isPerson, cX11_isPerson, 2, (some FieldType.boolean)),
  (yX11_standersAt, cX11_standersAt, 3, (some FieldType.int)),
  (yX11_isHour, cX11_isHour, 1, (some FieldType.boolean)),
  (yX11_areHours, cX11_areHours, 2, (some FieldType.boolean)),
  (yX11_isCell, cX11_isCell, 1, (some FieldType.boolean)),
  (yX11_isWithin, cX11_isWithin, 3, (some FieldType.boolean)),
  (yX11_commonDivisor, cX11_commonDivisor, 3, (some FieldType.int)),
  (yX12_init, cX12_init, 1, none),
  (yX12_lays, cX12_lays, 5, none),
  (yX12_in, cX12_in, 3, (some FieldType.boolean)),
  (yX12_has, cX12_has, 2, (some FieldType.boolean)),
  (yX12_bits, cX12_bits, 3, (some FieldType.int)),
  (yX12_isPerson, cX12_isPerson, 2, (some FieldType.boolean)),
  (yX12_isHour, cX12_isHour, 1, (some FieldType.boolean)),
  (yX12_write, cX12_write, 2, (some FieldType.int)),
  (yX12_wipe, cX12_wipe, 2, (some FieldType.int)),
  (yX12_letterAt, cX12_letterAt, 2, (some FieldType.int)),
  (yX12_isFigure, cX12_isFigure, 1, (some FieldType.boolean)),
  (yX12_readNumbers, cX12_readNumbers, 3, (some FieldType.boolean)),
  (yX12_isTold, cX12_isTold, 4, (some FieldType.boolean)),
  (yX12_put, cX12_put, 5, none),
  (yX12_readPersonOf, cX12_readPersonOf, 1, (some FieldType.boolean)),
  (yX12_isHourOfOne, cX12_isHourOfOne, 1, (some FieldType.boolean)),
  (yX12_readWalk, cX12_readWalk, 1, (some FieldType.boolean)),
  (yX12_readLawOf, cX12_readLawOf, 1, (some FieldType.boolean)),
  (yX12_readRemnantOf, cX12_readRemnantOf, 1, (some FieldType.boolean)),
  (yX12_readOrderOf, cX12_readOrderOf, 1, (some FieldType.boolean)),
  (yX12_readFittingOf, cX12_readFittingOf, 1, (some FieldType.boolean)),
  (yX12_readItem, cX12_readItem, 2, (some FieldType.boolean)),
  (yX12_fault, cX12_fault, 2, (some FieldType.int)),
  (yX12_lay, cX12_lay, 1, (some FieldType.int)),
  (yX12_whereAt, cX12_whereAt, 7, (some FieldType.int)),
  (yX12_fromNoon, cX12_fromNoon, 2, (some FieldType.int)),
  (yX12_longBy, cX12_longBy, 8, (some FieldType.int)),
  (yX12_longAt, cX12_longAt, 3, (some FieldType.int)),
  (yX12_wayAt, cX12_wayAt, 4, (some FieldType.int)),
  (yX12_endAt, cX12_endAt, 3, (some FieldType.int)),
  (yX12_reaches, cX12_reaches, 5, (some FieldType.boolean)),
  (yX12_person, cX12_person, 3, (some FieldType.int)),
  (yX12_where, cX12_where, 3, (some FieldType.int)),
  (yX12_shadow, cX12_shadow, 8, (some FieldType.int)),
  (yX12_covers, cX12_covers, 5, (some FieldType.int)),
  (yX12_standOn, cX12_standOn, 6, (some FieldType.int)),
  (yX12_standsAt, cX12_standsAt, 3, (some FieldType.int)),
  (yX12_stands, cX12_stands, 3, (some FieldType.int)),
  (yX12_wear, cX12_wear, 5, (some FieldType.int)),
  (yX12_remembers, cX12_remembers, 2, none),
  (yX12_alter, cX12_alter, 4, (some FieldType.int)),
  (yX12_walk, cX12_walk, 4, (some FieldType.int)),
  (yX12_undo, cX12_undo, 2, (some FieldType.int)),
  (yX12_first, cX12_first, 5, (some FieldType.int)),
  (yX12_lowest, cX12_lowest, 2, (some FieldType.int)),
  (yX12_broken, cX12_broken, 2, (some FieldType.int)),
  (yX12_does, cX12_does, 7, (some FieldType.boolean)),
  (yX12_taken, cX12_taken, 5, (some FieldType.int)),
  (yX12_seen, cX12_seen, 3, (some FieldType.int)),
  (yX12_forget, cX12_forget, 2, (some FieldType.int)),
  (yX12_whose, cX12_whose, 5, (some FieldType.int)),
  (yX12_alike, cX12_alike, 7, (some FieldType.int)),
  (yX12_look, cX12_look, 5, (some FieldType.int)),
  (yX12_shares, cX12_shares, 9, (some FieldType.boolean)),
  (yX12_cut, cX12_cut, 8, (some FieldType.int)),
  (yX12_arranges, cX12_arranges, 9, none),
  (yX12_fittings, cX12_fittings, 7, (some FieldType.int)),
  (yX12_most, cX12_most, 2, (some FieldType.int)),
  (yX12_lowAt, cX12_lowAt, 3, (some FieldType.int)),
  (yX12_highAt, cX12_highAt, 3, (some FieldType.int)),
  (yX12_nearest, cX12_nearest, 5, (some FieldType.int)),
  (yX12_watchers, cX12_watchers, 9, (some FieldType.int)),
  (yX12_poplar, cX12_poplar, 3, (some FieldType.int)),
  (yX12_light, cX12_light, 4, (some FieldType.int)),
  (yX12_clouds, cX12_clouds, 16, (some FieldType.long)),
  (yX12_drawn, cX12_drawn, 5, (some FieldType.int)),
  (yX12_day, cX12_day, 10, (some FieldType.int)),
  (yX12_keep, cX12_keep, 2, (some FieldType.int)),
  (yX12_back, cX12_back, 2, (some FieldType.int)),
  (yX12_count, cX12_count, 2, (some FieldType.int)),
  (yJ6_numberOfTrailingZeros_0f7a4, cJ6_numberOfTrailingZeros_0f7a4, 2, (some FieldType.int)),
  (yJ6_bitCount_0f7a4, cJ6_bitCount_0f7a4, 1, (some FieldType.int)),
  (yJ0_length_8abf5, cJ0_length_8abf5, 1, (some FieldType.int)),
  (yJ0_charAt_5068e, cJ0_charAt_5068e, 2, (some FieldType.char))]
def ax_ME (y : Nat) : Option ax_M := ax_nth ax_MEl y
def ax_PRl : List (ax_T × Nat) := [(t_X0_init, 1), (t_X0_add, 3), (t_X0_dropOldest, 2), (t_X0_takeBack, 2), (t_X1_init, 1), (t_X1_seek, 3), (t_X1_seekFrom, 8), (t_X1_lackingLength, 4), (t_X1_take, 5), (t_X2_init, 2), (t_X2_add, 2), (t_X2_restore, 2), (t_X3_init, 1), (t_X3_clear, 1), (t_X4_init, 1), (t_X4_add, 3), (t_X4_suspects, 4), (t_X4_fits, 4), (t_X4_mostAlike, 8), (t_X5_init, 1), (t_X5_addWalk, 4), (t_X5_cellAfterWalks, 7), (t_X5_copyFrom, 2), (t_X6_init, 1), (t_X6_clear, 1), (t_X6_addRemnant, 2), (t_X6_addOrder, 2), (t_X6_addFitting, 3), (t_X6_orderedLength, 3), (t_X6_lengthFrom, 4), (t_X7_init, 1), (t_X7_clear, 1), (t_X7_hasPerson, 2), (t_X7_addPerson, 5), (t_X7_addLaw, 4), (t_X7_cellOf, 3), (t_X7_cellsAt, 3), (t_X7_drawnCells, 6), (t_X7_fullLength, 5), (t_X7_lengthOf, 3), (t_X7_wayOf, 4), (t_X7_endOf, 3), (t_X7_lowEndOf, 3), (t_X7_highEndOf, 3), (t_X7_coverersOf, 6), (t_X7_standersOn, 9), (t_X7_firstBroken, 2), (t_X7_neededByLaws, 4), (t_X7_neededByStanders, 9), (t_X7_nextWatcher, 5), (t_X8_init, 1), (t_X8_add, 2), (t_X8_put, 3), (t_X8_signAt, 2), (t_X9_init, 1), (t_X9_readInto, 7), (t_X9_numbersOf, 1), (t_X9_readNumbers, 8), (t_X9_figureAt, 3), (t_X9_addItem, 5), (t_X10_init, 1), (t_X10_seek, 2), (t_X10_seekFrom, 10), (t_X10_take, 5), (t_X11_init, 1), (t_X11_write, 2), (t_X11_wipe, 2), (t_X11_fault, 1), (t_X11_lay, 2), (t_X11_person, 3), (t_X11_where, 3), (t_X11_shadow, 5), (t_X11_covers, 3), (t_X11_stands, 3), (t_X11_wear, 5), (t_X11_alter, 5), (t_X11_walk, 4), (t_X11_undo, 1), (t_X11_first, 5), (t_X11_broken, 1), (t_X11_taken, 5), (t_X11_seen, 3), (t_X11_forget, 2), (t_X11_whose, 1), (t_X11_look, 7), (t_X11_cut, 2), (t_X11_fittings, 3), (t_X11_watchers, 7), (t_X11_poplar, 3), (t_X11_light, 4), (t_X11_clouds, 12), (t_X11_day, 8), (t_X11_keep, 1), (t_X11_back, 1), (t_X11_count, 2), (t_X11_isPerson, 2), (t_X11_standersAt, 3), (t_X11_isHour, 1), (t_X11_areHours, 2), (t_X11_isCell, 1), (t_X11_isWithin, 3), (t_X11_commonDivisor, 3), (t_X12_init, 1), (t_X12_lays, 5), (t_X12_in, 3), (t_X12_has, 2), (t_X12_bits, 3), (t_X12_isPerson, 2), (t_X12_isHour, 1), (t_X12_write, 2), (t_X12_wipe, 2), (t_X12_letterAt, 2), (t_X12_isFigure, 1), (t_X12_readNumbers, 3), (t_X12_isTold, 4), (t_X12_put, 5), (t_X12_readPersonOf, 1), (t_X12_isHourOfOne, 1), (t_X12_readWalk, 1), (t_X12_readLawOf, 1), (t_X12_readRemnantOf, 1), (t_X12_readOrderOf, 1), (t_X12_readFittingOf, 1), (t_X12_readItem, 2), (t_X12_fault, 2), (t_X12_lay, 1), (t_X12_whereAt, 7), (t_X12_fromNoon, 2), (t_X12_longBy, 8), (t_X12_longAt, 3), (t_X12_wayAt, 4), (t_X12_endAt, 3), (t_X12_reaches, 5), (t_X12_person, 3), (t_X12_where, 3), (t_X12_shadow, 8), (t_X12_covers, 5), (t_X12_standOn, 6), (t_X12_standsAt, 3), (t_X12_stands, 3), (t_X12_wear, 5), (t_X12_remembers, 2), (t_X12_alter, 4), (t_X12_walk, 4), (t_X12_undo, 2), (t_X12_first, 5), (t_X12_lowest, 2), (t_X12_broken, 2), (t_X12_does, 7), (t_X12_taken, 5), (t_X12_seen, 3), (t_X12_forget, 2), (t_X12_whose, 5), (t_X12_alike, 7), (t_X12_look, 5), (t_X12_shares, 9), (t_X12_cut, 8), (t_X12_arranges, 9), (t_X12_fittings, 7), (t_X12_most, 2), (t_X12_lowAt, 3), (t_X12_highAt, 3), (t_X12_nearest, 5), (t_X12_watchers, 9), (t_X12_poplar, 3), (t_X12_light, 4), (t_X12_clouds, 16), (t_X12_drawn, 5), (t_X12_day, 10), (t_X12_keep, 2), (t_X12_back, 2), (t_X12_count, 2), (t_J6_numberOfTrailingZeros_0f7a4, 2), (t_J6_bitCount_0f7a4, 1)]
def ax_PRf : ax_PR := fun y => ax_nth ax_PRl y
def ax_all1 (P : Nat → ax_Act → Prop) : Nat → List (Option ax_Act) → Prop
  | _, [] => True
  | k, none :: l => ax_all1 P (k + 1) l
  | k, some a :: l => P k a ∧ ax_all1 P (k + 1) l
def ax_all2 (P : Nat → ax_Act → Prop) : Nat → ax_T → Prop
  | _, [] => True
  | k, r :: t => ax_all1 P k r ∧ ax_all2 P (k + 16) t
theorem ax_all1_at {P : Nat → ax_Act → Prop} : ∀ (l : List (Option ax_Act)) (k j : Nat) (a : ax_Act), ax_all1 P k l → ax_nth l j = some (some a) → P (k + j) a
  | [], k, j, a, _, h => by cases h
  | none :: l, k, 0, a, _, h => by cases h
  | some b :: l, k, 0, a, hl, h => by
    cases h
    exact hl.1
  | none :: l, k, j + 1, a, hl, h => by
    rw [show k + (j + 1) = k + 1 + j by omega]
    exact ax_all1_at l (k + 1) j a hl h
  | some b :: l, k, j + 1, a, hl, h => by
    rw [show k + (j + 1) = k + 1 + j by omega]
    exact ax_all1_at l (k + 1) j a hl.2 h
theorem ax_all2_at {P : Nat → ax_Act → Prop} : ∀ (t : ax_T) (k j : Nat) (r : List (Option ax_Act)), ax_all2 P k t → ax_nth t j = some r → ax_all1 P (k + 16 * j) r
  | [], k, j, r, _, h => by cases h
  | b :: t, k, 0, r, hl, h => by
    cases h
    exact hl.1
  | b :: t, k, j + 1, r, hl, h => by
    rw [show k + 16 * (j + 1) = k + 16 + 16 * j by omega]
    exact ax_all2_at t (k + 16) j r hl.2 h
theorem ax_row_all {P : Nat → ax_Act → Prop} {t : ax_T} (h : ax_all2 P 0 t) : ∀ (pc : Nat) (act : ax_Act), ax_row t pc = some act → P pc act := by
  intro pc act hr
  unfold ax_row at hr
  cases h1 : ax_nth t (pc / 16) with
  | none => rw [h1] at hr; cases hr
  | some r =>
    rw [h1] at hr
    have h2 := ax_all2_at t 0 (pc / 16) r h h1
    cases h3 : ax_nth r (pc % 16) with
    | none => simp only [h3] at hr; cases hr
    | some a =>
      simp only [h3] at hr
      subst hr
      have h4 := ax_all1_at r _ (pc % 16) act h2 h3
      rw [show 0 + 16 * (pc / 16) + pc % 16 = pc by omega] at h4
      exact h4
