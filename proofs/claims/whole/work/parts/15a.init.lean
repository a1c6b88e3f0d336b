/-! The two constructors, run as they stand (by wip/whole/gen15.py): r0, s0: nothing is there; each state a definition; each call a theorem. -/
section EvB
variable {l : Launch} {X : Cx} {d i pc b c e nx : Nat} {vi : Int32} {vl : Int64} {ls st : List Value} {n0 n1 n : Nat} {ρ ρ' : Rf} {σ σ' : St} {Q : Po}
theorem Ev_st (h1 : ρ = ρ') (h2 : σ = σ') (k : Ev l X d i pc ls st n0 n1 n ρ' σ' Q) : Ev l X d i pc ls st n0 n1 n ρ σ Q := by subst h1; subst h2; exact k
theorem Ev_norm {x v : Int32} (h : x = v) (k : Ev l X d i pc ls (.int v :: st) n0 n1 n ρ σ Q) : Ev l X d i pc ls (.int x :: st) n0 n1 n ρ σ Q := by subst h; exact k
theorem Ev_iincE {x v : Int32} (h : opn i pc = some (9, b, c, e, nx, vi, vl)) (hl : ls[b]? = some (.int x)) (hv : x + vi = v) (k : Ev l X d i nx (setV b (.int v) ls) st n0 n1 n ρ σ Q) : Ev l X d i pc ls st n0 n1 n ρ σ Q := by subst hv; exact Ev_iinc h hl k
end EvB
def r0 : Rf := fun _ _ => none
def s0 : St := (fun _ _ => 0, fun _ _ => 0)
def r1 : Rf := sR r0 0 (fun _ => none)
def s1 : St := sL (sI s0 0 (fun _ => 0)) 0 (fun _ => 0)
def r2 : Rf := sR r1 1 (fun _ => none)
def s2 : St := sL (sI s1 1 (fun _ => 0)) 1 (fun _ => 0)
def r3 : Rf := sR r2 0 (va_up (r2 0) 0 (some 1))
def s3 : St := s2
def r4 : Rf := sR r3 2 (fun _ => none)
def s4 : St := sL (sI s3 2 (fun _ => 0)) 2 (fun _ => 0)
def r5 : Rf := sR r4 3 (fun _ => none)
def s5 : St := sL (sI s4 3 (fun _ => 0)) 3 (fun _ => 0)
def r6 : Rf := sR r5 2 (va_up (r5 2) 0 (some 3))
def s6 : St := s5
def r7 : Rf := sR r6 4 (fun _ => none)
def s7 : St := sL (sI s6 4 (fun _ => 0)) 4 (fun _ => 0)
def r8 : Rf := sR r7 2 (va_up (r7 2) 1 (some 4))
def s8 : St := s7
def r9 : Rf := sR r8 5 (fun _ => none)
def s9 : St := sL (sI s8 5 (fun _ => 0)) 5 (fun _ => 0)
def r10 : Rf := sR r9 2 (va_up (r9 2) 2 (some 5))
def s10 : St := s9
def r11 : Rf := sR r10 6 (fun _ => none)
def s11 : St := sL (sI s10 6 (fun _ => 0)) 6 (fun _ => 0)
def r12 : Rf := sR r11 2 (va_up (r11 2) 3 (some 6))
def s12 : St := s11
def r13 : Rf := sR r12 7 (fun _ => none)
def s13 : St := sL (sI s12 7 (fun _ => 0)) 7 (fun _ => 0)
def r14 : Rf := sR r13 2 (va_up (r13 2) 4 (some 7))
def s14 : St := s13
def r15 : Rf := sR r14 8 (fun _ => none)
def s15 : St := sL (sI s14 8 (fun _ => 0)) 8 (fun _ => 0)
def r16 : Rf := sR r15 2 (va_up (r15 2) 5 (some 8))
def s16 : St := s15
def r17 : Rf := sR r16 9 (fun _ => none)
def s17 : St := sL (sI s16 9 (fun _ => 0)) 9 (fun _ => 0)
def r18 : Rf := sR r17 2 (va_up (r17 2) 6 (some 9))
def s18 : St := s17
def r19 : Rf := sR r18 10 (fun _ => none)
def s19 : St := sL (sI s18 10 (fun _ => 0)) 10 (fun _ => 0)
def r20 : Rf := sR r19 2 (va_up (r19 2) 7 (some 10))
def s20 : St := s19
def r21 : Rf := sR r20 11 (fun _ => none)
def s21 : St := sL (sI s20 11 (fun _ => 0)) 11 (fun _ => 0)
def r22 : Rf := sR r21 2 (va_up (r21 2) 8 (some 11))
def s22 : St := s21
def r23 : Rf := sR r22 12 (fun _ => none)
def s23 : St := sL (sI s22 12 (fun _ => 0)) 12 (fun _ => 0)
def r24 : Rf := sR r23 13 (fun _ => none)
def s24 : St := sL (sI s23 13 (fun _ => 0)) 13 (fun _ => 0)
def r25 : Rf := sR r24 12 (va_up (r24 12) 0 (some 13))
def s25 : St := s24
def r26 : Rf := sR r25 14 (fun _ => none)
def s26 : St := sL (sI s25 14 (fun _ => 0)) 14 (fun _ => 0)
def r27 : Rf := sR r26 12 (va_up (r26 12) 1 (some 14))
def s27 : St := s26
def r28 : Rf := sR r27 15 (fun _ => none)
def s28 : St := sL (sI s27 15 (fun _ => 0)) 15 (fun _ => 0)
def r29 : Rf := sR r28 12 (va_up (r28 12) 2 (some 15))
def s29 : St := s28
def r30 : Rf := sR r29 16 (fun _ => none)
def s30 : St := sL (sI s29 16 (fun _ => 0)) 16 (fun _ => 0)
def r31 : Rf := sR r30 12 (va_up (r30 12) 3 (some 16))
def s31 : St := s30
def r32 : Rf := sR r31 2 (va_up (r31 2) 9 (some 12))
def s32 : St := s31
def r33 : Rf := r32
def s33 : St := sI s32 2 (upd (s32.1 2) 10 0)
def r34 : Rf := r33
def s34 : St := sI s33 2 (upd (s33.1 2) 11 0)
def r35 : Rf := r34
def s35 : St := sI s34 2 (upd (s34.1 2) 12 0)
def r36 : Rf := r35
def s36 : St := sI s35 2 (upd (s35.1 2) 13 0)
def r37 : Rf := r36
def s37 : St := sI s36 2 (upd (s36.1 2) 14 0)
def r38 : Rf := r37
def s38 : St := sI s37 12 (upd (s37.1 12) 4 0)
def r39 : Rf := r38
def s39 : St := sI s38 14 (upd (s38.1 14) (0 : Int32).toNatClampNeg (-1))
def r40 : Rf := r39
def s40 : St := sI s39 15 (upd (s39.1 15) (0 : Int32).toNatClampNeg (-1))
def r41 : Rf := r40
def s41 : St := sI s40 14 (upd (s40.1 14) (1 : Int32).toNatClampNeg (-1))
def r42 : Rf := r41
def s42 : St := sI s41 15 (upd (s41.1 15) (1 : Int32).toNatClampNeg (-1))
def r43 : Rf := r42
def s43 : St := sI s42 14 (upd (s42.1 14) (2 : Int32).toNatClampNeg (-1))
def r44 : Rf := r43
def s44 : St := sI s43 15 (upd (s43.1 15) (2 : Int32).toNatClampNeg (-1))
def r45 : Rf := r44
def s45 : St := sI s44 14 (upd (s44.1 14) (3 : Int32).toNatClampNeg (-1))
def r46 : Rf := r45
def s46 : St := sI s45 15 (upd (s45.1 15) (3 : Int32).toNatClampNeg (-1))
def r47 : Rf := r46
def s47 : St := sI s46 14 (upd (s46.1 14) (4 : Int32).toNatClampNeg (-1))
def r48 : Rf := r47
def s48 : St := sI s47 15 (upd (s47.1 15) (4 : Int32).toNatClampNeg (-1))
def r49 : Rf := r48
def s49 : St := sI s48 14 (upd (s48.1 14) (0 : Int32).toNatClampNeg 0)
def r50 : Rf := r49
def s50 : St := sI s49 13 (upd (s49.1 13) (0 : Int32).toNatClampNeg 2336)
def r51 : Rf := r50
def s51 : St := sI s50 12 (upd (s50.1 12) 4 1)
def r52 : Rf := r51
def s52 : St := sI s51 15 (upd (s51.1 15) (0 : Int32).toNatClampNeg 1)
def r53 : Rf := r52
def s53 : St := sI s52 14 (upd (s52.1 14) (1 : Int32).toNatClampNeg 1)
def r54 : Rf := r53
def s54 : St := sI s53 13 (upd (s53.1 13) (1 : Int32).toNatClampNeg 5152)
def r55 : Rf := r54
def s55 : St := sI s54 12 (upd (s54.1 12) 4 2)
def r56 : Rf := r55
def s56 : St := sI s55 13 (upd (s55.1 13) (2 : Int32).toNatClampNeg 2)
def r57 : Rf := r56
def s57 : St := sI s56 12 (upd (s56.1 12) 4 3)
def r58 : Rf := r57
def s58 : St := sI s57 13 (upd (s57.1 13) (3 : Int32).toNatClampNeg 1312)
def r59 : Rf := r58
def s59 : St := sI s58 12 (upd (s58.1 12) 4 4)
def r60 : Rf := r59
def s60 : St := sI s59 13 (upd (s59.1 13) (4 : Int32).toNatClampNeg 38)
def r61 : Rf := r60
def s61 : St := sI s60 12 (upd (s60.1 12) 4 5)
def r62 : Rf := r61
def s62 : St := sI s61 13 (upd (s61.1 13) (5 : Int32).toNatClampNeg 36)
def r63 : Rf := r62
def s63 : St := sI s62 12 (upd (s62.1 12) 4 6)
def r64 : Rf := r63
def s64 : St := sI s63 13 (upd (s63.1 13) (6 : Int32).toNatClampNeg 1)
def r65 : Rf := r64
def s65 : St := sI s64 12 (upd (s64.1 12) 4 7)
def r66 : Rf := r65
def s66 : St := sI s65 13 (upd (s65.1 13) (7 : Int32).toNatClampNeg 37)
def r67 : Rf := r66
def s67 : St := sI s66 12 (upd (s66.1 12) 4 8)
def r68 : Rf := r67
def s68 : St := sI s67 15 (upd (s67.1 15) (1 : Int32).toNatClampNeg 8)
def r69 : Rf := r68
def s69 : St := sI s68 14 (upd (s68.1 14) (2 : Int32).toNatClampNeg 8)
def r70 : Rf := r69
def s70 : St := sI s69 13 (upd (s69.1 13) (8 : Int32).toNatClampNeg 6)
def r71 : Rf := r70
def s71 : St := sI s70 12 (upd (s70.1 12) 4 9)
def r72 : Rf := r71
def s72 : St := sI s71 13 (upd (s71.1 13) (9 : Int32).toNatClampNeg 288)
def r73 : Rf := r72
def s73 : St := sI s72 12 (upd (s72.1 12) 4 10)
def r74 : Rf := r73
def s74 : St := sI s73 13 (upd (s73.1 13) (10 : Int32).toNatClampNeg 37)
def r75 : Rf := r74
def s75 : St := sI s74 12 (upd (s74.1 12) 4 11)
def r76 : Rf := r75
def s76 : St := sI s75 15 (upd (s75.1 15) (2 : Int32).toNatClampNeg 11)
def r77 : Rf := r76
def s77 : St := sI s76 14 (upd (s76.1 14) (3 : Int32).toNatClampNeg 11)
def r78 : Rf := r77
def s78 : St := sI s77 13 (upd (s77.1 13) (11 : Int32).toNatClampNeg 288)
def r79 : Rf := r78
def s79 : St := sI s78 12 (upd (s78.1 12) 4 12)
def r80 : Rf := r79
def s80 : St := sI s79 15 (upd (s79.1 15) (3 : Int32).toNatClampNeg 12)
def r81 : Rf := sR r80 0 (va_up (r80 0) 2 (some 2))
def s81 : St := s80
def r82 : Rf := sR r81 17 (fun _ => none)
def s82 : St := sL (sI s81 17 (fun _ => 0)) 17 (fun _ => 0)
def r83 : Rf := sR r82 18 (fun _ => none)
def s83 : St := sL (sI s82 18 (fun _ => 0)) 18 (fun _ => 0)
def r84 : Rf := sR r83 17 (va_up (r83 17) 0 (some 18))
def s84 : St := s83
def r85 : Rf := sR r84 19 (fun _ => none)
def s85 : St := sL (sI s84 19 (fun _ => 0)) 19 (fun _ => 0)
def r86 : Rf := sR r85 17 (va_up (r85 17) 1 (some 19))
def s86 : St := s85
def r87 : Rf := sR r86 20 (fun _ => none)
def s87 : St := sL (sI s86 20 (fun _ => 0)) 20 (fun _ => 0)
def r88 : Rf := sR r87 17 (va_up (r87 17) 2 (some 20))
def s88 : St := s87
def r89 : Rf := sR r88 21 (fun _ => none)
def s89 : St := sL (sI s88 21 (fun _ => 0)) 21 (fun _ => 0)
def r90 : Rf := sR r89 17 (va_up (r89 17) 3 (some 21))
def s90 : St := s89
def r91 : Rf := sR r90 22 (fun _ => none)
def s91 : St := sL (sI s90 22 (fun _ => 0)) 22 (fun _ => 0)
def r92 : Rf := sR r91 17 (va_up (r91 17) 4 (some 22))
def s92 : St := s91
def r93 : Rf := sR r92 23 (fun _ => none)
def s93 : St := sL (sI s92 23 (fun _ => 0)) 23 (fun _ => 0)
def r94 : Rf := sR r93 17 (va_up (r93 17) 5 (some 23))
def s94 : St := s93
def r95 : Rf := sR r94 24 (fun _ => none)
def s95 : St := sL (sI s94 24 (fun _ => 0)) 24 (fun _ => 0)
def r96 : Rf := sR r95 17 (va_up (r95 17) 6 (some 24))
def s96 : St := s95
def r97 : Rf := sR r96 25 (fun _ => none)
def s97 : St := sL (sI s96 25 (fun _ => 0)) 25 (fun _ => 0)
def r98 : Rf := sR r97 17 (va_up (r97 17) 7 (some 25))
def s98 : St := s97
def r99 : Rf := sR r98 26 (fun _ => none)
def s99 : St := sL (sI s98 26 (fun _ => 0)) 26 (fun _ => 0)
def r100 : Rf := sR r99 17 (va_up (r99 17) 8 (some 26))
def s100 : St := s99
def r101 : Rf := sR r100 27 (fun _ => none)
def s101 : St := sL (sI s100 27 (fun _ => 0)) 27 (fun _ => 0)
def r102 : Rf := sR r101 28 (fun _ => none)
def s102 : St := sL (sI s101 28 (fun _ => 0)) 28 (fun _ => 0)
def r103 : Rf := sR r102 27 (va_up (r102 27) 0 (some 28))
def s103 : St := s102
def r104 : Rf := sR r103 29 (fun _ => none)
def s104 : St := sL (sI s103 29 (fun _ => 0)) 29 (fun _ => 0)
def r105 : Rf := sR r104 27 (va_up (r104 27) 1 (some 29))
def s105 : St := s104
def r106 : Rf := sR r105 30 (fun _ => none)
def s106 : St := sL (sI s105 30 (fun _ => 0)) 30 (fun _ => 0)
def r107 : Rf := sR r106 27 (va_up (r106 27) 2 (some 30))
def s107 : St := s106
def r108 : Rf := sR r107 31 (fun _ => none)
def s108 : St := sL (sI s107 31 (fun _ => 0)) 31 (fun _ => 0)
def r109 : Rf := sR r108 27 (va_up (r108 27) 3 (some 31))
def s109 : St := s108
def r110 : Rf := sR r109 17 (va_up (r109 17) 9 (some 27))
def s110 : St := s109
def r111 : Rf := r110
def s111 : St := sI s110 17 (upd (s110.1 17) 10 0)
def r112 : Rf := r111
def s112 : St := sI s111 17 (upd (s111.1 17) 11 0)
def r113 : Rf := r112
def s113 : St := sI s112 17 (upd (s112.1 17) 12 0)
def r114 : Rf := r113
def s114 : St := sI s113 17 (upd (s113.1 17) 13 0)
def r115 : Rf := r114
def s115 : St := sI s114 17 (upd (s114.1 17) 14 0)
def r116 : Rf := r115
def s116 : St := sI s115 27 (upd (s115.1 27) 4 0)
def r117 : Rf := r116
def s117 : St := sI s116 29 (upd (s116.1 29) (0 : Int32).toNatClampNeg (-1))
def r118 : Rf := r117
def s118 : St := sI s117 30 (upd (s117.1 30) (0 : Int32).toNatClampNeg (-1))
def r119 : Rf := r118
def s119 : St := sI s118 29 (upd (s118.1 29) (1 : Int32).toNatClampNeg (-1))
def r120 : Rf := r119
def s120 : St := sI s119 30 (upd (s119.1 30) (1 : Int32).toNatClampNeg (-1))
def r121 : Rf := r120
def s121 : St := sI s120 29 (upd (s120.1 29) (2 : Int32).toNatClampNeg (-1))
def r122 : Rf := r121
def s122 : St := sI s121 30 (upd (s121.1 30) (2 : Int32).toNatClampNeg (-1))
def r123 : Rf := r122
def s123 : St := sI s122 29 (upd (s122.1 29) (3 : Int32).toNatClampNeg (-1))
def r124 : Rf := r123
def s124 : St := sI s123 30 (upd (s123.1 30) (3 : Int32).toNatClampNeg (-1))
def r125 : Rf := r124
def s125 : St := sI s124 29 (upd (s124.1 29) (4 : Int32).toNatClampNeg (-1))
def r126 : Rf := r125
def s126 : St := sI s125 30 (upd (s125.1 30) (4 : Int32).toNatClampNeg (-1))
def r127 : Rf := r126
def s127 : St := sI s126 29 (upd (s126.1 29) (0 : Int32).toNatClampNeg 0)
def r128 : Rf := r127
def s128 : St := sI s127 28 (upd (s127.1 28) (0 : Int32).toNatClampNeg 2336)
def r129 : Rf := r128
def s129 : St := sI s128 27 (upd (s128.1 27) 4 1)
def r130 : Rf := r129
def s130 : St := sI s129 30 (upd (s129.1 30) (0 : Int32).toNatClampNeg 1)
def r131 : Rf := r130
def s131 : St := sI s130 29 (upd (s130.1 29) (1 : Int32).toNatClampNeg 1)
def r132 : Rf := r131
def s132 : St := sI s131 28 (upd (s131.1 28) (1 : Int32).toNatClampNeg 5152)
def r133 : Rf := r132
def s133 : St := sI s132 27 (upd (s132.1 27) 4 2)
def r134 : Rf := r133
def s134 : St := sI s133 28 (upd (s133.1 28) (2 : Int32).toNatClampNeg 2)
def r135 : Rf := r134
def s135 : St := sI s134 27 (upd (s134.1 27) 4 3)
def r136 : Rf := r135
def s136 : St := sI s135 28 (upd (s135.1 28) (3 : Int32).toNatClampNeg 1312)
def r137 : Rf := r136
def s137 : St := sI s136 27 (upd (s136.1 27) 4 4)
def r138 : Rf := r137
def s138 : St := sI s137 28 (upd (s137.1 28) (4 : Int32).toNatClampNeg 38)
def r139 : Rf := r138
def s139 : St := sI s138 27 (upd (s138.1 27) 4 5)
def r140 : Rf := r139
def s140 : St := sI s139 28 (upd (s139.1 28) (5 : Int32).toNatClampNeg 36)
def r141 : Rf := r140
def s141 : St := sI s140 27 (upd (s140.1 27) 4 6)
def r142 : Rf := r141
def s142 : St := sI s141 28 (upd (s141.1 28) (6 : Int32).toNatClampNeg 1)
def r143 : Rf := r142
def s143 : St := sI s142 27 (upd (s142.1 27) 4 7)
def r144 : Rf := r143
def s144 : St := sI s143 28 (upd (s143.1 28) (7 : Int32).toNatClampNeg 37)
def r145 : Rf := r144
def s145 : St := sI s144 27 (upd (s144.1 27) 4 8)
def r146 : Rf := r145
def s146 : St := sI s145 30 (upd (s145.1 30) (1 : Int32).toNatClampNeg 8)
def r147 : Rf := r146
def s147 : St := sI s146 29 (upd (s146.1 29) (2 : Int32).toNatClampNeg 8)
def r148 : Rf := r147
def s148 : St := sI s147 28 (upd (s147.1 28) (8 : Int32).toNatClampNeg 6)
def r149 : Rf := r148
def s149 : St := sI s148 27 (upd (s148.1 27) 4 9)
def r150 : Rf := r149
def s150 : St := sI s149 28 (upd (s149.1 28) (9 : Int32).toNatClampNeg 288)
def r151 : Rf := r150
def s151 : St := sI s150 27 (upd (s150.1 27) 4 10)
def r152 : Rf := r151
def s152 : St := sI s151 28 (upd (s151.1 28) (10 : Int32).toNatClampNeg 37)
def r153 : Rf := r152
def s153 : St := sI s152 27 (upd (s152.1 27) 4 11)
def r154 : Rf := r153
def s154 : St := sI s153 30 (upd (s153.1 30) (2 : Int32).toNatClampNeg 11)
def r155 : Rf := r154
def s155 : St := sI s154 29 (upd (s154.1 29) (3 : Int32).toNatClampNeg 11)
def r156 : Rf := r155
def s156 : St := sI s155 28 (upd (s155.1 28) (11 : Int32).toNatClampNeg 288)
def r157 : Rf := r156
def s157 : St := sI s156 27 (upd (s156.1 27) 4 12)
def r158 : Rf := r157
def s158 : St := sI s157 30 (upd (s157.1 30) (3 : Int32).toNatClampNeg 12)
def r159 : Rf := sR r158 0 (va_up (r158 0) 3 (some 17))
def s159 : St := s158
def r160 : Rf := sR r159 32 (fun _ => none)
def s160 : St := sL (sI s159 32 (fun _ => 0)) 32 (fun _ => 0)
def r161 : Rf := mR r160 33 6
def s161 : St := mS s160 33 6
def r162 : Rf := sR r161 32 (va_up (r161 32) 1 (some 33))
def s162 : St := s161
def r163 : Rf := sR r162 40 (fun _ => none)
def s163 : St := sL (sI s162 40 (fun _ => 0)) 40 (fun _ => 0)
def r164 : Rf := sR r163 32 (va_up (r163 32) 3 (some 40))
def s164 : St := s163
def r165 : Rf := sR r164 41 (fun _ => none)
def s165 : St := sL (sI s164 41 (fun _ => 0)) 41 (fun _ => 0)
def r166 : Rf := sR r165 32 (va_up (r165 32) 4 (some 41))
def s166 : St := s165
def r167 : Rf := sR r166 42 (fun _ => none)
def s167 : St := sL (sI s166 42 (fun _ => 0)) 42 (fun _ => 0)
def r168 : Rf := sR r167 32 (va_up (r167 32) 5 (some 42))
def s168 : St := s167
def r169 : Rf := sR r168 0 (va_up (r168 0) 4 (some 32))
def s169 : St := s168
def r170 : Rf := sR r169 43 (fun _ => none)
def s170 : St := sL (sI s169 43 (fun _ => 0)) 43 (fun _ => 0)
def r171 : Rf := sR r170 44 (fun _ => none)
def s171 : St := sL (sI s170 44 (fun _ => 0)) 44 (fun _ => 0)
def r172 : Rf := sR r171 43 (va_up (r171 43) 0 (some 44))
def s172 : St := s171
def r173 : Rf := sR r172 45 (fun _ => none)
def s173 : St := sL (sI s172 45 (fun _ => 0)) 45 (fun _ => 0)
def r174 : Rf := mR r173 46 6
def s174 : St := mS s173 46 6
def r175 : Rf := sR r174 45 (va_up (r174 45) 1 (some 46))
def s175 : St := s174
def r176 : Rf := sR r175 53 (fun _ => none)
def s176 : St := sL (sI s175 53 (fun _ => 0)) 53 (fun _ => 0)
def r177 : Rf := sR r176 45 (va_up (r176 45) 3 (some 53))
def s177 : St := s176
def r178 : Rf := sR r177 54 (fun _ => none)
def s178 : St := sL (sI s177 54 (fun _ => 0)) 54 (fun _ => 0)
def r179 : Rf := sR r178 45 (va_up (r178 45) 4 (some 54))
def s179 : St := s178
def r180 : Rf := sR r179 55 (fun _ => none)
def s180 : St := sL (sI s179 55 (fun _ => 0)) 55 (fun _ => 0)
def r181 : Rf := sR r180 45 (va_up (r180 45) 5 (some 55))
def s181 : St := s180
def r182 : Rf := sR r181 44 (va_up (r181 44) (0 : Int32).toNatClampNeg (some 45))
def s182 : St := s181
def r183 : Rf := sR r182 56 (fun _ => none)
def s183 : St := sL (sI s182 56 (fun _ => 0)) 56 (fun _ => 0)
def r184 : Rf := mR r183 57 6
def s184 : St := mS s183 57 6
def r185 : Rf := sR r184 56 (va_up (r184 56) 1 (some 57))
def s185 : St := s184
def r186 : Rf := sR r185 64 (fun _ => none)
def s186 : St := sL (sI s185 64 (fun _ => 0)) 64 (fun _ => 0)
def r187 : Rf := sR r186 56 (va_up (r186 56) 3 (some 64))
def s187 : St := s186
def r188 : Rf := sR r187 65 (fun _ => none)
def s188 : St := sL (sI s187 65 (fun _ => 0)) 65 (fun _ => 0)
def r189 : Rf := sR r188 56 (va_up (r188 56) 4 (some 65))
def s189 : St := s188
def r190 : Rf := sR r189 66 (fun _ => none)
def s190 : St := sL (sI s189 66 (fun _ => 0)) 66 (fun _ => 0)
def r191 : Rf := sR r190 56 (va_up (r190 56) 5 (some 66))
def s191 : St := s190
def r192 : Rf := sR r191 44 (va_up (r191 44) (1 : Int32).toNatClampNeg (some 56))
def s192 : St := s191
def r193 : Rf := sR r192 67 (fun _ => none)
def s193 : St := sL (sI s192 67 (fun _ => 0)) 67 (fun _ => 0)
def r194 : Rf := mR r193 68 6
def s194 : St := mS s193 68 6
def r195 : Rf := sR r194 67 (va_up (r194 67) 1 (some 68))
def s195 : St := s194
def r196 : Rf := sR r195 75 (fun _ => none)
def s196 : St := sL (sI s195 75 (fun _ => 0)) 75 (fun _ => 0)
def r197 : Rf := sR r196 67 (va_up (r196 67) 3 (some 75))
def s197 : St := s196
def r198 : Rf := sR r197 76 (fun _ => none)
def s198 : St := sL (sI s197 76 (fun _ => 0)) 76 (fun _ => 0)
def r199 : Rf := sR r198 67 (va_up (r198 67) 4 (some 76))
def s199 : St := s198
def r200 : Rf := sR r199 77 (fun _ => none)
def s200 : St := sL (sI s199 77 (fun _ => 0)) 77 (fun _ => 0)
def r201 : Rf := sR r200 67 (va_up (r200 67) 5 (some 77))
def s201 : St := s200
def r202 : Rf := sR r201 44 (va_up (r201 44) (2 : Int32).toNatClampNeg (some 67))
def s202 : St := s201
def r203 : Rf := sR r202 78 (fun _ => none)
def s203 : St := sL (sI s202 78 (fun _ => 0)) 78 (fun _ => 0)
def r204 : Rf := mR r203 79 6
def s204 : St := mS s203 79 6
def r205 : Rf := sR r204 78 (va_up (r204 78) 1 (some 79))
def s205 : St := s204
def r206 : Rf := sR r205 86 (fun _ => none)
def s206 : St := sL (sI s205 86 (fun _ => 0)) 86 (fun _ => 0)
def r207 : Rf := sR r206 78 (va_up (r206 78) 3 (some 86))
def s207 : St := s206
def r208 : Rf := sR r207 87 (fun _ => none)
def s208 : St := sL (sI s207 87 (fun _ => 0)) 87 (fun _ => 0)
def r209 : Rf := sR r208 78 (va_up (r208 78) 4 (some 87))
def s209 : St := s208
def r210 : Rf := sR r209 88 (fun _ => none)
def s210 : St := sL (sI s209 88 (fun _ => 0)) 88 (fun _ => 0)
def r211 : Rf := sR r210 78 (va_up (r210 78) 5 (some 88))
def s211 : St := s210
def r212 : Rf := sR r211 44 (va_up (r211 44) (3 : Int32).toNatClampNeg (some 78))
def s212 : St := s211
def r213 : Rf := sR r212 89 (fun _ => none)
def s213 : St := sL (sI s212 89 (fun _ => 0)) 89 (fun _ => 0)
def r214 : Rf := mR r213 90 6
def s214 : St := mS s213 90 6
def r215 : Rf := sR r214 89 (va_up (r214 89) 1 (some 90))
def s215 : St := s214
def r216 : Rf := sR r215 97 (fun _ => none)
def s216 : St := sL (sI s215 97 (fun _ => 0)) 97 (fun _ => 0)
def r217 : Rf := sR r216 89 (va_up (r216 89) 3 (some 97))
def s217 : St := s216
def r218 : Rf := sR r217 98 (fun _ => none)
def s218 : St := sL (sI s217 98 (fun _ => 0)) 98 (fun _ => 0)
def r219 : Rf := sR r218 89 (va_up (r218 89) 4 (some 98))
def s219 : St := s218
def r220 : Rf := sR r219 99 (fun _ => none)
def s220 : St := sL (sI s219 99 (fun _ => 0)) 99 (fun _ => 0)
def r221 : Rf := sR r220 89 (va_up (r220 89) 5 (some 99))
def s221 : St := s220
section EvK0
variable {l : Launch} {X : Cx}
set_option maxRecDepth 20000 in
theorem k0 (d : Nat) : T l X (d + 1) 64 [.ref 12] 13 17 r23 s23 (Ru r31 s31) := by
  refine T_of rfl ?_
  refine Ev_aload rfl rfl rfl ?_
  refine Ev_obj rfl rfl ?_
  refine Ev_aload rfl rfl rfl ?_
  refine Ev_const rfl ?_
  refine Ev_newa rfl (by decide) rfl ⟨by decide, by decide⟩ ?_
  refine Ev_st (ρ' := r24) (σ' := s24) rfl rfl ?_
  refine Ev_putR rfl rfl (fun _ => ⟨rfl, rfl⟩) (Or.inr ⟨rfl, rfl, rfl⟩) ?_
  refine Ev_st (ρ' := r25) (σ' := s25) rfl rfl ?_
  refine Ev_aload rfl rfl rfl ?_
  refine Ev_const rfl ?_
  refine Ev_newa rfl (by decide) rfl ⟨by decide, by decide⟩ ?_
  refine Ev_st (ρ' := r26) (σ' := s26) rfl rfl ?_
  refine Ev_putR rfl rfl (fun _ => ⟨rfl, rfl⟩) (Or.inr ⟨rfl, rfl, rfl⟩) ?_
  refine Ev_st (ρ' := r27) (σ' := s27) rfl rfl ?_
  refine Ev_aload rfl rfl rfl ?_
  refine Ev_const rfl ?_
  refine Ev_newa rfl (by decide) rfl ⟨by decide, by decide⟩ ?_
  refine Ev_st (ρ' := r28) (σ' := s28) rfl rfl ?_
  refine Ev_putR rfl rfl (fun _ => ⟨rfl, rfl⟩) (Or.inr ⟨rfl, rfl, rfl⟩) ?_
  refine Ev_st (ρ' := r29) (σ' := s29) rfl rfl ?_
  refine Ev_aload rfl rfl rfl ?_
  refine Ev_const rfl ?_
  refine Ev_newa rfl (by decide) rfl ⟨by decide, by decide⟩ ?_
  refine Ev_st (ρ' := r30) (σ' := s30) rfl rfl ?_
  refine Ev_putR rfl rfl (fun _ => ⟨rfl, rfl⟩) (Or.inr ⟨rfl, rfl, rfl⟩) ?_
  refine Ev_st (ρ' := r31) (σ' := s31) rfl rfl ?_
  exact Ev_return rfl rfl rfl ⟨rfl, rfl, rfl⟩
set_option maxRecDepth 20000 in
theorem k1 (d : Nat) : T l X (d + 0) 65 [.ref 12] 17 17 r37 s37 (Ru r48 s48) := by
  refine T_of rfl ?_
  refine Ev_aload rfl rfl rfl ?_
  refine Ev_const rfl ?_
  refine Ev_putI rfl rfl ⟨rfl, rfl⟩ rfl ?_
  refine Ev_st (ρ' := r38) (σ' := s38) rfl rfl ?_
  refine Ev_const rfl ?_
  refine Ev_istore rfl ?_
  refine Ev_iload rfl rfl ?_
  refine Ev_const rfl ?_
  refine Ev_icmp_ge rfl (fun h => absurd h (by decide)) (fun _ => ?_)
  refine Ev_aload rfl rfl rfl ?_
  refine Ev_getR (k' := 14) rfl rfl (by decide +kernel) ?_
  refine Ev_iload rfl rfl ?_
  refine Ev_const rfl ?_
  refine Ev_iast rfl rfl (by unfold vp_in; decide) ?_
  refine Ev_st (ρ' := r39) (σ' := s39) rfl rfl ?_
  refine Ev_aload rfl rfl rfl ?_
  refine Ev_getR (k' := 15) rfl rfl (by decide +kernel) ?_
  refine Ev_iload rfl rfl ?_
  refine Ev_const rfl ?_
  refine Ev_iast rfl rfl (by unfold vp_in; decide) ?_
  refine Ev_st (ρ' := r40) (σ' := s40) rfl rfl ?_
  refine Ev_iincE (v := 1) rfl rfl (by decide) ?_
  refine Ev_goto rfl ?_
  refine Ev_iload rfl rfl ?_
  refine Ev_const rfl ?_
  refine Ev_icmp_ge rfl (fun h => absurd h (by decide)) (fun _ => ?_)
  refine Ev_aload rfl rfl rfl ?_
  refine Ev_getR (k' := 14) rfl rfl (by decide +kernel) ?_
  refine Ev_iload rfl rfl ?_
  refine Ev_const rfl ?_
  refine Ev_iast rfl rfl (by unfold vp_in; decide) ?_
  refine Ev_st (ρ' := r41) (σ' := s41) rfl rfl ?_
  refine Ev_aload rfl rfl rfl ?_
  refine Ev_getR (k' := 15) rfl rfl (by decide +kernel) ?_
  refine Ev_iload rfl rfl ?_
  refine Ev_const rfl ?_
  refine Ev_iast rfl rfl (by unfold vp_in; decide) ?_
  refine Ev_st (ρ' := r42) (σ' := s42) rfl rfl ?_
  refine Ev_iincE (v := 2) rfl rfl (by decide) ?_
  refine Ev_goto rfl ?_
  refine Ev_iload rfl rfl ?_
  refine Ev_const rfl ?_
  refine Ev_icmp_ge rfl (fun h => absurd h (by decide)) (fun _ => ?_)
  refine Ev_aload rfl rfl rfl ?_
  refine Ev_getR (k' := 14) rfl rfl (by decide +kernel) ?_
  refine Ev_iload rfl rfl ?_
  refine Ev_const rfl ?_
  refine Ev_iast rfl rfl (by unfold vp_in; decide) ?_
  refine Ev_st (ρ' := r43) (σ' := s43) rfl rfl ?_
  refine Ev_aload rfl rfl rfl ?_
  refine Ev_getR (k' := 15) rfl rfl (by decide +kernel) ?_
  refine Ev_iload rfl rfl ?_
  refine Ev_const rfl ?_
  refine Ev_iast rfl rfl (by unfold vp_in; decide) ?_
  refine Ev_st (ρ' := r44) (σ' := s44) rfl rfl ?_
  refine Ev_iincE (v := 3) rfl rfl (by decide) ?_
  refine Ev_goto rfl ?_
  refine Ev_iload rfl rfl ?_
  refine Ev_const rfl ?_
  refine Ev_icmp_ge rfl (fun h => absurd h (by decide)) (fun _ => ?_)
  refine Ev_aload rfl rfl rfl ?_
  refine Ev_getR (k' := 14) rfl rfl (by decide +kernel) ?_
  refine Ev_iload rfl rfl ?_
  refine Ev_const rfl ?_
  refine Ev_iast rfl rfl (by unfold vp_in; decide) ?_
  refine Ev_st (ρ' := r45) (σ' := s45) rfl rfl ?_
  refine Ev_aload rfl rfl rfl ?_
  refine Ev_getR (k' := 15) rfl rfl (by decide +kernel) ?_
  refine Ev_iload rfl rfl ?_
  refine Ev_const rfl ?_
  refine Ev_iast rfl rfl (by unfold vp_in; decide) ?_
  refine Ev_st (ρ' := r46) (σ' := s46) rfl rfl ?_
  refine Ev_iincE (v := 4) rfl rfl (by decide) ?_
  refine Ev_goto rfl ?_
  refine Ev_iload rfl rfl ?_
  refine Ev_const rfl ?_
  refine Ev_icmp_ge rfl (fun h => absurd h (by decide)) (fun _ => ?_)
  refine Ev_aload rfl rfl rfl ?_
  refine Ev_getR (k' := 14) rfl rfl (by decide +kernel) ?_
  refine Ev_iload rfl rfl ?_
  refine Ev_const rfl ?_
  refine Ev_iast rfl rfl (by unfold vp_in; decide) ?_
  refine Ev_st (ρ' := r47) (σ' := s47) rfl rfl ?_
  refine Ev_aload rfl rfl rfl ?_
  refine Ev_getR (k' := 15) rfl rfl (by decide +kernel) ?_
  refine Ev_iload rfl rfl ?_
  refine Ev_const rfl ?_
  refine Ev_iast rfl rfl (by unfold vp_in; decide) ?_
  refine Ev_st (ρ' := r48) (σ' := s48) rfl rfl ?_
  refine Ev_iincE (v := 5) rfl rfl (by decide) ?_
  refine Ev_goto rfl ?_
  refine Ev_iload rfl rfl ?_
  refine Ev_const rfl ?_
  refine Ev_icmp_ge rfl (fun _ => ?_) (fun h => absurd (by decide) h)
  exact Ev_return rfl rfl rfl ⟨rfl, rfl, rfl⟩
set_option maxRecDepth 20000 in
theorem k2 (d : Nat) : T l X (d + 1) 1 [.ref 2] 17 17 r32 s32 (Ru r48 s48) := by
  refine T_of rfl ?_
  refine Ev_aload rfl rfl rfl ?_
  refine Ev_const rfl ?_
  refine Ev_putI rfl rfl ⟨rfl, rfl⟩ rfl ?_
  refine Ev_st (ρ' := r33) (σ' := s33) rfl rfl ?_
  refine Ev_aload rfl rfl rfl ?_
  refine Ev_const rfl ?_
  refine Ev_putI rfl rfl ⟨rfl, rfl⟩ rfl ?_
  refine Ev_st (ρ' := r34) (σ' := s34) rfl rfl ?_
  refine Ev_aload rfl rfl rfl ?_
  refine Ev_const rfl ?_
  refine Ev_putI rfl rfl ⟨rfl, rfl⟩ rfl ?_
  refine Ev_st (ρ' := r35) (σ' := s35) rfl rfl ?_
  refine Ev_aload rfl rfl rfl ?_
  refine Ev_const rfl ?_
  refine Ev_putI rfl rfl ⟨rfl, rfl⟩ rfl ?_
  refine Ev_st (ρ' := r36) (σ' := s36) rfl rfl ?_
  refine Ev_aload rfl rfl rfl ?_
  refine Ev_const rfl ?_
  refine Ev_putI rfl rfl ⟨rfl, rfl⟩ rfl ?_
  refine Ev_st (ρ' := r37) (σ' := s37) rfl rfl ?_
  refine Ev_aload rfl rfl rfl ?_
  refine Ev_getR (k' := 12) rfl rfl (by decide +kernel) ?_
  refine Ev_callV rfl rfl rfl rfl rfl ⟨by decide, by decide, by decide⟩ (k1 d) ?_
  rintro v ρ' σ' ⟨rfl, rfl, rfl⟩
  exact Ev_return rfl rfl rfl ⟨rfl, rfl, rfl⟩
set_option maxRecDepth 20000 in
theorem k3 (d : Nat) : T l X (d + 0) 66 [.ref 12, .int 0] 17 17 r48 s48 (Re (.int 0) r48 s48) := by
  refine T_of rfl ?_
  refine Ev_aload rfl rfl rfl ?_
  refine Ev_getR (k' := 14) rfl rfl (by decide +kernel) ?_
  refine Ev_iload rfl rfl ?_
  refine Ev_iald rfl rfl (by unfold vp_in; decide) ?_
  refine Ev_norm (v := (-1)) (by decide +kernel) ?_
  refine Ev_const rfl ?_
  refine Ev_icmp_eq rfl (fun _ => ?_) (fun h => absurd (by decide) h)
  refine Ev_const rfl ?_
  exact Ev_ireturn rfl rfl (by decide) rfl ⟨rfl, rfl, rfl⟩
set_option maxRecDepth 20000 in
theorem k4 (d : Nat) : T l X (d + 0) 67 [.ref 12, .int 0] 17 17 r48 s48 (Ru r49 s49) := by
  refine T_of rfl ?_
  refine Ev_aload rfl rfl rfl ?_
  refine Ev_getR (k' := 14) rfl rfl (by decide +kernel) ?_
  refine Ev_iload rfl rfl ?_
  refine Ev_aload rfl rfl rfl ?_
  refine Ev_getI rfl rfl ?_
  refine Ev_norm (v := 0) (by decide +kernel) ?_
  refine Ev_iast rfl rfl (by unfold vp_in; decide) ?_
  refine Ev_st (ρ' := r49) (σ' := s49) rfl rfl ?_
  exact Ev_return rfl rfl rfl ⟨rfl, rfl, rfl⟩
set_option maxRecDepth 20000 in
theorem k5 (d : Nat) : T l X (d + 0) 69 [.ref 12, .int 2336] 17 17 r49 s49 (Ru r51 s51) := by
  refine T_of rfl ?_
  refine Ev_aload rfl rfl rfl ?_
  refine Ev_getI rfl rfl ?_
  refine Ev_norm (v := 0) (by decide +kernel) ?_
  refine Ev_const rfl ?_
  refine Ev_icmp_ge rfl (fun h => absurd h (by decide)) (fun _ => ?_)
  refine Ev_aload rfl rfl rfl ?_
  refine Ev_getR (k' := 13) rfl rfl (by decide +kernel) ?_
  refine Ev_aload rfl rfl rfl ?_
  refine Ev_getI rfl rfl ?_
  refine Ev_norm (v := 0) (by decide +kernel) ?_
  refine Ev_iload rfl rfl ?_
  refine Ev_iast rfl rfl (by unfold vp_in; decide) ?_
  refine Ev_st (ρ' := r50) (σ' := s50) rfl rfl ?_
  refine Ev_aload rfl rfl rfl ?_
  refine Ev_dup rfl (fun _ q => nomatch q) ?_
  refine Ev_getI rfl rfl ?_
  refine Ev_norm (v := 0) (by decide +kernel) ?_
  refine Ev_const rfl ?_
  refine Ev_iadd rfl ?_
  refine Ev_norm (v := 1) (by decide) ?_
  refine Ev_putI rfl rfl ⟨rfl, rfl⟩ rfl ?_
  refine Ev_st (ρ' := r51) (σ' := s51) rfl rfl ?_
  exact Ev_return rfl rfl rfl ⟨rfl, rfl, rfl⟩
set_option maxRecDepth 20000 in
theorem k6 (d : Nat) : T l X (d + 1) 70 [.ref 12, .int 9] 17 17 r49 s49 (Ru r51 s51) := by
  refine T_of rfl ?_
  refine Ev_aload rfl rfl rfl ?_
  refine Ev_iload rfl rfl ?_
  refine Ev_const rfl ?_
  refine Ev_ishl rfl ?_
  refine Ev_norm (v := 2304) (by decide) ?_
  refine Ev_const rfl ?_
  refine Ev_ior rfl ?_
  refine Ev_norm (v := 2336) (by decide) ?_
  refine Ev_callV rfl rfl rfl rfl rfl ⟨by decide, by decide, by decide⟩ (k5 d) ?_
  rintro v ρ' σ' ⟨rfl, rfl, rfl⟩
  exact Ev_return rfl rfl rfl ⟨rfl, rfl, rfl⟩
set_option maxRecDepth 20000 in
theorem k7 (d : Nat) : T l X (d + 2) 9 [.ref 2, .int 0] 17 17 r49 s49 (Ru r51 s51) := by
  refine T_of rfl ?_
  refine Ev_iload rfl rfl ?_
  refine Ev_tab rfl rfl ⟨fun _ => ?_, fun h => absurd (by decide) h⟩
  refine Ev_aload rfl rfl rfl ?_
  refine Ev_getR (k' := 12) rfl rfl (by decide +kernel) ?_
  refine Ev_const rfl ?_
  refine Ev_callV rfl rfl rfl rfl rfl ⟨by decide, by decide, by decide⟩ (k6 d) ?_
  rintro v ρ' σ' ⟨rfl, rfl, rfl⟩
  refine Ev_goto rfl ?_
  exact Ev_return rfl rfl rfl ⟨rfl, rfl, rfl⟩
set_option maxRecDepth 20000 in
theorem k8 (d : Nat) : T l X (d + 0) 68 [.ref 12, .int 0] 17 17 r51 s51 (Ru r52 s52) := by
  refine T_of rfl ?_
  refine Ev_aload rfl rfl rfl ?_
  refine Ev_getR (k' := 15) rfl rfl (by decide +kernel) ?_
  refine Ev_iload rfl rfl ?_
  refine Ev_aload rfl rfl rfl ?_
  refine Ev_getI rfl rfl ?_
  refine Ev_norm (v := 1) (by decide +kernel) ?_
  refine Ev_iast rfl rfl (by unfold vp_in; decide) ?_
  refine Ev_st (ρ' := r52) (σ' := s52) rfl rfl ?_
  exact Ev_return rfl rfl rfl ⟨rfl, rfl, rfl⟩
set_option maxRecDepth 20000 in
theorem k9 (d : Nat) : T l X (d + 0) 66 [.ref 12, .int 1] 17 17 r52 s52 (Re (.int 0) r52 s52) := by
  refine T_of rfl ?_
  refine Ev_aload rfl rfl rfl ?_
  refine Ev_getR (k' := 14) rfl rfl (by decide +kernel) ?_
  refine Ev_iload rfl rfl ?_
  refine Ev_iald rfl rfl (by unfold vp_in; decide) ?_
  refine Ev_norm (v := (-1)) (by decide +kernel) ?_
  refine Ev_const rfl ?_
  refine Ev_icmp_eq rfl (fun _ => ?_) (fun h => absurd (by decide) h)
  refine Ev_const rfl ?_
  exact Ev_ireturn rfl rfl (by decide) rfl ⟨rfl, rfl, rfl⟩
set_option maxRecDepth 20000 in
theorem k10 (d : Nat) : T l X (d + 0) 67 [.ref 12, .int 1] 17 17 r52 s52 (Ru r53 s53) := by
  refine T_of rfl ?_
  refine Ev_aload rfl rfl rfl ?_
  refine Ev_getR (k' := 14) rfl rfl (by decide +kernel) ?_
  refine Ev_iload rfl rfl ?_
  refine Ev_aload rfl rfl rfl ?_
  refine Ev_getI rfl rfl ?_
  refine Ev_norm (v := 1) (by decide +kernel) ?_
  refine Ev_iast rfl rfl (by unfold vp_in; decide) ?_
  refine Ev_st (ρ' := r53) (σ' := s53) rfl rfl ?_
  exact Ev_return rfl rfl rfl ⟨rfl, rfl, rfl⟩
set_option maxRecDepth 20000 in
theorem k11 (d : Nat) : T l X (d + 0) 69 [.ref 12, .int 5152] 17 17 r53 s53 (Ru r55 s55) := by
  refine T_of rfl ?_
  refine Ev_aload rfl rfl rfl ?_
  refine Ev_getI rfl rfl ?_
  refine Ev_norm (v := 1) (by decide +kernel) ?_
  refine Ev_const rfl ?_
  refine Ev_icmp_ge rfl (fun h => absurd h (by decide)) (fun _ => ?_)
  refine Ev_aload rfl rfl rfl ?_
  refine Ev_getR (k' := 13) rfl rfl (by decide +kernel) ?_
  refine Ev_aload rfl rfl rfl ?_
  refine Ev_getI rfl rfl ?_
  refine Ev_norm (v := 1) (by decide +kernel) ?_
  refine Ev_iload rfl rfl ?_
  refine Ev_iast rfl rfl (by unfold vp_in; decide) ?_
  refine Ev_st (ρ' := r54) (σ' := s54) rfl rfl ?_
  refine Ev_aload rfl rfl rfl ?_
  refine Ev_dup rfl (fun _ q => nomatch q) ?_
  refine Ev_getI rfl rfl ?_
  refine Ev_norm (v := 1) (by decide +kernel) ?_
  refine Ev_const rfl ?_
  refine Ev_iadd rfl ?_
  refine Ev_norm (v := 2) (by decide) ?_
  refine Ev_putI rfl rfl ⟨rfl, rfl⟩ rfl ?_
  refine Ev_st (ρ' := r55) (σ' := s55) rfl rfl ?_
  exact Ev_return rfl rfl rfl ⟨rfl, rfl, rfl⟩
set_option maxRecDepth 20000 in
theorem k12 (d : Nat) : T l X (d + 1) 70 [.ref 12, .int 20] 17 17 r53 s53 (Ru r55 s55) := by
  refine T_of rfl ?_
  refine Ev_aload rfl rfl rfl ?_
  refine Ev_iload rfl rfl ?_
  refine Ev_const rfl ?_
  refine Ev_ishl rfl ?_
  refine Ev_norm (v := 5120) (by decide) ?_
  refine Ev_const rfl ?_
  refine Ev_ior rfl ?_
  refine Ev_norm (v := 5152) (by decide) ?_
  refine Ev_callV rfl rfl rfl rfl rfl ⟨by decide, by decide, by decide⟩ (k11 d) ?_
  rintro v ρ' σ' ⟨rfl, rfl, rfl⟩
  exact Ev_return rfl rfl rfl ⟨rfl, rfl, rfl⟩
set_option maxRecDepth 20000 in
theorem k13 (d : Nat) : T l X (d + 0) 69 [.ref 12, .int 2] 17 17 r55 s55 (Ru r57 s57) := by
  refine T_of rfl ?_
  refine Ev_aload rfl rfl rfl ?_
  refine Ev_getI rfl rfl ?_
  refine Ev_norm (v := 2) (by decide +kernel) ?_
  refine Ev_const rfl ?_
  refine Ev_icmp_ge rfl (fun h => absurd h (by decide)) (fun _ => ?_)
  refine Ev_aload rfl rfl rfl ?_
  refine Ev_getR (k' := 13) rfl rfl (by decide +kernel) ?_
  refine Ev_aload rfl rfl rfl ?_
  refine Ev_getI rfl rfl ?_
  refine Ev_norm (v := 2) (by decide +kernel) ?_
  refine Ev_iload rfl rfl ?_
  refine Ev_iast rfl rfl (by unfold vp_in; decide) ?_
  refine Ev_st (ρ' := r56) (σ' := s56) rfl rfl ?_
  refine Ev_aload rfl rfl rfl ?_
  refine Ev_dup rfl (fun _ q => nomatch q) ?_
  refine Ev_getI rfl rfl ?_
  refine Ev_norm (v := 2) (by decide +kernel) ?_
  refine Ev_const rfl ?_
  refine Ev_iadd rfl ?_
  refine Ev_norm (v := 3) (by decide) ?_
  refine Ev_putI rfl rfl ⟨rfl, rfl⟩ rfl ?_
  refine Ev_st (ρ' := r57) (σ' := s57) rfl rfl ?_
  exact Ev_return rfl rfl rfl ⟨rfl, rfl, rfl⟩
set_option maxRecDepth 20000 in
theorem k14 (d : Nat) : T l X (d + 0) 69 [.ref 12, .int 1312] 17 17 r57 s57 (Ru r59 s59) := by
  refine T_of rfl ?_
  refine Ev_aload rfl rfl rfl ?_
  refine Ev_getI rfl rfl ?_
  refine Ev_norm (v := 3) (by decide +kernel) ?_
  refine Ev_const rfl ?_
  refine Ev_icmp_ge rfl (fun h => absurd h (by decide)) (fun _ => ?_)
  refine Ev_aload rfl rfl rfl ?_
  refine Ev_getR (k' := 13) rfl rfl (by decide +kernel) ?_
  refine Ev_aload rfl rfl rfl ?_
  refine Ev_getI rfl rfl ?_
  refine Ev_norm (v := 3) (by decide +kernel) ?_
  refine Ev_iload rfl rfl ?_
  refine Ev_iast rfl rfl (by unfold vp_in; decide) ?_
  refine Ev_st (ρ' := r58) (σ' := s58) rfl rfl ?_
  refine Ev_aload rfl rfl rfl ?_
  refine Ev_dup rfl (fun _ q => nomatch q) ?_
  refine Ev_getI rfl rfl ?_
  refine Ev_norm (v := 3) (by decide +kernel) ?_
  refine Ev_const rfl ?_
  refine Ev_iadd rfl ?_
  refine Ev_norm (v := 4) (by decide) ?_
  refine Ev_putI rfl rfl ⟨rfl, rfl⟩ rfl ?_
  refine Ev_st (ρ' := r59) (σ' := s59) rfl rfl ?_
  exact Ev_return rfl rfl rfl ⟨rfl, rfl, rfl⟩
set_option maxRecDepth 20000 in
theorem k15 (d : Nat) : T l X (d + 1) 70 [.ref 12, .int 5] 17 17 r57 s57 (Ru r59 s59) := by
  refine T_of rfl ?_
  refine Ev_aload rfl rfl rfl ?_
  refine Ev_iload rfl rfl ?_
  refine Ev_const rfl ?_
  refine Ev_ishl rfl ?_
  refine Ev_norm (v := 1280) (by decide) ?_
  refine Ev_const rfl ?_
  refine Ev_ior rfl ?_
  refine Ev_norm (v := 1312) (by decide) ?_
  refine Ev_callV rfl rfl rfl rfl rfl ⟨by decide, by decide, by decide⟩ (k14 d) ?_
  rintro v ρ' σ' ⟨rfl, rfl, rfl⟩
  exact Ev_return rfl rfl rfl ⟨rfl, rfl, rfl⟩
set_option maxRecDepth 20000 in
theorem k16 (d : Nat) : T l X (d + 0) 69 [.ref 12, .int 38] 17 17 r59 s59 (Ru r61 s61) := by
  refine T_of rfl ?_
  refine Ev_aload rfl rfl rfl ?_
  refine Ev_getI rfl rfl ?_
  refine Ev_norm (v := 4) (by decide +kernel) ?_
  refine Ev_const rfl ?_
  refine Ev_icmp_ge rfl (fun h => absurd h (by decide)) (fun _ => ?_)
  refine Ev_aload rfl rfl rfl ?_
  refine Ev_getR (k' := 13) rfl rfl (by decide +kernel) ?_
  refine Ev_aload rfl rfl rfl ?_
  refine Ev_getI rfl rfl ?_
  refine Ev_norm (v := 4) (by decide +kernel) ?_
  refine Ev_iload rfl rfl ?_
  refine Ev_iast rfl rfl (by unfold vp_in; decide) ?_
  refine Ev_st (ρ' := r60) (σ' := s60) rfl rfl ?_
  refine Ev_aload rfl rfl rfl ?_
  refine Ev_dup rfl (fun _ q => nomatch q) ?_
  refine Ev_getI rfl rfl ?_
  refine Ev_norm (v := 4) (by decide +kernel) ?_
  refine Ev_const rfl ?_
  refine Ev_iadd rfl ?_
  refine Ev_norm (v := 5) (by decide) ?_
  refine Ev_putI rfl rfl ⟨rfl, rfl⟩ rfl ?_
  refine Ev_st (ρ' := r61) (σ' := s61) rfl rfl ?_
  exact Ev_return rfl rfl rfl ⟨rfl, rfl, rfl⟩
set_option maxRecDepth 20000 in
theorem k17 (d : Nat) : T l X (d + 0) 69 [.ref 12, .int 36] 17 17 r61 s61 (Ru r63 s63) := by
  refine T_of rfl ?_
  refine Ev_aload rfl rfl rfl ?_
  refine Ev_getI rfl rfl ?_
  refine Ev_norm (v := 5) (by decide +kernel) ?_
  refine Ev_const rfl ?_
  refine Ev_icmp_ge rfl (fun h => absurd h (by decide)) (fun _ => ?_)
  refine Ev_aload rfl rfl rfl ?_
  refine Ev_getR (k' := 13) rfl rfl (by decide +kernel) ?_
  refine Ev_aload rfl rfl rfl ?_
  refine Ev_getI rfl rfl ?_
  refine Ev_norm (v := 5) (by decide +kernel) ?_
  refine Ev_iload rfl rfl ?_
  refine Ev_iast rfl rfl (by unfold vp_in; decide) ?_
  refine Ev_st (ρ' := r62) (σ' := s62) rfl rfl ?_
  refine Ev_aload rfl rfl rfl ?_
  refine Ev_dup rfl (fun _ q => nomatch q) ?_
  refine Ev_getI rfl rfl ?_
  refine Ev_norm (v := 5) (by decide +kernel) ?_
  refine Ev_const rfl ?_
  refine Ev_iadd rfl ?_
  refine Ev_norm (v := 6) (by decide) ?_
  refine Ev_putI rfl rfl ⟨rfl, rfl⟩ rfl ?_
  refine Ev_st (ρ' := r63) (σ' := s63) rfl rfl ?_
  exact Ev_return rfl rfl rfl ⟨rfl, rfl, rfl⟩
set_option maxRecDepth 20000 in
theorem k18 (d : Nat) : T l X (d + 0) 69 [.ref 12, .int 1] 17 17 r63 s63 (Ru r65 s65) := by
  refine T_of rfl ?_
  refine Ev_aload rfl rfl rfl ?_
  refine Ev_getI rfl rfl ?_
  refine Ev_norm (v := 6) (by decide +kernel) ?_
  refine Ev_const rfl ?_
  refine Ev_icmp_ge rfl (fun h => absurd h (by decide)) (fun _ => ?_)
  refine Ev_aload rfl rfl rfl ?_
  refine Ev_getR (k' := 13) rfl rfl (by decide +kernel) ?_
  refine Ev_aload rfl rfl rfl ?_
  refine Ev_getI rfl rfl ?_
  refine Ev_norm (v := 6) (by decide +kernel) ?_
  refine Ev_iload rfl rfl ?_
  refine Ev_iast rfl rfl (by unfold vp_in; decide) ?_
  refine Ev_st (ρ' := r64) (σ' := s64) rfl rfl ?_
  refine Ev_aload rfl rfl rfl ?_
  refine Ev_dup rfl (fun _ q => nomatch q) ?_
  refine Ev_getI rfl rfl ?_
  refine Ev_norm (v := 6) (by decide +kernel) ?_
  refine Ev_const rfl ?_
  refine Ev_iadd rfl ?_
  refine Ev_norm (v := 7) (by decide) ?_
  refine Ev_putI rfl rfl ⟨rfl, rfl⟩ rfl ?_
  refine Ev_st (ρ' := r65) (σ' := s65) rfl rfl ?_
  exact Ev_return rfl rfl rfl ⟨rfl, rfl, rfl⟩
set_option maxRecDepth 20000 in
theorem k19 (d : Nat) : T l X (d + 0) 69 [.ref 12, .int 37] 17 17 r65 s65 (Ru r67 s67) := by
  refine T_of rfl ?_
  refine Ev_aload rfl rfl rfl ?_
  refine Ev_getI rfl rfl ?_
  refine Ev_norm (v := 7) (by decide +kernel) ?_
  refine Ev_const rfl ?_
  refine Ev_icmp_ge rfl (fun h => absurd h (by decide)) (fun _ => ?_)
  refine Ev_aload rfl rfl rfl ?_
  refine Ev_getR (k' := 13) rfl rfl (by decide +kernel) ?_
  refine Ev_aload rfl rfl rfl ?_
  refine Ev_getI rfl rfl ?_
  refine Ev_norm (v := 7) (by decide +kernel) ?_
  refine Ev_iload rfl rfl ?_
  refine Ev_iast rfl rfl (by unfold vp_in; decide) ?_
  refine Ev_st (ρ' := r66) (σ' := s66) rfl rfl ?_
  refine Ev_aload rfl rfl rfl ?_
  refine Ev_dup rfl (fun _ q => nomatch q) ?_
  refine Ev_getI rfl rfl ?_
  refine Ev_norm (v := 7) (by decide +kernel) ?_
  refine Ev_const rfl ?_
  refine Ev_iadd rfl ?_
  refine Ev_norm (v := 8) (by decide) ?_
  refine Ev_putI rfl rfl ⟨rfl, rfl⟩ rfl ?_
  refine Ev_st (ρ' := r67) (σ' := s67) rfl rfl ?_
  exact Ev_return rfl rfl rfl ⟨rfl, rfl, rfl⟩
set_option maxRecDepth 20000 in
theorem k20 (d : Nat) : T l X (d + 2) 9 [.ref 2, .int 1] 17 17 r53 s53 (Ru r67 s67) := by
  refine T_of rfl ?_
  refine Ev_iload rfl rfl ?_
  refine Ev_tab rfl rfl ⟨fun h => absurd h (by decide), fun _ => ⟨fun _ => ?_, fun h => absurd (by decide) h⟩⟩
  refine Ev_aload rfl rfl rfl ?_
  refine Ev_getR (k' := 12) rfl rfl (by decide +kernel) ?_
  refine Ev_const rfl ?_
  refine Ev_callV rfl rfl rfl rfl rfl ⟨by decide, by decide, by decide⟩ (k12 d) ?_
  rintro v ρ' σ' ⟨rfl, rfl, rfl⟩
  refine Ev_aload rfl rfl rfl ?_
  refine Ev_getR (k' := 12) rfl rfl (by decide +kernel) ?_
  refine Ev_const rfl ?_
  refine Ev_callV rfl rfl rfl rfl rfl ⟨by decide, by decide, by decide⟩ (k13 (d + 1)) ?_
  rintro v ρ' σ' ⟨rfl, rfl, rfl⟩
  refine Ev_aload rfl rfl rfl ?_
  refine Ev_getR (k' := 12) rfl rfl (by decide +kernel) ?_
  refine Ev_const rfl ?_
  refine Ev_callV rfl rfl rfl rfl rfl ⟨by decide, by decide, by decide⟩ (k15 d) ?_
  rintro v ρ' σ' ⟨rfl, rfl, rfl⟩
  refine Ev_aload rfl rfl rfl ?_
  refine Ev_getR (k' := 12) rfl rfl (by decide +kernel) ?_
  refine Ev_const rfl ?_
  refine Ev_callV rfl rfl rfl rfl rfl ⟨by decide, by decide, by decide⟩ (k16 (d + 1)) ?_
  rintro v ρ' σ' ⟨rfl, rfl, rfl⟩
  refine Ev_aload rfl rfl rfl ?_
  refine Ev_getR (k' := 12) rfl rfl (by decide +kernel) ?_
  refine Ev_const rfl ?_
  refine Ev_callV rfl rfl rfl rfl rfl ⟨by decide, by decide, by decide⟩ (k17 (d + 1)) ?_
  rintro v ρ' σ' ⟨rfl, rfl, rfl⟩
  refine Ev_aload rfl rfl rfl ?_
  refine Ev_getR (k' := 12) rfl rfl (by decide +kernel) ?_
  refine Ev_const rfl ?_
  refine Ev_callV rfl rfl rfl rfl rfl ⟨by decide, by decide, by decide⟩ (k18 (d + 1)) ?_
  rintro v ρ' σ' ⟨rfl, rfl, rfl⟩
  refine Ev_aload rfl rfl rfl ?_
  refine Ev_getR (k' := 12) rfl rfl (by decide +kernel) ?_
  refine Ev_const rfl ?_
  refine Ev_callV rfl rfl rfl rfl rfl ⟨by decide, by decide, by decide⟩ (k19 (d + 1)) ?_
  rintro v ρ' σ' ⟨rfl, rfl, rfl⟩
  refine Ev_goto rfl ?_
  exact Ev_return rfl rfl rfl ⟨rfl, rfl, rfl⟩
set_option maxRecDepth 20000 in
theorem k21 (d : Nat) : T l X (d + 0) 68 [.ref 12, .int 1] 17 17 r67 s67 (Ru r68 s68) := by
  refine T_of rfl ?_
  refine Ev_aload rfl rfl rfl ?_
  refine Ev_getR (k' := 15) rfl rfl (by decide +kernel) ?_
  refine Ev_iload rfl rfl ?_
  refine Ev_aload rfl rfl rfl ?_
  refine Ev_getI rfl rfl ?_
  refine Ev_norm (v := 8) (by decide +kernel) ?_
  refine Ev_iast rfl rfl (by unfold vp_in; decide) ?_
  refine Ev_st (ρ' := r68) (σ' := s68) rfl rfl ?_
  exact Ev_return rfl rfl rfl ⟨rfl, rfl, rfl⟩
set_option maxRecDepth 20000 in
theorem k22 (d : Nat) : T l X (d + 0) 66 [.ref 12, .int 2] 17 17 r68 s68 (Re (.int 0) r68 s68) := by
  refine T_of rfl ?_
  refine Ev_aload rfl rfl rfl ?_
  refine Ev_getR (k' := 14) rfl rfl (by decide +kernel) ?_
  refine Ev_iload rfl rfl ?_
  refine Ev_iald rfl rfl (by unfold vp_in; decide) ?_
  refine Ev_norm (v := (-1)) (by decide +kernel) ?_
  refine Ev_const rfl ?_
  refine Ev_icmp_eq rfl (fun _ => ?_) (fun h => absurd (by decide) h)
  refine Ev_const rfl ?_
  exact Ev_ireturn rfl rfl (by decide) rfl ⟨rfl, rfl, rfl⟩
set_option maxRecDepth 20000 in
theorem k23 (d : Nat) : T l X (d + 0) 67 [.ref 12, .int 2] 17 17 r68 s68 (Ru r69 s69) := by
  refine T_of rfl ?_
  refine Ev_aload rfl rfl rfl ?_
  refine Ev_getR (k' := 14) rfl rfl (by decide +kernel) ?_
  refine Ev_iload rfl rfl ?_
  refine Ev_aload rfl rfl rfl ?_
  refine Ev_getI rfl rfl ?_
  refine Ev_norm (v := 8) (by decide +kernel) ?_
  refine Ev_iast rfl rfl (by unfold vp_in; decide) ?_
  refine Ev_st (ρ' := r69) (σ' := s69) rfl rfl ?_
  exact Ev_return rfl rfl rfl ⟨rfl, rfl, rfl⟩
set_option maxRecDepth 20000 in
theorem k24 (d : Nat) : T l X (d + 0) 69 [.ref 12, .int 6] 17 17 r69 s69 (Ru r71 s71) := by
  refine T_of rfl ?_
  refine Ev_aload rfl rfl rfl ?_
  refine Ev_getI rfl rfl ?_
  refine Ev_norm (v := 8) (by decide +kernel) ?_
  refine Ev_const rfl ?_
  refine Ev_icmp_ge rfl (fun h => absurd h (by decide)) (fun _ => ?_)
  refine Ev_aload rfl rfl rfl ?_
  refine Ev_getR (k' := 13) rfl rfl (by decide +kernel) ?_
  refine Ev_aload rfl rfl rfl ?_
  refine Ev_getI rfl rfl ?_
  refine Ev_norm (v := 8) (by decide +kernel) ?_
  refine Ev_iload rfl rfl ?_
  refine Ev_iast rfl rfl (by unfold vp_in; decide) ?_
  refine Ev_st (ρ' := r70) (σ' := s70) rfl rfl ?_
  refine Ev_aload rfl rfl rfl ?_
  refine Ev_dup rfl (fun _ q => nomatch q) ?_
  refine Ev_getI rfl rfl ?_
  refine Ev_norm (v := 8) (by decide +kernel) ?_
  refine Ev_const rfl ?_
  refine Ev_iadd rfl ?_
  refine Ev_norm (v := 9) (by decide) ?_
  refine Ev_putI rfl rfl ⟨rfl, rfl⟩ rfl ?_
  refine Ev_st (ρ' := r71) (σ' := s71) rfl rfl ?_
  exact Ev_return rfl rfl rfl ⟨rfl, rfl, rfl⟩
set_option maxRecDepth 20000 in
theorem k25 (d : Nat) : T l X (d + 0) 69 [.ref 12, .int 288] 17 17 r71 s71 (Ru r73 s73) := by
  refine T_of rfl ?_
  refine Ev_aload rfl rfl rfl ?_
  refine Ev_getI rfl rfl ?_
  refine Ev_norm (v := 9) (by decide +kernel) ?_
  refine Ev_const rfl ?_
  refine Ev_icmp_ge rfl (fun h => absurd h (by decide)) (fun _ => ?_)
  refine Ev_aload rfl rfl rfl ?_
  refine Ev_getR (k' := 13) rfl rfl (by decide +kernel) ?_
  refine Ev_aload rfl rfl rfl ?_
  refine Ev_getI rfl rfl ?_
  refine Ev_norm (v := 9) (by decide +kernel) ?_
  refine Ev_iload rfl rfl ?_
  refine Ev_iast rfl rfl (by unfold vp_in; decide) ?_
  refine Ev_st (ρ' := r72) (σ' := s72) rfl rfl ?_
  refine Ev_aload rfl rfl rfl ?_
  refine Ev_dup rfl (fun _ q => nomatch q) ?_
  refine Ev_getI rfl rfl ?_
  refine Ev_norm (v := 9) (by decide +kernel) ?_
  refine Ev_const rfl ?_
  refine Ev_iadd rfl ?_
  refine Ev_norm (v := 10) (by decide) ?_
  refine Ev_putI rfl rfl ⟨rfl, rfl⟩ rfl ?_
  refine Ev_st (ρ' := r73) (σ' := s73) rfl rfl ?_
  exact Ev_return rfl rfl rfl ⟨rfl, rfl, rfl⟩
set_option maxRecDepth 20000 in
theorem k26 (d : Nat) : T l X (d + 1) 70 [.ref 12, .int 1] 17 17 r71 s71 (Ru r73 s73) := by
  refine T_of rfl ?_
  refine Ev_aload rfl rfl rfl ?_
  refine Ev_iload rfl rfl ?_
  refine Ev_const rfl ?_
  refine Ev_ishl rfl ?_
  refine Ev_norm (v := 256) (by decide) ?_
  refine Ev_const rfl ?_
  refine Ev_ior rfl ?_
  refine Ev_norm (v := 288) (by decide) ?_
  refine Ev_callV rfl rfl rfl rfl rfl ⟨by decide, by decide, by decide⟩ (k25 d) ?_
  rintro v ρ' σ' ⟨rfl, rfl, rfl⟩
  exact Ev_return rfl rfl rfl ⟨rfl, rfl, rfl⟩
set_option maxRecDepth 20000 in
theorem k27 (d : Nat) : T l X (d + 0) 69 [.ref 12, .int 37] 17 17 r73 s73 (Ru r75 s75) := by
  refine T_of rfl ?_
  refine Ev_aload rfl rfl rfl ?_
  refine Ev_getI rfl rfl ?_
  refine Ev_norm (v := 10) (by decide +kernel) ?_
  refine Ev_const rfl ?_
  refine Ev_icmp_ge rfl (fun h => absurd h (by decide)) (fun _ => ?_)
  refine Ev_aload rfl rfl rfl ?_
  refine Ev_getR (k' := 13) rfl rfl (by decide +kernel) ?_
  refine Ev_aload rfl rfl rfl ?_
  refine Ev_getI rfl rfl ?_
  refine Ev_norm (v := 10) (by decide +kernel) ?_
  refine Ev_iload rfl rfl ?_
  refine Ev_iast rfl rfl (by unfold vp_in; decide) ?_
  refine Ev_st (ρ' := r74) (σ' := s74) rfl rfl ?_
  refine Ev_aload rfl rfl rfl ?_
  refine Ev_dup rfl (fun _ q => nomatch q) ?_
  refine Ev_getI rfl rfl ?_
  refine Ev_norm (v := 10) (by decide +kernel) ?_
  refine Ev_const rfl ?_
  refine Ev_iadd rfl ?_
  refine Ev_norm (v := 11) (by decide) ?_
  refine Ev_putI rfl rfl ⟨rfl, rfl⟩ rfl ?_
  refine Ev_st (ρ' := r75) (σ' := s75) rfl rfl ?_
  exact Ev_return rfl rfl rfl ⟨rfl, rfl, rfl⟩
set_option maxRecDepth 20000 in
theorem k28 (d : Nat) : T l X (d + 2) 9 [.ref 2, .int 2] 17 17 r69 s69 (Ru r75 s75) := by
  refine T_of rfl ?_
  refine Ev_iload rfl rfl ?_
  refine Ev_tab rfl rfl ⟨fun h => absurd h (by decide), fun _ => ⟨fun h => absurd h (by decide), fun _ => ⟨fun _ => ?_, fun h => absurd (by decide) h⟩⟩⟩
  refine Ev_aload rfl rfl rfl ?_
  refine Ev_getR (k' := 12) rfl rfl (by decide +kernel) ?_
  refine Ev_const rfl ?_
  refine Ev_callV rfl rfl rfl rfl rfl ⟨by decide, by decide, by decide⟩ (k24 (d + 1)) ?_
  rintro v ρ' σ' ⟨rfl, rfl, rfl⟩
  refine Ev_aload rfl rfl rfl ?_
  refine Ev_getR (k' := 12) rfl rfl (by decide +kernel) ?_
  refine Ev_const rfl ?_
  refine Ev_callV rfl rfl rfl rfl rfl ⟨by decide, by decide, by decide⟩ (k26 d) ?_
  rintro v ρ' σ' ⟨rfl, rfl, rfl⟩
  refine Ev_aload rfl rfl rfl ?_
  refine Ev_getR (k' := 12) rfl rfl (by decide +kernel) ?_
  refine Ev_const rfl ?_
  refine Ev_callV rfl rfl rfl rfl rfl ⟨by decide, by decide, by decide⟩ (k27 (d + 1)) ?_
  rintro v ρ' σ' ⟨rfl, rfl, rfl⟩
  refine Ev_goto rfl ?_
  exact Ev_return rfl rfl rfl ⟨rfl, rfl, rfl⟩
set_option maxRecDepth 20000 in
theorem k29 (d : Nat) : T l X (d + 0) 68 [.ref 12, .int 2] 17 17 r75 s75 (Ru r76 s76) := by
  refine T_of rfl ?_
  refine Ev_aload rfl rfl rfl ?_
  refine Ev_getR (k' := 15) rfl rfl (by decide +kernel) ?_
  refine Ev_iload rfl rfl ?_
  refine Ev_aload rfl rfl rfl ?_
  refine Ev_getI rfl rfl ?_
  refine Ev_norm (v := 11) (by decide +kernel) ?_
  refine Ev_iast rfl rfl (by unfold vp_in; decide) ?_
  refine Ev_st (ρ' := r76) (σ' := s76) rfl rfl ?_
  exact Ev_return rfl rfl rfl ⟨rfl, rfl, rfl⟩
set_option maxRecDepth 20000 in
theorem k30 (d : Nat) : T l X (d + 0) 66 [.ref 12, .int 3] 17 17 r76 s76 (Re (.int 0) r76 s76) := by
  refine T_of rfl ?_
  refine Ev_aload rfl rfl rfl ?_
  refine Ev_getR (k' := 14) rfl rfl (by decide +kernel) ?_
  refine Ev_iload rfl rfl ?_
  refine Ev_iald rfl rfl (by unfold vp_in; decide) ?_
  refine Ev_norm (v := (-1)) (by decide +kernel) ?_
  refine Ev_const rfl ?_
  refine Ev_icmp_eq rfl (fun _ => ?_) (fun h => absurd (by decide) h)
  refine Ev_const rfl ?_
  exact Ev_ireturn rfl rfl (by decide) rfl ⟨rfl, rfl, rfl⟩
set_option maxRecDepth 20000 in
theorem k31 (d : Nat) : T l X (d + 0) 67 [.ref 12, .int 3] 17 17 r76 s76 (Ru r77 s77) := by
  refine T_of rfl ?_
  refine Ev_aload rfl rfl rfl ?_
  refine Ev_getR (k' := 14) rfl rfl (by decide +kernel) ?_
  refine Ev_iload rfl rfl ?_
  refine Ev_aload rfl rfl rfl ?_
  refine Ev_getI rfl rfl ?_
  refine Ev_norm (v := 11) (by decide +kernel) ?_
  refine Ev_iast rfl rfl (by unfold vp_in; decide) ?_
  refine Ev_st (ρ' := r77) (σ' := s77) rfl rfl ?_
  exact Ev_return rfl rfl rfl ⟨rfl, rfl, rfl⟩
set_option maxRecDepth 20000 in
theorem k32 (d : Nat) : T l X (d + 0) 69 [.ref 12, .int 288] 17 17 r77 s77 (Ru r79 s79) := by
  refine T_of rfl ?_
  refine Ev_aload rfl rfl rfl ?_
  refine Ev_getI rfl rfl ?_
  refine Ev_norm (v := 11) (by decide +kernel) ?_
  refine Ev_const rfl ?_
  refine Ev_icmp_ge rfl (fun h => absurd h (by decide)) (fun _ => ?_)
  refine Ev_aload rfl rfl rfl ?_
  refine Ev_getR (k' := 13) rfl rfl (by decide +kernel) ?_
  refine Ev_aload rfl rfl rfl ?_
  refine Ev_getI rfl rfl ?_
  refine Ev_norm (v := 11) (by decide +kernel) ?_
  refine Ev_iload rfl rfl ?_
  refine Ev_iast rfl rfl (by unfold vp_in; decide) ?_
  refine Ev_st (ρ' := r78) (σ' := s78) rfl rfl ?_
  refine Ev_aload rfl rfl rfl ?_
  refine Ev_dup rfl (fun _ q => nomatch q) ?_
  refine Ev_getI rfl rfl ?_
  refine Ev_norm (v := 11) (by decide +kernel) ?_
  refine Ev_const rfl ?_
  refine Ev_iadd rfl ?_
  refine Ev_norm (v := 12) (by decide) ?_
  refine Ev_putI rfl rfl ⟨rfl, rfl⟩ rfl ?_
  refine Ev_st (ρ' := r79) (σ' := s79) rfl rfl ?_
  exact Ev_return rfl rfl rfl ⟨rfl, rfl, rfl⟩
set_option maxRecDepth 20000 in
theorem k33 (d : Nat) : T l X (d + 1) 70 [.ref 12, .int 1] 17 17 r77 s77 (Ru r79 s79) := by
  refine T_of rfl ?_
  refine Ev_aload rfl rfl rfl ?_
  refine Ev_iload rfl rfl ?_
  refine Ev_const rfl ?_
  refine Ev_ishl rfl ?_
  refine Ev_norm (v := 256) (by decide) ?_
  refine Ev_const rfl ?_
  refine Ev_ior rfl ?_
  refine Ev_norm (v := 288) (by decide) ?_
  refine Ev_callV rfl rfl rfl rfl rfl ⟨by decide, by decide, by decide⟩ (k32 d) ?_
  rintro v ρ' σ' ⟨rfl, rfl, rfl⟩
  exact Ev_return rfl rfl rfl ⟨rfl, rfl, rfl⟩
set_option maxRecDepth 20000 in
theorem k34 (d : Nat) : T l X (d + 2) 9 [.ref 2, .int 3] 17 17 r77 s77 (Ru r79 s79) := by
  refine T_of rfl ?_
  refine Ev_iload rfl rfl ?_
  refine Ev_tab rfl rfl ⟨fun h => absurd h (by decide), fun _ => ⟨fun h => absurd h (by decide), fun _ => ⟨fun h => absurd h (by decide), fun _ => ?_⟩⟩⟩
  refine Ev_aload rfl rfl rfl ?_
  refine Ev_getR (k' := 12) rfl rfl (by decide +kernel) ?_
  refine Ev_const rfl ?_
  refine Ev_callV rfl rfl rfl rfl rfl ⟨by decide, by decide, by decide⟩ (k33 d) ?_
  rintro v ρ' σ' ⟨rfl, rfl, rfl⟩
  exact Ev_return rfl rfl rfl ⟨rfl, rfl, rfl⟩
set_option maxRecDepth 20000 in
theorem k35 (d : Nat) : T l X (d + 0) 68 [.ref 12, .int 3] 17 17 r79 s79 (Ru r80 s80) := by
  refine T_of rfl ?_
  refine Ev_aload rfl rfl rfl ?_
  refine Ev_getR (k' := 15) rfl rfl (by decide +kernel) ?_
  refine Ev_iload rfl rfl ?_
  refine Ev_aload rfl rfl rfl ?_
  refine Ev_getI rfl rfl ?_
  refine Ev_norm (v := 12) (by decide +kernel) ?_
  refine Ev_iast rfl rfl (by unfold vp_in; decide) ?_
  refine Ev_st (ρ' := r80) (σ' := s80) rfl rfl ?_
  exact Ev_return rfl rfl rfl ⟨rfl, rfl, rfl⟩
set_option maxRecDepth 20000 in
theorem k36 (d : Nat) : T l X (d + 3) 8 [.ref 2] 17 17 r48 s48 (Ru r80 s80) := by
  refine T_of rfl ?_
  refine Ev_const rfl ?_
  refine Ev_istore rfl ?_
  refine Ev_iload rfl rfl ?_
  refine Ev_aload rfl rfl rfl ?_
  refine Ev_getI rfl rfl ?_
  refine Ev_norm (v := 0) (by decide +kernel) ?_
  refine Ev_icmp_ge rfl (fun _ => ?_) (fun h => absurd (by decide) h)
  refine Ev_const rfl ?_
  refine Ev_istore rfl ?_
  refine Ev_iload rfl rfl ?_
  refine Ev_const rfl ?_
  refine Ev_icmp_ge rfl (fun h => absurd h (by decide)) (fun _ => ?_)
  refine Ev_aload rfl rfl rfl ?_
  refine Ev_getR (k' := 12) rfl rfl (by decide +kernel) ?_
  refine Ev_iload rfl rfl ?_
  refine Ev_callV rfl rfl rfl rfl rfl ⟨by decide, by decide, by decide⟩ (k3 (d + 2)) ?_
  rintro v ρ' σ' ⟨rfl, rfl, rfl⟩
  refine Ev_if_ne rfl (fun h => absurd h (by decide)) (fun _ => ?_)
  refine Ev_aload rfl rfl rfl ?_
  refine Ev_getR (k' := 12) rfl rfl (by decide +kernel) ?_
  refine Ev_iload rfl rfl ?_
  refine Ev_callV rfl rfl rfl rfl rfl ⟨by decide, by decide, by decide⟩ (k4 (d + 2)) ?_
  rintro v ρ' σ' ⟨rfl, rfl, rfl⟩
  refine Ev_aload rfl rfl rfl ?_
  refine Ev_iload rfl rfl ?_
  refine Ev_callV rfl rfl rfl rfl rfl ⟨by decide, by decide, by decide⟩ (k7 d) ?_
  rintro v ρ' σ' ⟨rfl, rfl, rfl⟩
  refine Ev_aload rfl rfl rfl ?_
  refine Ev_getR (k' := 12) rfl rfl (by decide +kernel) ?_
  refine Ev_iload rfl rfl ?_
  refine Ev_callV rfl rfl rfl rfl rfl ⟨by decide, by decide, by decide⟩ (k8 (d + 2)) ?_
  rintro v ρ' σ' ⟨rfl, rfl, rfl⟩
  refine Ev_iincE (v := 1) rfl rfl (by decide) ?_
  refine Ev_goto rfl ?_
  refine Ev_iload rfl rfl ?_
  refine Ev_const rfl ?_
  refine Ev_icmp_ge rfl (fun h => absurd h (by decide)) (fun _ => ?_)
  refine Ev_aload rfl rfl rfl ?_
  refine Ev_getR (k' := 12) rfl rfl (by decide +kernel) ?_
  refine Ev_iload rfl rfl ?_
  refine Ev_callV rfl rfl rfl rfl rfl ⟨by decide, by decide, by decide⟩ (k9 (d + 2)) ?_
  rintro v ρ' σ' ⟨rfl, rfl, rfl⟩
  refine Ev_if_ne rfl (fun h => absurd h (by decide)) (fun _ => ?_)
  refine Ev_aload rfl rfl rfl ?_
  refine Ev_getR (k' := 12) rfl rfl (by decide +kernel) ?_
  refine Ev_iload rfl rfl ?_
  refine Ev_callV rfl rfl rfl rfl rfl ⟨by decide, by decide, by decide⟩ (k10 (d + 2)) ?_
  rintro v ρ' σ' ⟨rfl, rfl, rfl⟩
  refine Ev_aload rfl rfl rfl ?_
  refine Ev_iload rfl rfl ?_
  refine Ev_callV rfl rfl rfl rfl rfl ⟨by decide, by decide, by decide⟩ (k20 d) ?_
  rintro v ρ' σ' ⟨rfl, rfl, rfl⟩
  refine Ev_aload rfl rfl rfl ?_
  refine Ev_getR (k' := 12) rfl rfl (by decide +kernel) ?_
  refine Ev_iload rfl rfl ?_
  refine Ev_callV rfl rfl rfl rfl rfl ⟨by decide, by decide, by decide⟩ (k21 (d + 2)) ?_
  rintro v ρ' σ' ⟨rfl, rfl, rfl⟩
  refine Ev_iincE (v := 2) rfl rfl (by decide) ?_
  refine Ev_goto rfl ?_
  refine Ev_iload rfl rfl ?_
  refine Ev_const rfl ?_
  refine Ev_icmp_ge rfl (fun h => absurd h (by decide)) (fun _ => ?_)
  refine Ev_aload rfl rfl rfl ?_
  refine Ev_getR (k' := 12) rfl rfl (by decide +kernel) ?_
  refine Ev_iload rfl rfl ?_
  refine Ev_callV rfl rfl rfl rfl rfl ⟨by decide, by decide, by decide⟩ (k22 (d + 2)) ?_
  rintro v ρ' σ' ⟨rfl, rfl, rfl⟩
  refine Ev_if_ne rfl (fun h => absurd h (by decide)) (fun _ => ?_)
  refine Ev_aload rfl rfl rfl ?_
  refine Ev_getR (k' := 12) rfl rfl (by decide +kernel) ?_
  refine Ev_iload rfl rfl ?_
  refine Ev_callV rfl rfl rfl rfl rfl ⟨by decide, by decide, by decide⟩ (k23 (d + 2)) ?_
  rintro v ρ' σ' ⟨rfl, rfl, rfl⟩
  refine Ev_aload rfl rfl rfl ?_
  refine Ev_iload rfl rfl ?_
  refine Ev_callV rfl rfl rfl rfl rfl ⟨by decide, by decide, by decide⟩ (k28 d) ?_
  rintro v ρ' σ' ⟨rfl, rfl, rfl⟩
  refine Ev_aload rfl rfl rfl ?_
  refine Ev_getR (k' := 12) rfl rfl (by decide +kernel) ?_
  refine Ev_iload rfl rfl ?_
  refine Ev_callV rfl rfl rfl rfl rfl ⟨by decide, by decide, by decide⟩ (k29 (d + 2)) ?_
  rintro v ρ' σ' ⟨rfl, rfl, rfl⟩
  refine Ev_iincE (v := 3) rfl rfl (by decide) ?_
  refine Ev_goto rfl ?_
  refine Ev_iload rfl rfl ?_
  refine Ev_const rfl ?_
  refine Ev_icmp_ge rfl (fun h => absurd h (by decide)) (fun _ => ?_)
  refine Ev_aload rfl rfl rfl ?_
  refine Ev_getR (k' := 12) rfl rfl (by decide +kernel) ?_
  refine Ev_iload rfl rfl ?_
  refine Ev_callV rfl rfl rfl rfl rfl ⟨by decide, by decide, by decide⟩ (k30 (d + 2)) ?_
  rintro v ρ' σ' ⟨rfl, rfl, rfl⟩
  refine Ev_if_ne rfl (fun h => absurd h (by decide)) (fun _ => ?_)
  refine Ev_aload rfl rfl rfl ?_
  refine Ev_getR (k' := 12) rfl rfl (by decide +kernel) ?_
  refine Ev_iload rfl rfl ?_
  refine Ev_callV rfl rfl rfl rfl rfl ⟨by decide, by decide, by decide⟩ (k31 (d + 2)) ?_
  rintro v ρ' σ' ⟨rfl, rfl, rfl⟩
  refine Ev_aload rfl rfl rfl ?_
  refine Ev_iload rfl rfl ?_
  refine Ev_callV rfl rfl rfl rfl rfl ⟨by decide, by decide, by decide⟩ (k34 d) ?_
  rintro v ρ' σ' ⟨rfl, rfl, rfl⟩
  refine Ev_aload rfl rfl rfl ?_
  refine Ev_getR (k' := 12) rfl rfl (by decide +kernel) ?_
  refine Ev_iload rfl rfl ?_
  refine Ev_callV rfl rfl rfl rfl rfl ⟨by decide, by decide, by decide⟩ (k35 (d + 2)) ?_
  rintro v ρ' σ' ⟨rfl, rfl, rfl⟩
  refine Ev_iincE (v := 4) rfl rfl (by decide) ?_
  refine Ev_goto rfl ?_
  refine Ev_iload rfl rfl ?_
  refine Ev_const rfl ?_
  refine Ev_icmp_ge rfl (fun _ => ?_) (fun h => absurd (by decide) h)
  exact Ev_return rfl rfl rfl ⟨rfl, rfl, rfl⟩
set_option maxRecDepth 20000 in
theorem k37 (d : Nat) : T l X (d + 4) 0 [.ref 2] 3 17 r4 s4 (Ru r80 s80) := by
  refine T_of rfl ?_
  refine Ev_aload rfl rfl rfl ?_
  refine Ev_obj rfl rfl ?_
  refine Ev_aload rfl rfl rfl ?_
  refine Ev_const rfl ?_
  refine Ev_newa rfl (by decide) rfl ⟨by decide, by decide⟩ ?_
  refine Ev_st (ρ' := r5) (σ' := s5) rfl rfl ?_
  refine Ev_putR rfl rfl (fun _ => ⟨rfl, rfl⟩) (Or.inr ⟨rfl, rfl, rfl⟩) ?_
  refine Ev_st (ρ' := r6) (σ' := s6) rfl rfl ?_
  refine Ev_aload rfl rfl rfl ?_
  refine Ev_const rfl ?_
  refine Ev_newa rfl (by decide) rfl ⟨by decide, by decide⟩ ?_
  refine Ev_st (ρ' := r7) (σ' := s7) rfl rfl ?_
  refine Ev_putR rfl rfl (fun _ => ⟨rfl, rfl⟩) (Or.inr ⟨rfl, rfl, rfl⟩) ?_
  refine Ev_st (ρ' := r8) (σ' := s8) rfl rfl ?_
  refine Ev_aload rfl rfl rfl ?_
  refine Ev_const rfl ?_
  refine Ev_newa rfl (by decide) rfl ⟨by decide, by decide⟩ ?_
  refine Ev_st (ρ' := r9) (σ' := s9) rfl rfl ?_
  refine Ev_putR rfl rfl (fun _ => ⟨rfl, rfl⟩) (Or.inr ⟨rfl, rfl, rfl⟩) ?_
  refine Ev_st (ρ' := r10) (σ' := s10) rfl rfl ?_
  refine Ev_aload rfl rfl rfl ?_
  refine Ev_const rfl ?_
  refine Ev_newa rfl (by decide) rfl ⟨by decide, by decide⟩ ?_
  refine Ev_st (ρ' := r11) (σ' := s11) rfl rfl ?_
  refine Ev_putR rfl rfl (fun _ => ⟨rfl, rfl⟩) (Or.inr ⟨rfl, rfl, rfl⟩) ?_
  refine Ev_st (ρ' := r12) (σ' := s12) rfl rfl ?_
  refine Ev_aload rfl rfl rfl ?_
  refine Ev_const rfl ?_
  refine Ev_newa rfl (by decide) rfl ⟨by decide, by decide⟩ ?_
  refine Ev_st (ρ' := r13) (σ' := s13) rfl rfl ?_
  refine Ev_putR rfl rfl (fun _ => ⟨rfl, rfl⟩) (Or.inr ⟨rfl, rfl, rfl⟩) ?_
  refine Ev_st (ρ' := r14) (σ' := s14) rfl rfl ?_
  refine Ev_aload rfl rfl rfl ?_
  refine Ev_const rfl ?_
  refine Ev_newa rfl (by decide) rfl ⟨by decide, by decide⟩ ?_
  refine Ev_st (ρ' := r15) (σ' := s15) rfl rfl ?_
  refine Ev_putR rfl rfl (fun _ => ⟨rfl, rfl⟩) (Or.inr ⟨rfl, rfl, rfl⟩) ?_
  refine Ev_st (ρ' := r16) (σ' := s16) rfl rfl ?_
  refine Ev_aload rfl rfl rfl ?_
  refine Ev_const rfl ?_
  refine Ev_newa rfl (by decide) rfl ⟨by decide, by decide⟩ ?_
  refine Ev_st (ρ' := r17) (σ' := s17) rfl rfl ?_
  refine Ev_putR rfl rfl (fun _ => ⟨rfl, rfl⟩) (Or.inr ⟨rfl, rfl, rfl⟩) ?_
  refine Ev_st (ρ' := r18) (σ' := s18) rfl rfl ?_
  refine Ev_aload rfl rfl rfl ?_
  refine Ev_const rfl ?_
  refine Ev_newa rfl (by decide) rfl ⟨by decide, by decide⟩ ?_
  refine Ev_st (ρ' := r19) (σ' := s19) rfl rfl ?_
  refine Ev_putR rfl rfl (fun _ => ⟨rfl, rfl⟩) (Or.inr ⟨rfl, rfl, rfl⟩) ?_
  refine Ev_st (ρ' := r20) (σ' := s20) rfl rfl ?_
  refine Ev_aload rfl rfl rfl ?_
  refine Ev_const rfl ?_
  refine Ev_newa rfl (by decide) rfl ⟨by decide, by decide⟩ ?_
  refine Ev_st (ρ' := r21) (σ' := s21) rfl rfl ?_
  refine Ev_putR rfl rfl (fun _ => ⟨rfl, rfl⟩) (Or.inr ⟨rfl, rfl, rfl⟩) ?_
  refine Ev_st (ρ' := r22) (σ' := s22) rfl rfl ?_
  refine Ev_aload rfl rfl rfl ?_
  refine Ev_new rfl rfl ⟨by decide, by decide⟩ ?_
  refine Ev_st (ρ' := r23) (σ' := s23) rfl rfl ?_
  refine Ev_dup rfl (fun _ q => nomatch q) ?_
  refine Ev_callI rfl rfl rfl rfl ⟨by decide, by decide, by decide⟩ (k0 (d + 2)) ?_
  rintro v ρ' σ' ⟨rfl, rfl, rfl⟩
  refine Ev_putR rfl rfl (fun _ => ⟨rfl, rfl⟩) (Or.inr ⟨rfl, rfl, rfl⟩) ?_
  refine Ev_st (ρ' := r32) (σ' := s32) rfl rfl ?_
  refine Ev_aload rfl rfl rfl ?_
  refine Ev_callV rfl rfl rfl rfl rfl ⟨by decide, by decide, by decide⟩ (k2 (d + 2)) ?_
  rintro v ρ' σ' ⟨rfl, rfl, rfl⟩
  refine Ev_aload rfl rfl rfl ?_
  refine Ev_callV rfl rfl rfl rfl rfl ⟨by decide, by decide, by decide⟩ (k36 d) ?_
  rintro v ρ' σ' ⟨rfl, rfl, rfl⟩
  exact Ev_return rfl rfl rfl ⟨rfl, rfl, rfl⟩
set_option maxRecDepth 20000 in
theorem k38 (d : Nat) : T l X (d + 1) 64 [.ref 27] 28 32 r101 s101 (Ru r109 s109) := by
  refine T_of rfl ?_
  refine Ev_aload rfl rfl rfl ?_
  refine Ev_obj rfl rfl ?_
  refine Ev_aload rfl rfl rfl ?_
  refine Ev_const rfl ?_
  refine Ev_newa rfl (by decide) rfl ⟨by decide, by decide⟩ ?_
  refine Ev_st (ρ' := r102) (σ' := s102) rfl rfl ?_
  refine Ev_putR rfl rfl (fun _ => ⟨rfl, rfl⟩) (Or.inr ⟨rfl, rfl, rfl⟩) ?_
  refine Ev_st (ρ' := r103) (σ' := s103) rfl rfl ?_
  refine Ev_aload rfl rfl rfl ?_
  refine Ev_const rfl ?_
  refine Ev_newa rfl (by decide) rfl ⟨by decide, by decide⟩ ?_
  refine Ev_st (ρ' := r104) (σ' := s104) rfl rfl ?_
  refine Ev_putR rfl rfl (fun _ => ⟨rfl, rfl⟩) (Or.inr ⟨rfl, rfl, rfl⟩) ?_
  refine Ev_st (ρ' := r105) (σ' := s105) rfl rfl ?_
  refine Ev_aload rfl rfl rfl ?_
  refine Ev_const rfl ?_
  refine Ev_newa rfl (by decide) rfl ⟨by decide, by decide⟩ ?_
  refine Ev_st (ρ' := r106) (σ' := s106) rfl rfl ?_
  refine Ev_putR rfl rfl (fun _ => ⟨rfl, rfl⟩) (Or.inr ⟨rfl, rfl, rfl⟩) ?_
  refine Ev_st (ρ' := r107) (σ' := s107) rfl rfl ?_
  refine Ev_aload rfl rfl rfl ?_
  refine Ev_const rfl ?_
  refine Ev_newa rfl (by decide) rfl ⟨by decide, by decide⟩ ?_
  refine Ev_st (ρ' := r108) (σ' := s108) rfl rfl ?_
  refine Ev_putR rfl rfl (fun _ => ⟨rfl, rfl⟩) (Or.inr ⟨rfl, rfl, rfl⟩) ?_
  refine Ev_st (ρ' := r109) (σ' := s109) rfl rfl ?_
  exact Ev_return rfl rfl rfl ⟨rfl, rfl, rfl⟩
set_option maxRecDepth 20000 in
theorem k39 (d : Nat) : T l X (d + 0) 65 [.ref 27] 32 32 r115 s115 (Ru r126 s126) := by
  refine T_of rfl ?_
  refine Ev_aload rfl rfl rfl ?_
  refine Ev_const rfl ?_
  refine Ev_putI rfl rfl ⟨rfl, rfl⟩ rfl ?_
  refine Ev_st (ρ' := r116) (σ' := s116) rfl rfl ?_
  refine Ev_const rfl ?_
  refine Ev_istore rfl ?_
  refine Ev_iload rfl rfl ?_
  refine Ev_const rfl ?_
  refine Ev_icmp_ge rfl (fun h => absurd h (by decide)) (fun _ => ?_)
  refine Ev_aload rfl rfl rfl ?_
  refine Ev_getR (k' := 29) rfl rfl (by decide +kernel) ?_
  refine Ev_iload rfl rfl ?_
  refine Ev_const rfl ?_
  refine Ev_iast rfl rfl (by unfold vp_in; decide) ?_
  refine Ev_st (ρ' := r117) (σ' := s117) rfl rfl ?_
  refine Ev_aload rfl rfl rfl ?_
  refine Ev_getR (k' := 30) rfl rfl (by decide +kernel) ?_
  refine Ev_iload rfl rfl ?_
  refine Ev_const rfl ?_
  refine Ev_iast rfl rfl (by unfold vp_in; decide) ?_
  refine Ev_st (ρ' := r118) (σ' := s118) rfl rfl ?_
  refine Ev_iincE (v := 1) rfl rfl (by decide) ?_
  refine Ev_goto rfl ?_
  refine Ev_iload rfl rfl ?_
  refine Ev_const rfl ?_
  refine Ev_icmp_ge rfl (fun h => absurd h (by decide)) (fun _ => ?_)
  refine Ev_aload rfl rfl rfl ?_
  refine Ev_getR (k' := 29) rfl rfl (by decide +kernel) ?_
  refine Ev_iload rfl rfl ?_
  refine Ev_const rfl ?_
  refine Ev_iast rfl rfl (by unfold vp_in; decide) ?_
  refine Ev_st (ρ' := r119) (σ' := s119) rfl rfl ?_
  refine Ev_aload rfl rfl rfl ?_
  refine Ev_getR (k' := 30) rfl rfl (by decide +kernel) ?_
  refine Ev_iload rfl rfl ?_
  refine Ev_const rfl ?_
  refine Ev_iast rfl rfl (by unfold vp_in; decide) ?_
  refine Ev_st (ρ' := r120) (σ' := s120) rfl rfl ?_
  refine Ev_iincE (v := 2) rfl rfl (by decide) ?_
  refine Ev_goto rfl ?_
  refine Ev_iload rfl rfl ?_
  refine Ev_const rfl ?_
  refine Ev_icmp_ge rfl (fun h => absurd h (by decide)) (fun _ => ?_)
  refine Ev_aload rfl rfl rfl ?_
  refine Ev_getR (k' := 29) rfl rfl (by decide +kernel) ?_
  refine Ev_iload rfl rfl ?_
  refine Ev_const rfl ?_
  refine Ev_iast rfl rfl (by unfold vp_in; decide) ?_
  refine Ev_st (ρ' := r121) (σ' := s121) rfl rfl ?_
  refine Ev_aload rfl rfl rfl ?_
  refine Ev_getR (k' := 30) rfl rfl (by decide +kernel) ?_
  refine Ev_iload rfl rfl ?_
  refine Ev_const rfl ?_
  refine Ev_iast rfl rfl (by unfold vp_in; decide) ?_
  refine Ev_st (ρ' := r122) (σ' := s122) rfl rfl ?_
  refine Ev_iincE (v := 3) rfl rfl (by decide) ?_
  refine Ev_goto rfl ?_
  refine Ev_iload rfl rfl ?_
  refine Ev_const rfl ?_
  refine Ev_icmp_ge rfl (fun h => absurd h (by decide)) (fun _ => ?_)
  refine Ev_aload rfl rfl rfl ?_
  refine Ev_getR (k' := 29) rfl rfl (by decide +kernel) ?_
  refine Ev_iload rfl rfl ?_
  refine Ev_const rfl ?_
  refine Ev_iast rfl rfl (by unfold vp_in; decide) ?_
  refine Ev_st (ρ' := r123) (σ' := s123) rfl rfl ?_
  refine Ev_aload rfl rfl rfl ?_
  refine Ev_getR (k' := 30) rfl rfl (by decide +kernel) ?_
  refine Ev_iload rfl rfl ?_
  refine Ev_const rfl ?_
  refine Ev_iast rfl rfl (by unfold vp_in; decide) ?_
  refine Ev_st (ρ' := r124) (σ' := s124) rfl rfl ?_
  refine Ev_iincE (v := 4) rfl rfl (by decide) ?_
  refine Ev_goto rfl ?_
  refine Ev_iload rfl rfl ?_
  refine Ev_const rfl ?_
  refine Ev_icmp_ge rfl (fun h => absurd h (by decide)) (fun _ => ?_)
  refine Ev_aload rfl rfl rfl ?_
  refine Ev_getR (k' := 29) rfl rfl (by decide +kernel) ?_
  refine Ev_iload rfl rfl ?_
  refine Ev_const rfl ?_
  refine Ev_iast rfl rfl (by unfold vp_in; decide) ?_
  refine Ev_st (ρ' := r125) (σ' := s125) rfl rfl ?_
  refine Ev_aload rfl rfl rfl ?_
  refine Ev_getR (k' := 30) rfl rfl (by decide +kernel) ?_
  refine Ev_iload rfl rfl ?_
  refine Ev_const rfl ?_
  refine Ev_iast rfl rfl (by unfold vp_in; decide) ?_
  refine Ev_st (ρ' := r126) (σ' := s126) rfl rfl ?_
  refine Ev_iincE (v := 5) rfl rfl (by decide) ?_
  refine Ev_goto rfl ?_
  refine Ev_iload rfl rfl ?_
  refine Ev_const rfl ?_
  refine Ev_icmp_ge rfl (fun _ => ?_) (fun h => absurd (by decide) h)
  exact Ev_return rfl rfl rfl ⟨rfl, rfl, rfl⟩
set_option maxRecDepth 20000 in
theorem k40 (d : Nat) : T l X (d + 1) 1 [.ref 17] 32 32 r110 s110 (Ru r126 s126) := by
  refine T_of rfl ?_
  refine Ev_aload rfl rfl rfl ?_
  refine Ev_const rfl ?_
  refine Ev_putI rfl rfl ⟨rfl, rfl⟩ rfl ?_
  refine Ev_st (ρ' := r111) (σ' := s111) rfl rfl ?_
  refine Ev_aload rfl rfl rfl ?_
  refine Ev_const rfl ?_
  refine Ev_putI rfl rfl ⟨rfl, rfl⟩ rfl ?_
  refine Ev_st (ρ' := r112) (σ' := s112) rfl rfl ?_
  refine Ev_aload rfl rfl rfl ?_
  refine Ev_const rfl ?_
  refine Ev_putI rfl rfl ⟨rfl, rfl⟩ rfl ?_
  refine Ev_st (ρ' := r113) (σ' := s113) rfl rfl ?_
  refine Ev_aload rfl rfl rfl ?_
  refine Ev_const rfl ?_
  refine Ev_putI rfl rfl ⟨rfl, rfl⟩ rfl ?_
  refine Ev_st (ρ' := r114) (σ' := s114) rfl rfl ?_
  refine Ev_aload rfl rfl rfl ?_
  refine Ev_const rfl ?_
  refine Ev_putI rfl rfl ⟨rfl, rfl⟩ rfl ?_
  refine Ev_st (ρ' := r115) (σ' := s115) rfl rfl ?_
  refine Ev_aload rfl rfl rfl ?_
  refine Ev_getR (k' := 27) rfl rfl (by decide +kernel) ?_
  refine Ev_callV rfl rfl rfl rfl rfl ⟨by decide, by decide, by decide⟩ (k39 d) ?_
  rintro v ρ' σ' ⟨rfl, rfl, rfl⟩
  exact Ev_return rfl rfl rfl ⟨rfl, rfl, rfl⟩
set_option maxRecDepth 20000 in
theorem k41 (d : Nat) : T l X (d + 0) 66 [.ref 27, .int 0] 32 32 r126 s126 (Re (.int 0) r126 s126) := by
  refine T_of rfl ?_
  refine Ev_aload rfl rfl rfl ?_
  refine Ev_getR (k' := 29) rfl rfl (by decide +kernel) ?_
  refine Ev_iload rfl rfl ?_
  refine Ev_iald rfl rfl (by unfold vp_in; decide) ?_
  refine Ev_norm (v := (-1)) (by decide +kernel) ?_
  refine Ev_const rfl ?_
  refine Ev_icmp_eq rfl (fun _ => ?_) (fun h => absurd (by decide) h)
  refine Ev_const rfl ?_
  exact Ev_ireturn rfl rfl (by decide) rfl ⟨rfl, rfl, rfl⟩
set_option maxRecDepth 20000 in
theorem k42 (d : Nat) : T l X (d + 0) 67 [.ref 27, .int 0] 32 32 r126 s126 (Ru r127 s127) := by
  refine T_of rfl ?_
  refine Ev_aload rfl rfl rfl ?_
  refine Ev_getR (k' := 29) rfl rfl (by decide +kernel) ?_
  refine Ev_iload rfl rfl ?_
  refine Ev_aload rfl rfl rfl ?_
  refine Ev_getI rfl rfl ?_
  refine Ev_norm (v := 0) (by decide +kernel) ?_
  refine Ev_iast rfl rfl (by unfold vp_in; decide) ?_
  refine Ev_st (ρ' := r127) (σ' := s127) rfl rfl ?_
  exact Ev_return rfl rfl rfl ⟨rfl, rfl, rfl⟩
set_option maxRecDepth 20000 in
theorem k43 (d : Nat) : T l X (d + 0) 69 [.ref 27, .int 2336] 32 32 r127 s127 (Ru r129 s129) := by
  refine T_of rfl ?_
  refine Ev_aload rfl rfl rfl ?_
  refine Ev_getI rfl rfl ?_
  refine Ev_norm (v := 0) (by decide +kernel) ?_
  refine Ev_const rfl ?_
  refine Ev_icmp_ge rfl (fun h => absurd h (by decide)) (fun _ => ?_)
  refine Ev_aload rfl rfl rfl ?_
  refine Ev_getR (k' := 28) rfl rfl (by decide +kernel) ?_
  refine Ev_aload rfl rfl rfl ?_
  refine Ev_getI rfl rfl ?_
  refine Ev_norm (v := 0) (by decide +kernel) ?_
  refine Ev_iload rfl rfl ?_
  refine Ev_iast rfl rfl (by unfold vp_in; decide) ?_
  refine Ev_st (ρ' := r128) (σ' := s128) rfl rfl ?_
  refine Ev_aload rfl rfl rfl ?_
  refine Ev_dup rfl (fun _ q => nomatch q) ?_
  refine Ev_getI rfl rfl ?_
  refine Ev_norm (v := 0) (by decide +kernel) ?_
  refine Ev_const rfl ?_
  refine Ev_iadd rfl ?_
  refine Ev_norm (v := 1) (by decide) ?_
  refine Ev_putI rfl rfl ⟨rfl, rfl⟩ rfl ?_
  refine Ev_st (ρ' := r129) (σ' := s129) rfl rfl ?_
  exact Ev_return rfl rfl rfl ⟨rfl, rfl, rfl⟩
set_option maxRecDepth 20000 in
theorem k44 (d : Nat) : T l X (d + 1) 70 [.ref 27, .int 9] 32 32 r127 s127 (Ru r129 s129) := by
  refine T_of rfl ?_
  refine Ev_aload rfl rfl rfl ?_
  refine Ev_iload rfl rfl ?_
  refine Ev_const rfl ?_
  refine Ev_ishl rfl ?_
  refine Ev_norm (v := 2304) (by decide) ?_
  refine Ev_const rfl ?_
  refine Ev_ior rfl ?_
  refine Ev_norm (v := 2336) (by decide) ?_
  refine Ev_callV rfl rfl rfl rfl rfl ⟨by decide, by decide, by decide⟩ (k43 d) ?_
  rintro v ρ' σ' ⟨rfl, rfl, rfl⟩
  exact Ev_return rfl rfl rfl ⟨rfl, rfl, rfl⟩
set_option maxRecDepth 20000 in
theorem k45 (d : Nat) : T l X (d + 2) 9 [.ref 17, .int 0] 32 32 r127 s127 (Ru r129 s129) := by
  refine T_of rfl ?_
  refine Ev_iload rfl rfl ?_
  refine Ev_tab rfl rfl ⟨fun _ => ?_, fun h => absurd (by decide) h⟩
  refine Ev_aload rfl rfl rfl ?_
  refine Ev_getR (k' := 27) rfl rfl (by decide +kernel) ?_
  refine Ev_const rfl ?_
  refine Ev_callV rfl rfl rfl rfl rfl ⟨by decide, by decide, by decide⟩ (k44 d) ?_
  rintro v ρ' σ' ⟨rfl, rfl, rfl⟩
  refine Ev_goto rfl ?_
  exact Ev_return rfl rfl rfl ⟨rfl, rfl, rfl⟩
set_option maxRecDepth 20000 in
theorem k46 (d : Nat) : T l X (d + 0) 68 [.ref 27, .int 0] 32 32 r129 s129 (Ru r130 s130) := by
  refine T_of rfl ?_
  refine Ev_aload rfl rfl rfl ?_
  refine Ev_getR (k' := 30) rfl rfl (by decide +kernel) ?_
  refine Ev_iload rfl rfl ?_
  refine Ev_aload rfl rfl rfl ?_
  refine Ev_getI rfl rfl ?_
  refine Ev_norm (v := 1) (by decide +kernel) ?_
  refine Ev_iast rfl rfl (by unfold vp_in; decide) ?_
  refine Ev_st (ρ' := r130) (σ' := s130) rfl rfl ?_
  exact Ev_return rfl rfl rfl ⟨rfl, rfl, rfl⟩
set_option maxRecDepth 20000 in
theorem k47 (d : Nat) : T l X (d + 0) 66 [.ref 27, .int 1] 32 32 r130 s130 (Re (.int 0) r130 s130) := by
  refine T_of rfl ?_
  refine Ev_aload rfl rfl rfl ?_
  refine Ev_getR (k' := 29) rfl rfl (by decide +kernel) ?_
  refine Ev_iload rfl rfl ?_
  refine Ev_iald rfl rfl (by unfold vp_in; decide) ?_
  refine Ev_norm (v := (-1)) (by decide +kernel) ?_
  refine Ev_const rfl ?_
  refine Ev_icmp_eq rfl (fun _ => ?_) (fun h => absurd (by decide) h)
  refine Ev_const rfl ?_
  exact Ev_ireturn rfl rfl (by decide) rfl ⟨rfl, rfl, rfl⟩
set_option maxRecDepth 20000 in
theorem k48 (d : Nat) : T l X (d + 0) 67 [.ref 27, .int 1] 32 32 r130 s130 (Ru r131 s131) := by
  refine T_of rfl ?_
  refine Ev_aload rfl rfl rfl ?_
  refine Ev_getR (k' := 29) rfl rfl (by decide +kernel) ?_
  refine Ev_iload rfl rfl ?_
  refine Ev_aload rfl rfl rfl ?_
  refine Ev_getI rfl rfl ?_
  refine Ev_norm (v := 1) (by decide +kernel) ?_
  refine Ev_iast rfl rfl (by unfold vp_in; decide) ?_
  refine Ev_st (ρ' := r131) (σ' := s131) rfl rfl ?_
  exact Ev_return rfl rfl rfl ⟨rfl, rfl, rfl⟩
set_option maxRecDepth 20000 in
theorem k49 (d : Nat) : T l X (d + 0) 69 [.ref 27, .int 5152] 32 32 r131 s131 (Ru r133 s133) := by
  refine T_of rfl ?_
  refine Ev_aload rfl rfl rfl ?_
  refine Ev_getI rfl rfl ?_
  refine Ev_norm (v := 1) (by decide +kernel) ?_
  refine Ev_const rfl ?_
  refine Ev_icmp_ge rfl (fun h => absurd h (by decide)) (fun _ => ?_)
  refine Ev_aload rfl rfl rfl ?_
  refine Ev_getR (k' := 28) rfl rfl (by decide +kernel) ?_
  refine Ev_aload rfl rfl rfl ?_
  refine Ev_getI rfl rfl ?_
  refine Ev_norm (v := 1) (by decide +kernel) ?_
  refine Ev_iload rfl rfl ?_
  refine Ev_iast rfl rfl (by unfold vp_in; decide) ?_
  refine Ev_st (ρ' := r132) (σ' := s132) rfl rfl ?_
  refine Ev_aload rfl rfl rfl ?_
  refine Ev_dup rfl (fun _ q => nomatch q) ?_
  refine Ev_getI rfl rfl ?_
  refine Ev_norm (v := 1) (by decide +kernel) ?_
  refine Ev_const rfl ?_
  refine Ev_iadd rfl ?_
  refine Ev_norm (v := 2) (by decide) ?_
  refine Ev_putI rfl rfl ⟨rfl, rfl⟩ rfl ?_
  refine Ev_st (ρ' := r133) (σ' := s133) rfl rfl ?_
  exact Ev_return rfl rfl rfl ⟨rfl, rfl, rfl⟩
set_option maxRecDepth 20000 in
theorem k50 (d : Nat) : T l X (d + 1) 70 [.ref 27, .int 20] 32 32 r131 s131 (Ru r133 s133) := by
  refine T_of rfl ?_
  refine Ev_aload rfl rfl rfl ?_
  refine Ev_iload rfl rfl ?_
  refine Ev_const rfl ?_
  refine Ev_ishl rfl ?_
  refine Ev_norm (v := 5120) (by decide) ?_
  refine Ev_const rfl ?_
  refine Ev_ior rfl ?_
  refine Ev_norm (v := 5152) (by decide) ?_
  refine Ev_callV rfl rfl rfl rfl rfl ⟨by decide, by decide, by decide⟩ (k49 d) ?_
  rintro v ρ' σ' ⟨rfl, rfl, rfl⟩
  exact Ev_return rfl rfl rfl ⟨rfl, rfl, rfl⟩
set_option maxRecDepth 20000 in
theorem k51 (d : Nat) : T l X (d + 0) 69 [.ref 27, .int 2] 32 32 r133 s133 (Ru r135 s135) := by
  refine T_of rfl ?_
  refine Ev_aload rfl rfl rfl ?_
  refine Ev_getI rfl rfl ?_
  refine Ev_norm (v := 2) (by decide +kernel) ?_
  refine Ev_const rfl ?_
  refine Ev_icmp_ge rfl (fun h => absurd h (by decide)) (fun _ => ?_)
  refine Ev_aload rfl rfl rfl ?_
  refine Ev_getR (k' := 28) rfl rfl (by decide +kernel) ?_
  refine Ev_aload rfl rfl rfl ?_
  refine Ev_getI rfl rfl ?_
  refine Ev_norm (v := 2) (by decide +kernel) ?_
  refine Ev_iload rfl rfl ?_
  refine Ev_iast rfl rfl (by unfold vp_in; decide) ?_
  refine Ev_st (ρ' := r134) (σ' := s134) rfl rfl ?_
  refine Ev_aload rfl rfl rfl ?_
  refine Ev_dup rfl (fun _ q => nomatch q) ?_
  refine Ev_getI rfl rfl ?_
  refine Ev_norm (v := 2) (by decide +kernel) ?_
  refine Ev_const rfl ?_
  refine Ev_iadd rfl ?_
  refine Ev_norm (v := 3) (by decide) ?_
  refine Ev_putI rfl rfl ⟨rfl, rfl⟩ rfl ?_
  refine Ev_st (ρ' := r135) (σ' := s135) rfl rfl ?_
  exact Ev_return rfl rfl rfl ⟨rfl, rfl, rfl⟩
set_option maxRecDepth 20000 in
theorem k52 (d : Nat) : T l X (d + 0) 69 [.ref 27, .int 1312] 32 32 r135 s135 (Ru r137 s137) := by
  refine T_of rfl ?_
  refine Ev_aload rfl rfl rfl ?_
  refine Ev_getI rfl rfl ?_
  refine Ev_norm (v := 3) (by decide +kernel) ?_
  refine Ev_const rfl ?_
  refine Ev_icmp_ge rfl (fun h => absurd h (by decide)) (fun _ => ?_)
  refine Ev_aload rfl rfl rfl ?_
  refine Ev_getR (k' := 28) rfl rfl (by decide +kernel) ?_
  refine Ev_aload rfl rfl rfl ?_
  refine Ev_getI rfl rfl ?_
  refine Ev_norm (v := 3) (by decide +kernel) ?_
  refine Ev_iload rfl rfl ?_
  refine Ev_iast rfl rfl (by unfold vp_in; decide) ?_
  refine Ev_st (ρ' := r136) (σ' := s136) rfl rfl ?_
  refine Ev_aload rfl rfl rfl ?_
  refine Ev_dup rfl (fun _ q => nomatch q) ?_
  refine Ev_getI rfl rfl ?_
  refine Ev_norm (v := 3) (by decide +kernel) ?_
  refine Ev_const rfl ?_
  refine Ev_iadd rfl ?_
  refine Ev_norm (v := 4) (by decide) ?_
  refine Ev_putI rfl rfl ⟨rfl, rfl⟩ rfl ?_
  refine Ev_st (ρ' := r137) (σ' := s137) rfl rfl ?_
  exact Ev_return rfl rfl rfl ⟨rfl, rfl, rfl⟩
set_option maxRecDepth 20000 in
theorem k53 (d : Nat) : T l X (d + 1) 70 [.ref 27, .int 5] 32 32 r135 s135 (Ru r137 s137) := by
  refine T_of rfl ?_
  refine Ev_aload rfl rfl rfl ?_
  refine Ev_iload rfl rfl ?_
  refine Ev_const rfl ?_
  refine Ev_ishl rfl ?_
  refine Ev_norm (v := 1280) (by decide) ?_
  refine Ev_const rfl ?_
  refine Ev_ior rfl ?_
  refine Ev_norm (v := 1312) (by decide) ?_
  refine Ev_callV rfl rfl rfl rfl rfl ⟨by decide, by decide, by decide⟩ (k52 d) ?_
  rintro v ρ' σ' ⟨rfl, rfl, rfl⟩
  exact Ev_return rfl rfl rfl ⟨rfl, rfl, rfl⟩
set_option maxRecDepth 20000 in
theorem k54 (d : Nat) : T l X (d + 0) 69 [.ref 27, .int 38] 32 32 r137 s137 (Ru r139 s139) := by
  refine T_of rfl ?_
  refine Ev_aload rfl rfl rfl ?_
  refine Ev_getI rfl rfl ?_
  refine Ev_norm (v := 4) (by decide +kernel) ?_
  refine Ev_const rfl ?_
  refine Ev_icmp_ge rfl (fun h => absurd h (by decide)) (fun _ => ?_)
  refine Ev_aload rfl rfl rfl ?_
  refine Ev_getR (k' := 28) rfl rfl (by decide +kernel) ?_
  refine Ev_aload rfl rfl rfl ?_
  refine Ev_getI rfl rfl ?_
  refine Ev_norm (v := 4) (by decide +kernel) ?_
  refine Ev_iload rfl rfl ?_
  refine Ev_iast rfl rfl (by unfold vp_in; decide) ?_
  refine Ev_st (ρ' := r138) (σ' := s138) rfl rfl ?_
  refine Ev_aload rfl rfl rfl ?_
  refine Ev_dup rfl (fun _ q => nomatch q) ?_
  refine Ev_getI rfl rfl ?_
  refine Ev_norm (v := 4) (by decide +kernel) ?_
  refine Ev_const rfl ?_
  refine Ev_iadd rfl ?_
  refine Ev_norm (v := 5) (by decide) ?_
  refine Ev_putI rfl rfl ⟨rfl, rfl⟩ rfl ?_
  refine Ev_st (ρ' := r139) (σ' := s139) rfl rfl ?_
  exact Ev_return rfl rfl rfl ⟨rfl, rfl, rfl⟩
set_option maxRecDepth 20000 in
theorem k55 (d : Nat) : T l X (d + 0) 69 [.ref 27, .int 36] 32 32 r139 s139 (Ru r141 s141) := by
  refine T_of rfl ?_
  refine Ev_aload rfl rfl rfl ?_
  refine Ev_getI rfl rfl ?_
  refine Ev_norm (v := 5) (by decide +kernel) ?_
  refine Ev_const rfl ?_
  refine Ev_icmp_ge rfl (fun h => absurd h (by decide)) (fun _ => ?_)
  refine Ev_aload rfl rfl rfl ?_
  refine Ev_getR (k' := 28) rfl rfl (by decide +kernel) ?_
  refine Ev_aload rfl rfl rfl ?_
  refine Ev_getI rfl rfl ?_
  refine Ev_norm (v := 5) (by decide +kernel) ?_
  refine Ev_iload rfl rfl ?_
  refine Ev_iast rfl rfl (by unfold vp_in; decide) ?_
  refine Ev_st (ρ' := r140) (σ' := s140) rfl rfl ?_
  refine Ev_aload rfl rfl rfl ?_
  refine Ev_dup rfl (fun _ q => nomatch q) ?_
  refine Ev_getI rfl rfl ?_
  refine Ev_norm (v := 5) (by decide +kernel) ?_
  refine Ev_const rfl ?_
  refine Ev_iadd rfl ?_
  refine Ev_norm (v := 6) (by decide) ?_
  refine Ev_putI rfl rfl ⟨rfl, rfl⟩ rfl ?_
  refine Ev_st (ρ' := r141) (σ' := s141) rfl rfl ?_
  exact Ev_return rfl rfl rfl ⟨rfl, rfl, rfl⟩
set_option maxRecDepth 20000 in
theorem k56 (d : Nat) : T l X (d + 0) 69 [.ref 27, .int 1] 32 32 r141 s141 (Ru r143 s143) := by
  refine T_of rfl ?_
  refine Ev_aload rfl rfl rfl ?_
  refine Ev_getI rfl rfl ?_
  refine Ev_norm (v := 6) (by decide +kernel) ?_
  refine Ev_const rfl ?_
  refine Ev_icmp_ge rfl (fun h => absurd h (by decide)) (fun _ => ?_)
  refine Ev_aload rfl rfl rfl ?_
  refine Ev_getR (k' := 28) rfl rfl (by decide +kernel) ?_
  refine Ev_aload rfl rfl rfl ?_
  refine Ev_getI rfl rfl ?_
  refine Ev_norm (v := 6) (by decide +kernel) ?_
  refine Ev_iload rfl rfl ?_
  refine Ev_iast rfl rfl (by unfold vp_in; decide) ?_
  refine Ev_st (ρ' := r142) (σ' := s142) rfl rfl ?_
  refine Ev_aload rfl rfl rfl ?_
  refine Ev_dup rfl (fun _ q => nomatch q) ?_
  refine Ev_getI rfl rfl ?_
  refine Ev_norm (v := 6) (by decide +kernel) ?_
  refine Ev_const rfl ?_
  refine Ev_iadd rfl ?_
  refine Ev_norm (v := 7) (by decide) ?_
  refine Ev_putI rfl rfl ⟨rfl, rfl⟩ rfl ?_
  refine Ev_st (ρ' := r143) (σ' := s143) rfl rfl ?_
  exact Ev_return rfl rfl rfl ⟨rfl, rfl, rfl⟩
set_option maxRecDepth 20000 in
theorem k57 (d : Nat) : T l X (d + 0) 69 [.ref 27, .int 37] 32 32 r143 s143 (Ru r145 s145) := by
  refine T_of rfl ?_
  refine Ev_aload rfl rfl rfl ?_
  refine Ev_getI rfl rfl ?_
  refine Ev_norm (v := 7) (by decide +kernel) ?_
  refine Ev_const rfl ?_
  refine Ev_icmp_ge rfl (fun h => absurd h (by decide)) (fun _ => ?_)
  refine Ev_aload rfl rfl rfl ?_
  refine Ev_getR (k' := 28) rfl rfl (by decide +kernel) ?_
  refine Ev_aload rfl rfl rfl ?_
  refine Ev_getI rfl rfl ?_
  refine Ev_norm (v := 7) (by decide +kernel) ?_
  refine Ev_iload rfl rfl ?_
  refine Ev_iast rfl rfl (by unfold vp_in; decide) ?_
  refine Ev_st (ρ' := r144) (σ' := s144) rfl rfl ?_
  refine Ev_aload rfl rfl rfl ?_
  refine Ev_dup rfl (fun _ q => nomatch q) ?_
  refine Ev_getI rfl rfl ?_
  refine Ev_norm (v := 7) (by decide +kernel) ?_
  refine Ev_const rfl ?_
  refine Ev_iadd rfl ?_
  refine Ev_norm (v := 8) (by decide) ?_
  refine Ev_putI rfl rfl ⟨rfl, rfl⟩ rfl ?_
  refine Ev_st (ρ' := r145) (σ' := s145) rfl rfl ?_
  exact Ev_return rfl rfl rfl ⟨rfl, rfl, rfl⟩
set_option maxRecDepth 20000 in
theorem k58 (d : Nat) : T l X (d + 2) 9 [.ref 17, .int 1] 32 32 r131 s131 (Ru r145 s145) := by
  refine T_of rfl ?_
  refine Ev_iload rfl rfl ?_
  refine Ev_tab rfl rfl ⟨fun h => absurd h (by decide), fun _ => ⟨fun _ => ?_, fun h => absurd (by decide) h⟩⟩
  refine Ev_aload rfl rfl rfl ?_
  refine Ev_getR (k' := 27) rfl rfl (by decide +kernel) ?_
  refine Ev_const rfl ?_
  refine Ev_callV rfl rfl rfl rfl rfl ⟨by decide, by decide, by decide⟩ (k50 d) ?_
  rintro v ρ' σ' ⟨rfl, rfl, rfl⟩
  refine Ev_aload rfl rfl rfl ?_
  refine Ev_getR (k' := 27) rfl rfl (by decide +kernel) ?_
  refine Ev_const rfl ?_
  refine Ev_callV rfl rfl rfl rfl rfl ⟨by decide, by decide, by decide⟩ (k51 (d + 1)) ?_
  rintro v ρ' σ' ⟨rfl, rfl, rfl⟩
  refine Ev_aload rfl rfl rfl ?_
  refine Ev_getR (k' := 27) rfl rfl (by decide +kernel) ?_
  refine Ev_const rfl ?_
  refine Ev_callV rfl rfl rfl rfl rfl ⟨by decide, by decide, by decide⟩ (k53 d) ?_
  rintro v ρ' σ' ⟨rfl, rfl, rfl⟩
  refine Ev_aload rfl rfl rfl ?_
  refine Ev_getR (k' := 27) rfl rfl (by decide +kernel) ?_
  refine Ev_const rfl ?_
  refine Ev_callV rfl rfl rfl rfl rfl ⟨by decide, by decide, by decide⟩ (k54 (d + 1)) ?_
  rintro v ρ' σ' ⟨rfl, rfl, rfl⟩
  refine Ev_aload rfl rfl rfl ?_
  refine Ev_getR (k' := 27) rfl rfl (by decide +kernel) ?_
  refine Ev_const rfl ?_
  refine Ev_callV rfl rfl rfl rfl rfl ⟨by decide, by decide, by decide⟩ (k55 (d + 1)) ?_
  rintro v ρ' σ' ⟨rfl, rfl, rfl⟩
  refine Ev_aload rfl rfl rfl ?_
  refine Ev_getR (k' := 27) rfl rfl (by decide +kernel) ?_
  refine Ev_const rfl ?_
  refine Ev_callV rfl rfl rfl rfl rfl ⟨by decide, by decide, by decide⟩ (k56 (d + 1)) ?_
  rintro v ρ' σ' ⟨rfl, rfl, rfl⟩
  refine Ev_aload rfl rfl rfl ?_
  refine Ev_getR (k' := 27) rfl rfl (by decide +kernel) ?_
  refine Ev_const rfl ?_
  refine Ev_callV rfl rfl rfl rfl rfl ⟨by decide, by decide, by decide⟩ (k57 (d + 1)) ?_
  rintro v ρ' σ' ⟨rfl, rfl, rfl⟩
  refine Ev_goto rfl ?_
  exact Ev_return rfl rfl rfl ⟨rfl, rfl, rfl⟩
set_option maxRecDepth 20000 in
theorem k59 (d : Nat) : T l X (d + 0) 68 [.ref 27, .int 1] 32 32 r145 s145 (Ru r146 s146) := by
  refine T_of rfl ?_
  refine Ev_aload rfl rfl rfl ?_
  refine Ev_getR (k' := 30) rfl rfl (by decide +kernel) ?_
  refine Ev_iload rfl rfl ?_
  refine Ev_aload rfl rfl rfl ?_
  refine Ev_getI rfl rfl ?_
  refine Ev_norm (v := 8) (by decide +kernel) ?_
  refine Ev_iast rfl rfl (by unfold vp_in; decide) ?_
  refine Ev_st (ρ' := r146) (σ' := s146) rfl rfl ?_
  exact Ev_return rfl rfl rfl ⟨rfl, rfl, rfl⟩
set_option maxRecDepth 20000 in
theorem k60 (d : Nat) : T l X (d + 0) 66 [.ref 27, .int 2] 32 32 r146 s146 (Re (.int 0) r146 s146) := by
  refine T_of rfl ?_
  refine Ev_aload rfl rfl rfl ?_
  refine Ev_getR (k' := 29) rfl rfl (by decide +kernel) ?_
  refine Ev_iload rfl rfl ?_
  refine Ev_iald rfl rfl (by unfold vp_in; decide) ?_
  refine Ev_norm (v := (-1)) (by decide +kernel) ?_
  refine Ev_const rfl ?_
  refine Ev_icmp_eq rfl (fun _ => ?_) (fun h => absurd (by decide) h)
  refine Ev_const rfl ?_
  exact Ev_ireturn rfl rfl (by decide) rfl ⟨rfl, rfl, rfl⟩
set_option maxRecDepth 20000 in
theorem k61 (d : Nat) : T l X (d + 0) 67 [.ref 27, .int 2] 32 32 r146 s146 (Ru r147 s147) := by
  refine T_of rfl ?_
  refine Ev_aload rfl rfl rfl ?_
  refine Ev_getR (k' := 29) rfl rfl (by decide +kernel) ?_
  refine Ev_iload rfl rfl ?_
  refine Ev_aload rfl rfl rfl ?_
  refine Ev_getI rfl rfl ?_
  refine Ev_norm (v := 8) (by decide +kernel) ?_
  refine Ev_iast rfl rfl (by unfold vp_in; decide) ?_
  refine Ev_st (ρ' := r147) (σ' := s147) rfl rfl ?_
  exact Ev_return rfl rfl rfl ⟨rfl, rfl, rfl⟩
set_option maxRecDepth 20000 in
theorem k62 (d : Nat) : T l X (d + 0) 69 [.ref 27, .int 6] 32 32 r147 s147 (Ru r149 s149) := by
  refine T_of rfl ?_
  refine Ev_aload rfl rfl rfl ?_
  refine Ev_getI rfl rfl ?_
  refine Ev_norm (v := 8) (by decide +kernel) ?_
  refine Ev_const rfl ?_
  refine Ev_icmp_ge rfl (fun h => absurd h (by decide)) (fun _ => ?_)
  refine Ev_aload rfl rfl rfl ?_
  refine Ev_getR (k' := 28) rfl rfl (by decide +kernel) ?_
  refine Ev_aload rfl rfl rfl ?_
  refine Ev_getI rfl rfl ?_
  refine Ev_norm (v := 8) (by decide +kernel) ?_
  refine Ev_iload rfl rfl ?_
  refine Ev_iast rfl rfl (by unfold vp_in; decide) ?_
  refine Ev_st (ρ' := r148) (σ' := s148) rfl rfl ?_
  refine Ev_aload rfl rfl rfl ?_
  refine Ev_dup rfl (fun _ q => nomatch q) ?_
  refine Ev_getI rfl rfl ?_
  refine Ev_norm (v := 8) (by decide +kernel) ?_
  refine Ev_const rfl ?_
  refine Ev_iadd rfl ?_
  refine Ev_norm (v := 9) (by decide) ?_
  refine Ev_putI rfl rfl ⟨rfl, rfl⟩ rfl ?_
  refine Ev_st (ρ' := r149) (σ' := s149) rfl rfl ?_
  exact Ev_return rfl rfl rfl ⟨rfl, rfl, rfl⟩
set_option maxRecDepth 20000 in
theorem k63 (d : Nat) : T l X (d + 0) 69 [.ref 27, .int 288] 32 32 r149 s149 (Ru r151 s151) := by
  refine T_of rfl ?_
  refine Ev_aload rfl rfl rfl ?_
  refine Ev_getI rfl rfl ?_
  refine Ev_norm (v := 9) (by decide +kernel) ?_
  refine Ev_const rfl ?_
  refine Ev_icmp_ge rfl (fun h => absurd h (by decide)) (fun _ => ?_)
  refine Ev_aload rfl rfl rfl ?_
  refine Ev_getR (k' := 28) rfl rfl (by decide +kernel) ?_
  refine Ev_aload rfl rfl rfl ?_
  refine Ev_getI rfl rfl ?_
  refine Ev_norm (v := 9) (by decide +kernel) ?_
  refine Ev_iload rfl rfl ?_
  refine Ev_iast rfl rfl (by unfold vp_in; decide) ?_
  refine Ev_st (ρ' := r150) (σ' := s150) rfl rfl ?_
  refine Ev_aload rfl rfl rfl ?_
  refine Ev_dup rfl (fun _ q => nomatch q) ?_
  refine Ev_getI rfl rfl ?_
  refine Ev_norm (v := 9) (by decide +kernel) ?_
  refine Ev_const rfl ?_
  refine Ev_iadd rfl ?_
  refine Ev_norm (v := 10) (by decide) ?_
  refine Ev_putI rfl rfl ⟨rfl, rfl⟩ rfl ?_
  refine Ev_st (ρ' := r151) (σ' := s151) rfl rfl ?_
  exact Ev_return rfl rfl rfl ⟨rfl, rfl, rfl⟩
set_option maxRecDepth 20000 in
theorem k64 (d : Nat) : T l X (d + 1) 70 [.ref 27, .int 1] 32 32 r149 s149 (Ru r151 s151) := by
  refine T_of rfl ?_
  refine Ev_aload rfl rfl rfl ?_
  refine Ev_iload rfl rfl ?_
  refine Ev_const rfl ?_
  refine Ev_ishl rfl ?_
  refine Ev_norm (v := 256) (by decide) ?_
  refine Ev_const rfl ?_
  refine Ev_ior rfl ?_
  refine Ev_norm (v := 288) (by decide) ?_
  refine Ev_callV rfl rfl rfl rfl rfl ⟨by decide, by decide, by decide⟩ (k63 d) ?_
  rintro v ρ' σ' ⟨rfl, rfl, rfl⟩
  exact Ev_return rfl rfl rfl ⟨rfl, rfl, rfl⟩
set_option maxRecDepth 20000 in
theorem k65 (d : Nat) : T l X (d + 0) 69 [.ref 27, .int 37] 32 32 r151 s151 (Ru r153 s153) := by
  refine T_of rfl ?_
  refine Ev_aload rfl rfl rfl ?_
  refine Ev_getI rfl rfl ?_
  refine Ev_norm (v := 10) (by decide +kernel) ?_
  refine Ev_const rfl ?_
  refine Ev_icmp_ge rfl (fun h => absurd h (by decide)) (fun _ => ?_)
  refine Ev_aload rfl rfl rfl ?_
  refine Ev_getR (k' := 28) rfl rfl (by decide +kernel) ?_
  refine Ev_aload rfl rfl rfl ?_
  refine Ev_getI rfl rfl ?_
  refine Ev_norm (v := 10) (by decide +kernel) ?_
  refine Ev_iload rfl rfl ?_
  refine Ev_iast rfl rfl (by unfold vp_in; decide) ?_
  refine Ev_st (ρ' := r152) (σ' := s152) rfl rfl ?_
  refine Ev_aload rfl rfl rfl ?_
  refine Ev_dup rfl (fun _ q => nomatch q) ?_
  refine Ev_getI rfl rfl ?_
  refine Ev_norm (v := 10) (by decide +kernel) ?_
  refine Ev_const rfl ?_
  refine Ev_iadd rfl ?_
  refine Ev_norm (v := 11) (by decide) ?_
  refine Ev_putI rfl rfl ⟨rfl, rfl⟩ rfl ?_
  refine Ev_st (ρ' := r153) (σ' := s153) rfl rfl ?_
  exact Ev_return rfl rfl rfl ⟨rfl, rfl, rfl⟩
set_option maxRecDepth 20000 in
theorem k66 (d : Nat) : T l X (d + 2) 9 [.ref 17, .int 2] 32 32 r147 s147 (Ru r153 s153) := by
  refine T_of rfl ?_
  refine Ev_iload rfl rfl ?_
  refine Ev_tab rfl rfl ⟨fun h => absurd h (by decide), fun _ => ⟨fun h => absurd h (by decide), fun _ => ⟨fun _ => ?_, fun h => absurd (by decide) h⟩⟩⟩
  refine Ev_aload rfl rfl rfl ?_
  refine Ev_getR (k' := 27) rfl rfl (by decide +kernel) ?_
  refine Ev_const rfl ?_
  refine Ev_callV rfl rfl rfl rfl rfl ⟨by decide, by decide, by decide⟩ (k62 (d + 1)) ?_
  rintro v ρ' σ' ⟨rfl, rfl, rfl⟩
  refine Ev_aload rfl rfl rfl ?_
  refine Ev_getR (k' := 27) rfl rfl (by decide +kernel) ?_
  refine Ev_const rfl ?_
  refine Ev_callV rfl rfl rfl rfl rfl ⟨by decide, by decide, by decide⟩ (k64 d) ?_
  rintro v ρ' σ' ⟨rfl, rfl, rfl⟩
  refine Ev_aload rfl rfl rfl ?_
  refine Ev_getR (k' := 27) rfl rfl (by decide +kernel) ?_
  refine Ev_const rfl ?_
  refine Ev_callV rfl rfl rfl rfl rfl ⟨by decide, by decide, by decide⟩ (k65 (d + 1)) ?_
  rintro v ρ' σ' ⟨rfl, rfl, rfl⟩
  refine Ev_goto rfl ?_
  exact Ev_return rfl rfl rfl ⟨rfl, rfl, rfl⟩
set_option maxRecDepth 20000 in
theorem k67 (d : Nat) : T l X (d + 0) 68 [.ref 27, .int 2] 32 32 r153 s153 (Ru r154 s154) := by
  refine T_of rfl ?_
  refine Ev_aload rfl rfl rfl ?_
  refine Ev_getR (k' := 30) rfl rfl (by decide +kernel) ?_
  refine Ev_iload rfl rfl ?_
  refine Ev_aload rfl rfl rfl ?_
  refine Ev_getI rfl rfl ?_
  refine Ev_norm (v := 11) (by decide +kernel) ?_
  refine Ev_iast rfl rfl (by unfold vp_in; decide) ?_
  refine Ev_st (ρ' := r154) (σ' := s154) rfl rfl ?_
  exact Ev_return rfl rfl rfl ⟨rfl, rfl, rfl⟩
set_option maxRecDepth 20000 in
theorem k68 (d : Nat) : T l X (d + 0) 66 [.ref 27, .int 3] 32 32 r154 s154 (Re (.int 0) r154 s154) := by
  refine T_of rfl ?_
  refine Ev_aload rfl rfl rfl ?_
  refine Ev_getR (k' := 29) rfl rfl (by decide +kernel) ?_
  refine Ev_iload rfl rfl ?_
  refine Ev_iald rfl rfl (by unfold vp_in; decide) ?_
  refine Ev_norm (v := (-1)) (by decide +kernel) ?_
  refine Ev_const rfl ?_
  refine Ev_icmp_eq rfl (fun _ => ?_) (fun h => absurd (by decide) h)
  refine Ev_const rfl ?_
  exact Ev_ireturn rfl rfl (by decide) rfl ⟨rfl, rfl, rfl⟩
set_option maxRecDepth 20000 in
theorem k69 (d : Nat) : T l X (d + 0) 67 [.ref 27, .int 3] 32 32 r154 s154 (Ru r155 s155) := by
  refine T_of rfl ?_
  refine Ev_aload rfl rfl rfl ?_
  refine Ev_getR (k' := 29) rfl rfl (by decide +kernel) ?_
  refine Ev_iload rfl rfl ?_
  refine Ev_aload rfl rfl rfl ?_
  refine Ev_getI rfl rfl ?_
  refine Ev_norm (v := 11) (by decide +kernel) ?_
  refine Ev_iast rfl rfl (by unfold vp_in; decide) ?_
  refine Ev_st (ρ' := r155) (σ' := s155) rfl rfl ?_
  exact Ev_return rfl rfl rfl ⟨rfl, rfl, rfl⟩
set_option maxRecDepth 20000 in
theorem k70 (d : Nat) : T l X (d + 0) 69 [.ref 27, .int 288] 32 32 r155 s155 (Ru r157 s157) := by
  refine T_of rfl ?_
  refine Ev_aload rfl rfl rfl ?_
  refine Ev_getI rfl rfl ?_
  refine Ev_norm (v := 11) (by decide +kernel) ?_
  refine Ev_const rfl ?_
  refine Ev_icmp_ge rfl (fun h => absurd h (by decide)) (fun _ => ?_)
  refine Ev_aload rfl rfl rfl ?_
  refine Ev_getR (k' := 28) rfl rfl (by decide +kernel) ?_
  refine Ev_aload rfl rfl rfl ?_
  refine Ev_getI rfl rfl ?_
  refine Ev_norm (v := 11) (by decide +kernel) ?_
  refine Ev_iload rfl rfl ?_
  refine Ev_iast rfl rfl (by unfold vp_in; decide) ?_
  refine Ev_st (ρ' := r156) (σ' := s156) rfl rfl ?_
  refine Ev_aload rfl rfl rfl ?_
  refine Ev_dup rfl (fun _ q => nomatch q) ?_
  refine Ev_getI rfl rfl ?_
  refine Ev_norm (v := 11) (by decide +kernel) ?_
  refine Ev_const rfl ?_
  refine Ev_iadd rfl ?_
  refine Ev_norm (v := 12) (by decide) ?_
  refine Ev_putI rfl rfl ⟨rfl, rfl⟩ rfl ?_
  refine Ev_st (ρ' := r157) (σ' := s157) rfl rfl ?_
  exact Ev_return rfl rfl rfl ⟨rfl, rfl, rfl⟩
set_option maxRecDepth 20000 in
theorem k71 (d : Nat) : T l X (d + 1) 70 [.ref 27, .int 1] 32 32 r155 s155 (Ru r157 s157) := by
  refine T_of rfl ?_
  refine Ev_aload rfl rfl rfl ?_
  refine Ev_iload rfl rfl ?_
  refine Ev_const rfl ?_
  refine Ev_ishl rfl ?_
  refine Ev_norm (v := 256) (by decide) ?_
  refine Ev_const rfl ?_
  refine Ev_ior rfl ?_
  refine Ev_norm (v := 288) (by decide) ?_
  refine Ev_callV rfl rfl rfl rfl rfl ⟨by decide, by decide, by decide⟩ (k70 d) ?_
  rintro v ρ' σ' ⟨rfl, rfl, rfl⟩
  exact Ev_return rfl rfl rfl ⟨rfl, rfl, rfl⟩
set_option maxRecDepth 20000 in
theorem k72 (d : Nat) : T l X (d + 2) 9 [.ref 17, .int 3] 32 32 r155 s155 (Ru r157 s157) := by
  refine T_of rfl ?_
  refine Ev_iload rfl rfl ?_
  refine Ev_tab rfl rfl ⟨fun h => absurd h (by decide), fun _ => ⟨fun h => absurd h (by decide), fun _ => ⟨fun h => absurd h (by decide), fun _ => ?_⟩⟩⟩
  refine Ev_aload rfl rfl rfl ?_
  refine Ev_getR (k' := 27) rfl rfl (by decide +kernel) ?_
  refine Ev_const rfl ?_
  refine Ev_callV rfl rfl rfl rfl rfl ⟨by decide, by decide, by decide⟩ (k71 d) ?_
  rintro v ρ' σ' ⟨rfl, rfl, rfl⟩
  exact Ev_return rfl rfl rfl ⟨rfl, rfl, rfl⟩
set_option maxRecDepth 20000 in
theorem k73 (d : Nat) : T l X (d + 0) 68 [.ref 27, .int 3] 32 32 r157 s157 (Ru r158 s158) := by
  refine T_of rfl ?_
  refine Ev_aload rfl rfl rfl ?_
  refine Ev_getR (k' := 30) rfl rfl (by decide +kernel) ?_
  refine Ev_iload rfl rfl ?_
  refine Ev_aload rfl rfl rfl ?_
  refine Ev_getI rfl rfl ?_
  refine Ev_norm (v := 12) (by decide +kernel) ?_
  refine Ev_iast rfl rfl (by unfold vp_in; decide) ?_
  refine Ev_st (ρ' := r158) (σ' := s158) rfl rfl ?_
  exact Ev_return rfl rfl rfl ⟨rfl, rfl, rfl⟩
set_option maxRecDepth 20000 in
theorem k74 (d : Nat) : T l X (d + 3) 8 [.ref 17] 32 32 r126 s126 (Ru r158 s158) := by
  refine T_of rfl ?_
  refine Ev_const rfl ?_
  refine Ev_istore rfl ?_
  refine Ev_iload rfl rfl ?_
  refine Ev_aload rfl rfl rfl ?_
  refine Ev_getI rfl rfl ?_
  refine Ev_norm (v := 0) (by decide +kernel) ?_
  refine Ev_icmp_ge rfl (fun _ => ?_) (fun h => absurd (by decide) h)
  refine Ev_const rfl ?_
  refine Ev_istore rfl ?_
  refine Ev_iload rfl rfl ?_
  refine Ev_const rfl ?_
  refine Ev_icmp_ge rfl (fun h => absurd h (by decide)) (fun _ => ?_)
  refine Ev_aload rfl rfl rfl ?_
  refine Ev_getR (k' := 27) rfl rfl (by decide +kernel) ?_
  refine Ev_iload rfl rfl ?_
  refine Ev_callV rfl rfl rfl rfl rfl ⟨by decide, by decide, by decide⟩ (k41 (d + 2)) ?_
  rintro v ρ' σ' ⟨rfl, rfl, rfl⟩
  refine Ev_if_ne rfl (fun h => absurd h (by decide)) (fun _ => ?_)
  refine Ev_aload rfl rfl rfl ?_
  refine Ev_getR (k' := 27) rfl rfl (by decide +kernel) ?_
  refine Ev_iload rfl rfl ?_
  refine Ev_callV rfl rfl rfl rfl rfl ⟨by decide, by decide, by decide⟩ (k42 (d + 2)) ?_
  rintro v ρ' σ' ⟨rfl, rfl, rfl⟩
  refine Ev_aload rfl rfl rfl ?_
  refine Ev_iload rfl rfl ?_
  refine Ev_callV rfl rfl rfl rfl rfl ⟨by decide, by decide, by decide⟩ (k45 d) ?_
  rintro v ρ' σ' ⟨rfl, rfl, rfl⟩
  refine Ev_aload rfl rfl rfl ?_
  refine Ev_getR (k' := 27) rfl rfl (by decide +kernel) ?_
  refine Ev_iload rfl rfl ?_
  refine Ev_callV rfl rfl rfl rfl rfl ⟨by decide, by decide, by decide⟩ (k46 (d + 2)) ?_
  rintro v ρ' σ' ⟨rfl, rfl, rfl⟩
  refine Ev_iincE (v := 1) rfl rfl (by decide) ?_
  refine Ev_goto rfl ?_
  refine Ev_iload rfl rfl ?_
  refine Ev_const rfl ?_
  refine Ev_icmp_ge rfl (fun h => absurd h (by decide)) (fun _ => ?_)
  refine Ev_aload rfl rfl rfl ?_
  refine Ev_getR (k' := 27) rfl rfl (by decide +kernel) ?_
  refine Ev_iload rfl rfl ?_
  refine Ev_callV rfl rfl rfl rfl rfl ⟨by decide, by decide, by decide⟩ (k47 (d + 2)) ?_
  rintro v ρ' σ' ⟨rfl, rfl, rfl⟩
  refine Ev_if_ne rfl (fun h => absurd h (by decide)) (fun _ => ?_)
  refine Ev_aload rfl rfl rfl ?_
  refine Ev_getR (k' := 27) rfl rfl (by decide +kernel) ?_
  refine Ev_iload rfl rfl ?_
  refine Ev_callV rfl rfl rfl rfl rfl ⟨by decide, by decide, by decide⟩ (k48 (d + 2)) ?_
  rintro v ρ' σ' ⟨rfl, rfl, rfl⟩
  refine Ev_aload rfl rfl rfl ?_
  refine Ev_iload rfl rfl ?_
  refine Ev_callV rfl rfl rfl rfl rfl ⟨by decide, by decide, by decide⟩ (k58 d) ?_
  rintro v ρ' σ' ⟨rfl, rfl, rfl⟩
  refine Ev_aload rfl rfl rfl ?_
  refine Ev_getR (k' := 27) rfl rfl (by decide +kernel) ?_
  refine Ev_iload rfl rfl ?_
  refine Ev_callV rfl rfl rfl rfl rfl ⟨by decide, by decide, by decide⟩ (k59 (d + 2)) ?_
  rintro v ρ' σ' ⟨rfl, rfl, rfl⟩
  refine Ev_iincE (v := 2) rfl rfl (by decide) ?_
  refine Ev_goto rfl ?_
  refine Ev_iload rfl rfl ?_
  refine Ev_const rfl ?_
  refine Ev_icmp_ge rfl (fun h => absurd h (by decide)) (fun _ => ?_)
  refine Ev_aload rfl rfl rfl ?_
  refine Ev_getR (k' := 27) rfl rfl (by decide +kernel) ?_
  refine Ev_iload rfl rfl ?_
  refine Ev_callV rfl rfl rfl rfl rfl ⟨by decide, by decide, by decide⟩ (k60 (d + 2)) ?_
  rintro v ρ' σ' ⟨rfl, rfl, rfl⟩
  refine Ev_if_ne rfl (fun h => absurd h (by decide)) (fun _ => ?_)
  refine Ev_aload rfl rfl rfl ?_
  refine Ev_getR (k' := 27) rfl rfl (by decide +kernel) ?_
  refine Ev_iload rfl rfl ?_
  refine Ev_callV rfl rfl rfl rfl rfl ⟨by decide, by decide, by decide⟩ (k61 (d + 2)) ?_
  rintro v ρ' σ' ⟨rfl, rfl, rfl⟩
  refine Ev_aload rfl rfl rfl ?_
  refine Ev_iload rfl rfl ?_
  refine Ev_callV rfl rfl rfl rfl rfl ⟨by decide, by decide, by decide⟩ (k66 d) ?_
  rintro v ρ' σ' ⟨rfl, rfl, rfl⟩
  refine Ev_aload rfl rfl rfl ?_
  refine Ev_getR (k' := 27) rfl rfl (by decide +kernel) ?_
  refine Ev_iload rfl rfl ?_
  refine Ev_callV rfl rfl rfl rfl rfl ⟨by decide, by decide, by decide⟩ (k67 (d + 2)) ?_
  rintro v ρ' σ' ⟨rfl, rfl, rfl⟩
  refine Ev_iincE (v := 3) rfl rfl (by decide) ?_
  refine Ev_goto rfl ?_
  refine Ev_iload rfl rfl ?_
  refine Ev_const rfl ?_
  refine Ev_icmp_ge rfl (fun h => absurd h (by decide)) (fun _ => ?_)
  refine Ev_aload rfl rfl rfl ?_
  refine Ev_getR (k' := 27) rfl rfl (by decide +kernel) ?_
  refine Ev_iload rfl rfl ?_
  refine Ev_callV rfl rfl rfl rfl rfl ⟨by decide, by decide, by decide⟩ (k68 (d + 2)) ?_
  rintro v ρ' σ' ⟨rfl, rfl, rfl⟩
  refine Ev_if_ne rfl (fun h => absurd h (by decide)) (fun _ => ?_)
  refine Ev_aload rfl rfl rfl ?_
  refine Ev_getR (k' := 27) rfl rfl (by decide +kernel) ?_
  refine Ev_iload rfl rfl ?_
  refine Ev_callV rfl rfl rfl rfl rfl ⟨by decide, by decide, by decide⟩ (k69 (d + 2)) ?_
  rintro v ρ' σ' ⟨rfl, rfl, rfl⟩
  refine Ev_aload rfl rfl rfl ?_
  refine Ev_iload rfl rfl ?_
  refine Ev_callV rfl rfl rfl rfl rfl ⟨by decide, by decide, by decide⟩ (k72 d) ?_
  rintro v ρ' σ' ⟨rfl, rfl, rfl⟩
  refine Ev_aload rfl rfl rfl ?_
  refine Ev_getR (k' := 27) rfl rfl (by decide +kernel) ?_
  refine Ev_iload rfl rfl ?_
  refine Ev_callV rfl rfl rfl rfl rfl ⟨by decide, by decide, by decide⟩ (k73 (d + 2)) ?_
  rintro v ρ' σ' ⟨rfl, rfl, rfl⟩
  refine Ev_iincE (v := 4) rfl rfl (by decide) ?_
  refine Ev_goto rfl ?_
  refine Ev_iload rfl rfl ?_
  refine Ev_const rfl ?_
  refine Ev_icmp_ge rfl (fun _ => ?_) (fun h => absurd (by decide) h)
  exact Ev_return rfl rfl rfl ⟨rfl, rfl, rfl⟩
set_option maxRecDepth 20000 in
theorem k75 (d : Nat) : T l X (d + 4) 0 [.ref 17] 18 32 r82 s82 (Ru r158 s158) := by
  refine T_of rfl ?_
  refine Ev_aload rfl rfl rfl ?_
  refine Ev_obj rfl rfl ?_
  refine Ev_aload rfl rfl rfl ?_
  refine Ev_const rfl ?_
  refine Ev_newa rfl (by decide) rfl ⟨by decide, by decide⟩ ?_
  refine Ev_st (ρ' := r83) (σ' := s83) rfl rfl ?_
  refine Ev_putR rfl rfl (fun _ => ⟨rfl, rfl⟩) (Or.inr ⟨rfl, rfl, rfl⟩) ?_
  refine Ev_st (ρ' := r84) (σ' := s84) rfl rfl ?_
  refine Ev_aload rfl rfl rfl ?_
  refine Ev_const rfl ?_
  refine Ev_newa rfl (by decide) rfl ⟨by decide, by decide⟩ ?_
  refine Ev_st (ρ' := r85) (σ' := s85) rfl rfl ?_
  refine Ev_putR rfl rfl (fun _ => ⟨rfl, rfl⟩) (Or.inr ⟨rfl, rfl, rfl⟩) ?_
  refine Ev_st (ρ' := r86) (σ' := s86) rfl rfl ?_
  refine Ev_aload rfl rfl rfl ?_
  refine Ev_const rfl ?_
  refine Ev_newa rfl (by decide) rfl ⟨by decide, by decide⟩ ?_
  refine Ev_st (ρ' := r87) (σ' := s87) rfl rfl ?_
  refine Ev_putR rfl rfl (fun _ => ⟨rfl, rfl⟩) (Or.inr ⟨rfl, rfl, rfl⟩) ?_
  refine Ev_st (ρ' := r88) (σ' := s88) rfl rfl ?_
  refine Ev_aload rfl rfl rfl ?_
  refine Ev_const rfl ?_
  refine Ev_newa rfl (by decide) rfl ⟨by decide, by decide⟩ ?_
  refine Ev_st (ρ' := r89) (σ' := s89) rfl rfl ?_
  refine Ev_putR rfl rfl (fun _ => ⟨rfl, rfl⟩) (Or.inr ⟨rfl, rfl, rfl⟩) ?_
  refine Ev_st (ρ' := r90) (σ' := s90) rfl rfl ?_
  refine Ev_aload rfl rfl rfl ?_
  refine Ev_const rfl ?_
  refine Ev_newa rfl (by decide) rfl ⟨by decide, by decide⟩ ?_
  refine Ev_st (ρ' := r91) (σ' := s91) rfl rfl ?_
  refine Ev_putR rfl rfl (fun _ => ⟨rfl, rfl⟩) (Or.inr ⟨rfl, rfl, rfl⟩) ?_
  refine Ev_st (ρ' := r92) (σ' := s92) rfl rfl ?_
  refine Ev_aload rfl rfl rfl ?_
  refine Ev_const rfl ?_
  refine Ev_newa rfl (by decide) rfl ⟨by decide, by decide⟩ ?_
  refine Ev_st (ρ' := r93) (σ' := s93) rfl rfl ?_
  refine Ev_putR rfl rfl (fun _ => ⟨rfl, rfl⟩) (Or.inr ⟨rfl, rfl, rfl⟩) ?_
  refine Ev_st (ρ' := r94) (σ' := s94) rfl rfl ?_
  refine Ev_aload rfl rfl rfl ?_
  refine Ev_const rfl ?_
  refine Ev_newa rfl (by decide) rfl ⟨by decide, by decide⟩ ?_
  refine Ev_st (ρ' := r95) (σ' := s95) rfl rfl ?_
  refine Ev_putR rfl rfl (fun _ => ⟨rfl, rfl⟩) (Or.inr ⟨rfl, rfl, rfl⟩) ?_
  refine Ev_st (ρ' := r96) (σ' := s96) rfl rfl ?_
  refine Ev_aload rfl rfl rfl ?_
  refine Ev_const rfl ?_
  refine Ev_newa rfl (by decide) rfl ⟨by decide, by decide⟩ ?_
  refine Ev_st (ρ' := r97) (σ' := s97) rfl rfl ?_
  refine Ev_putR rfl rfl (fun _ => ⟨rfl, rfl⟩) (Or.inr ⟨rfl, rfl, rfl⟩) ?_
  refine Ev_st (ρ' := r98) (σ' := s98) rfl rfl ?_
  refine Ev_aload rfl rfl rfl ?_
  refine Ev_const rfl ?_
  refine Ev_newa rfl (by decide) rfl ⟨by decide, by decide⟩ ?_
  refine Ev_st (ρ' := r99) (σ' := s99) rfl rfl ?_
  refine Ev_putR rfl rfl (fun _ => ⟨rfl, rfl⟩) (Or.inr ⟨rfl, rfl, rfl⟩) ?_
  refine Ev_st (ρ' := r100) (σ' := s100) rfl rfl ?_
  refine Ev_aload rfl rfl rfl ?_
  refine Ev_new rfl rfl ⟨by decide, by decide⟩ ?_
  refine Ev_st (ρ' := r101) (σ' := s101) rfl rfl ?_
  refine Ev_dup rfl (fun _ q => nomatch q) ?_
  refine Ev_callI rfl rfl rfl rfl ⟨by decide, by decide, by decide⟩ (k38 (d + 2)) ?_
  rintro v ρ' σ' ⟨rfl, rfl, rfl⟩
  refine Ev_putR rfl rfl (fun _ => ⟨rfl, rfl⟩) (Or.inr ⟨rfl, rfl, rfl⟩) ?_
  refine Ev_st (ρ' := r110) (σ' := s110) rfl rfl ?_
  refine Ev_aload rfl rfl rfl ?_
  refine Ev_callV rfl rfl rfl rfl rfl ⟨by decide, by decide, by decide⟩ (k40 (d + 2)) ?_
  rintro v ρ' σ' ⟨rfl, rfl, rfl⟩
  refine Ev_aload rfl rfl rfl ?_
  refine Ev_callV rfl rfl rfl rfl rfl ⟨by decide, by decide, by decide⟩ (k74 d) ?_
  rintro v ρ' σ' ⟨rfl, rfl, rfl⟩
  exact Ev_return rfl rfl rfl ⟨rfl, rfl, rfl⟩
set_option maxRecDepth 20000 in
theorem k76 (d : Nat) : T l X (d + 1) 57 [.ref 32] 33 43 r160 s160 (Ru r168 s168) := by
  refine T_of rfl ?_
  refine Ev_aload rfl rfl rfl ?_
  refine Ev_obj rfl rfl ?_
  refine Ev_aload rfl rfl rfl ?_
  refine Ev_const rfl ?_
  refine Ev_const rfl ?_
  refine Ev_multi 6 8 rfl (by decide) (by decide) (by decide) (by decide) ⟨by decide, by decide⟩ ?_
  refine Ev_st (ρ' := r161) (σ' := s161) rfl rfl ?_
  refine Ev_putR rfl rfl (fun _ => ⟨rfl, rfl⟩) (Or.inr ⟨rfl, rfl, rfl⟩) ?_
  refine Ev_st (ρ' := r162) (σ' := s162) rfl rfl ?_
  refine Ev_aload rfl rfl rfl ?_
  refine Ev_const rfl ?_
  refine Ev_newa rfl (by decide) rfl ⟨by decide, by decide⟩ ?_
  refine Ev_st (ρ' := r163) (σ' := s163) rfl rfl ?_
  refine Ev_putR rfl rfl (fun _ => ⟨rfl, rfl⟩) (Or.inr ⟨rfl, rfl, rfl⟩) ?_
  refine Ev_st (ρ' := r164) (σ' := s164) rfl rfl ?_
  refine Ev_aload rfl rfl rfl ?_
  refine Ev_const rfl ?_
  refine Ev_newa rfl (by decide) rfl ⟨by decide, by decide⟩ ?_
  refine Ev_st (ρ' := r165) (σ' := s165) rfl rfl ?_
  refine Ev_putR rfl rfl (fun _ => ⟨rfl, rfl⟩) (Or.inr ⟨rfl, rfl, rfl⟩) ?_
  refine Ev_st (ρ' := r166) (σ' := s166) rfl rfl ?_
  refine Ev_aload rfl rfl rfl ?_
  refine Ev_const rfl ?_
  refine Ev_newa rfl (by decide) rfl ⟨by decide, by decide⟩ ?_
  refine Ev_st (ρ' := r167) (σ' := s167) rfl rfl ?_
  refine Ev_putR rfl rfl (fun _ => ⟨rfl, rfl⟩) (Or.inr ⟨rfl, rfl, rfl⟩) ?_
  refine Ev_st (ρ' := r168) (σ' := s168) rfl rfl ?_
  exact Ev_return rfl rfl rfl ⟨rfl, rfl, rfl⟩
set_option maxRecDepth 20000 in
theorem k77 (d : Nat) : T l X (d + 1) 57 [.ref 45] 46 56 r173 s173 (Ru r181 s181) := by
  refine T_of rfl ?_
  refine Ev_aload rfl rfl rfl ?_
  refine Ev_obj rfl rfl ?_
  refine Ev_aload rfl rfl rfl ?_
  refine Ev_const rfl ?_
  refine Ev_const rfl ?_
  refine Ev_multi 6 8 rfl (by decide) (by decide) (by decide) (by decide) ⟨by decide, by decide⟩ ?_
  refine Ev_st (ρ' := r174) (σ' := s174) rfl rfl ?_
  refine Ev_putR rfl rfl (fun _ => ⟨rfl, rfl⟩) (Or.inr ⟨rfl, rfl, rfl⟩) ?_
  refine Ev_st (ρ' := r175) (σ' := s175) rfl rfl ?_
  refine Ev_aload rfl rfl rfl ?_
  refine Ev_const rfl ?_
  refine Ev_newa rfl (by decide) rfl ⟨by decide, by decide⟩ ?_
  refine Ev_st (ρ' := r176) (σ' := s176) rfl rfl ?_
  refine Ev_putR rfl rfl (fun _ => ⟨rfl, rfl⟩) (Or.inr ⟨rfl, rfl, rfl⟩) ?_
  refine Ev_st (ρ' := r177) (σ' := s177) rfl rfl ?_
  refine Ev_aload rfl rfl rfl ?_
  refine Ev_const rfl ?_
  refine Ev_newa rfl (by decide) rfl ⟨by decide, by decide⟩ ?_
  refine Ev_st (ρ' := r178) (σ' := s178) rfl rfl ?_
  refine Ev_putR rfl rfl (fun _ => ⟨rfl, rfl⟩) (Or.inr ⟨rfl, rfl, rfl⟩) ?_
  refine Ev_st (ρ' := r179) (σ' := s179) rfl rfl ?_
  refine Ev_aload rfl rfl rfl ?_
  refine Ev_const rfl ?_
  refine Ev_newa rfl (by decide) rfl ⟨by decide, by decide⟩ ?_
  refine Ev_st (ρ' := r180) (σ' := s180) rfl rfl ?_
  refine Ev_putR rfl rfl (fun _ => ⟨rfl, rfl⟩) (Or.inr ⟨rfl, rfl, rfl⟩) ?_
  refine Ev_st (ρ' := r181) (σ' := s181) rfl rfl ?_
  exact Ev_return rfl rfl rfl ⟨rfl, rfl, rfl⟩
set_option maxRecDepth 20000 in
theorem k78 (d : Nat) : T l X (d + 1) 57 [.ref 56] 57 67 r183 s183 (Ru r191 s191) := by
  refine T_of rfl ?_
  refine Ev_aload rfl rfl rfl ?_
  refine Ev_obj rfl rfl ?_
  refine Ev_aload rfl rfl rfl ?_
  refine Ev_const rfl ?_
  refine Ev_const rfl ?_
  refine Ev_multi 6 8 rfl (by decide) (by decide) (by decide) (by decide) ⟨by decide, by decide⟩ ?_
  refine Ev_st (ρ' := r184) (σ' := s184) rfl rfl ?_
  refine Ev_putR rfl rfl (fun _ => ⟨rfl, rfl⟩) (Or.inr ⟨rfl, rfl, rfl⟩) ?_
  refine Ev_st (ρ' := r185) (σ' := s185) rfl rfl ?_
  refine Ev_aload rfl rfl rfl ?_
  refine Ev_const rfl ?_
  refine Ev_newa rfl (by decide) rfl ⟨by decide, by decide⟩ ?_
  refine Ev_st (ρ' := r186) (σ' := s186) rfl rfl ?_
  refine Ev_putR rfl rfl (fun _ => ⟨rfl, rfl⟩) (Or.inr ⟨rfl, rfl, rfl⟩) ?_
  refine Ev_st (ρ' := r187) (σ' := s187) rfl rfl ?_
  refine Ev_aload rfl rfl rfl ?_
  refine Ev_const rfl ?_
  refine Ev_newa rfl (by decide) rfl ⟨by decide, by decide⟩ ?_
  refine Ev_st (ρ' := r188) (σ' := s188) rfl rfl ?_
  refine Ev_putR rfl rfl (fun _ => ⟨rfl, rfl⟩) (Or.inr ⟨rfl, rfl, rfl⟩) ?_
  refine Ev_st (ρ' := r189) (σ' := s189) rfl rfl ?_
  refine Ev_aload rfl rfl rfl ?_
  refine Ev_const rfl ?_
  refine Ev_newa rfl (by decide) rfl ⟨by decide, by decide⟩ ?_
  refine Ev_st (ρ' := r190) (σ' := s190) rfl rfl ?_
  refine Ev_putR rfl rfl (fun _ => ⟨rfl, rfl⟩) (Or.inr ⟨rfl, rfl, rfl⟩) ?_
  refine Ev_st (ρ' := r191) (σ' := s191) rfl rfl ?_
  exact Ev_return rfl rfl rfl ⟨rfl, rfl, rfl⟩
set_option maxRecDepth 20000 in
theorem k79 (d : Nat) : T l X (d + 1) 57 [.ref 67] 68 78 r193 s193 (Ru r201 s201) := by
  refine T_of rfl ?_
  refine Ev_aload rfl rfl rfl ?_
  refine Ev_obj rfl rfl ?_
  refine Ev_aload rfl rfl rfl ?_
  refine Ev_const rfl ?_
  refine Ev_const rfl ?_
  refine Ev_multi 6 8 rfl (by decide) (by decide) (by decide) (by decide) ⟨by decide, by decide⟩ ?_
  refine Ev_st (ρ' := r194) (σ' := s194) rfl rfl ?_
  refine Ev_putR rfl rfl (fun _ => ⟨rfl, rfl⟩) (Or.inr ⟨rfl, rfl, rfl⟩) ?_
  refine Ev_st (ρ' := r195) (σ' := s195) rfl rfl ?_
  refine Ev_aload rfl rfl rfl ?_
  refine Ev_const rfl ?_
  refine Ev_newa rfl (by decide) rfl ⟨by decide, by decide⟩ ?_
  refine Ev_st (ρ' := r196) (σ' := s196) rfl rfl ?_
  refine Ev_putR rfl rfl (fun _ => ⟨rfl, rfl⟩) (Or.inr ⟨rfl, rfl, rfl⟩) ?_
  refine Ev_st (ρ' := r197) (σ' := s197) rfl rfl ?_
  refine Ev_aload rfl rfl rfl ?_
  refine Ev_const rfl ?_
  refine Ev_newa rfl (by decide) rfl ⟨by decide, by decide⟩ ?_
  refine Ev_st (ρ' := r198) (σ' := s198) rfl rfl ?_
  refine Ev_putR rfl rfl (fun _ => ⟨rfl, rfl⟩) (Or.inr ⟨rfl, rfl, rfl⟩) ?_
  refine Ev_st (ρ' := r199) (σ' := s199) rfl rfl ?_
  refine Ev_aload rfl rfl rfl ?_
  refine Ev_const rfl ?_
  refine Ev_newa rfl (by decide) rfl ⟨by decide, by decide⟩ ?_
  refine Ev_st (ρ' := r200) (σ' := s200) rfl rfl ?_
  refine Ev_putR rfl rfl (fun _ => ⟨rfl, rfl⟩) (Or.inr ⟨rfl, rfl, rfl⟩) ?_
  refine Ev_st (ρ' := r201) (σ' := s201) rfl rfl ?_
  exact Ev_return rfl rfl rfl ⟨rfl, rfl, rfl⟩
set_option maxRecDepth 20000 in
theorem k80 (d : Nat) : T l X (d + 1) 57 [.ref 78] 79 89 r203 s203 (Ru r211 s211) := by
  refine T_of rfl ?_
  refine Ev_aload rfl rfl rfl ?_
  refine Ev_obj rfl rfl ?_
  refine Ev_aload rfl rfl rfl ?_
  refine Ev_const rfl ?_
  refine Ev_const rfl ?_
  refine Ev_multi 6 8 rfl (by decide) (by decide) (by decide) (by decide) ⟨by decide, by decide⟩ ?_
  refine Ev_st (ρ' := r204) (σ' := s204) rfl rfl ?_
  refine Ev_putR rfl rfl (fun _ => ⟨rfl, rfl⟩) (Or.inr ⟨rfl, rfl, rfl⟩) ?_
  refine Ev_st (ρ' := r205) (σ' := s205) rfl rfl ?_
  refine Ev_aload rfl rfl rfl ?_
  refine Ev_const rfl ?_
  refine Ev_newa rfl (by decide) rfl ⟨by decide, by decide⟩ ?_
  refine Ev_st (ρ' := r206) (σ' := s206) rfl rfl ?_
  refine Ev_putR rfl rfl (fun _ => ⟨rfl, rfl⟩) (Or.inr ⟨rfl, rfl, rfl⟩) ?_
  refine Ev_st (ρ' := r207) (σ' := s207) rfl rfl ?_
  refine Ev_aload rfl rfl rfl ?_
  refine Ev_const rfl ?_
  refine Ev_newa rfl (by decide) rfl ⟨by decide, by decide⟩ ?_
  refine Ev_st (ρ' := r208) (σ' := s208) rfl rfl ?_
  refine Ev_putR rfl rfl (fun _ => ⟨rfl, rfl⟩) (Or.inr ⟨rfl, rfl, rfl⟩) ?_
  refine Ev_st (ρ' := r209) (σ' := s209) rfl rfl ?_
  refine Ev_aload rfl rfl rfl ?_
  refine Ev_const rfl ?_
  refine Ev_newa rfl (by decide) rfl ⟨by decide, by decide⟩ ?_
  refine Ev_st (ρ' := r210) (σ' := s210) rfl rfl ?_
  refine Ev_putR rfl rfl (fun _ => ⟨rfl, rfl⟩) (Or.inr ⟨rfl, rfl, rfl⟩) ?_
  refine Ev_st (ρ' := r211) (σ' := s211) rfl rfl ?_
  exact Ev_return rfl rfl rfl ⟨rfl, rfl, rfl⟩
set_option maxRecDepth 20000 in
theorem k81 (d : Nat) : T l X (d + 1) 57 [.ref 89] 90 100 r213 s213 (Ru r221 s221) := by
  refine T_of rfl ?_
  refine Ev_aload rfl rfl rfl ?_
  refine Ev_obj rfl rfl ?_
  refine Ev_aload rfl rfl rfl ?_
  refine Ev_const rfl ?_
  refine Ev_const rfl ?_
  refine Ev_multi 6 8 rfl (by decide) (by decide) (by decide) (by decide) ⟨by decide, by decide⟩ ?_
  refine Ev_st (ρ' := r214) (σ' := s214) rfl rfl ?_
  refine Ev_putR rfl rfl (fun _ => ⟨rfl, rfl⟩) (Or.inr ⟨rfl, rfl, rfl⟩) ?_
  refine Ev_st (ρ' := r215) (σ' := s215) rfl rfl ?_
  refine Ev_aload rfl rfl rfl ?_
  refine Ev_const rfl ?_
  refine Ev_newa rfl (by decide) rfl ⟨by decide, by decide⟩ ?_
  refine Ev_st (ρ' := r216) (σ' := s216) rfl rfl ?_
  refine Ev_putR rfl rfl (fun _ => ⟨rfl, rfl⟩) (Or.inr ⟨rfl, rfl, rfl⟩) ?_
  refine Ev_st (ρ' := r217) (σ' := s217) rfl rfl ?_
  refine Ev_aload rfl rfl rfl ?_
  refine Ev_const rfl ?_
  refine Ev_newa rfl (by decide) rfl ⟨by decide, by decide⟩ ?_
  refine Ev_st (ρ' := r218) (σ' := s218) rfl rfl ?_
  refine Ev_putR rfl rfl (fun _ => ⟨rfl, rfl⟩) (Or.inr ⟨rfl, rfl, rfl⟩) ?_
  refine Ev_st (ρ' := r219) (σ' := s219) rfl rfl ?_
  refine Ev_aload rfl rfl rfl ?_
  refine Ev_const rfl ?_
  refine Ev_newa rfl (by decide) rfl ⟨by decide, by decide⟩ ?_
  refine Ev_st (ρ' := r220) (σ' := s220) rfl rfl ?_
  refine Ev_putR rfl rfl (fun _ => ⟨rfl, rfl⟩) (Or.inr ⟨rfl, rfl, rfl⟩) ?_
  refine Ev_st (ρ' := r221) (σ' := s221) rfl rfl ?_
  exact Ev_return rfl rfl rfl ⟨rfl, rfl, rfl⟩
end EvK0
