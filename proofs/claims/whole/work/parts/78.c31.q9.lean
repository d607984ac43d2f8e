section
variable (d t : Nat) (a0 : Nat) (x0 y0 : Int) (v0 : AV) (a1 : Nat) (x1 y1 : Int) (v1 : AV) (a2 : Nat) (x2 y2 : Int) (v2 : AV) (a3 : Nat) (x3 y3 : Int) (v3 : AV) (a4 : Nat) (x4 y4 : Int) (v4 : AV) (a5 : Nat) (x5 y5 : Int) (v5 : AV) (a6 : Nat) (x6 y6 : Int) (v6 : AV) (a7 : Nat) (x7 y7 : Int) (v7 : AV) (a8 : Nat) (x8 y8 : Int) (v8 : AV) (a9 : Nat) (x9 y9 : Int) (v9 : AV) (a10 : Nat) (x10 y10 : Int) (v10 : AV) (a11 : Nat) (x11 y11 : Int) (v11 : AV) (a12 : Nat) (x12 y12 : Int) (v12 : AV) (a13 : Nat) (x13 y13 : Int) (v13 : AV) (a14 : Nat) (x14 y14 : Int) (v14 : AV) (a15 : Nat) (x15 y15 : Int) (v15 : AV) (a16 : Nat) (x16 y16 : Int) (v16 : AV) (a17 : Nat) (x17 y17 : Int) (v17 : AV) (a18 : Nat) (x18 y18 : Int) (v18 : AV) (a19 : Nat) (x19 y19 : Int) (v19 : AV) (a20 : Nat) (x20 y20 : Int) (v20 : AV) (a21 : Nat) (x21 y21 : Int) (v21 : AV) (b0 : Nat) (z0 w0 : Int) (b1 : Nat) (z1 w1 : Int) (b2 : Nat) (z2 w2 : Int) (b3 : Nat) (z3 w3 : Int) (b4 : Nat) (z4 w4 : Int) (b5 : Nat) (z5 w5 : Int) (b6 : Nat) (z6 w6 : Int) (b7 : Nat) (z7 w7 : Int) (b8 : Nat) (z8 w8 : Int) (b9 : Nat) (z9 w9 : Int) (h : HP)
/-! 268 TheLaw.law([I)Z -/
set_option maxRecDepth 8000 in
theorem s_268_0 : run (d + 1) md_268 0 [vr a0, vu, vu, vu, vu, vu, vu] [] h = run (d + 1) md_268 3 [vr a0, vu, vu, vu, vu, vu, vu] [vr (h_sz h)] (alo h 8 0 7) := (run_step _ _ _ _ _ _).trans rfl
set_option maxRecDepth 8000 in
theorem s_268_3 : run (d + 1) md_268 3 [vr a0, vu, vu, vu, vu, vu, vu] [vr b0] h = run (d + 1) md_268 4 [vr a0, vu, vu, vu, vu, vu, vu] [vr b0, vr b0] h := (run_step _ _ _ _ _ _).trans rfl
set_option maxRecDepth 20000 in
set_option maxRecDepth 8000 in
theorem s_268_4 : run (d + 1) md_268 4 [vr a0, vu, vu, vu, vu, vu, vu] [vr b1, vr b0] h = bif isK h b1 8 then bV (ev d 109 [vr b1] h) fun h1 => run (d + 1) md_268 7 [vr a0, vu, vu, vu, vu, vu, vu] [vr b0] h1 else none := (run_step _ _ _ _ _ _).trans rfl
set_option maxRecDepth 8000 in
theorem s_268_7 : run (d + 1) md_268 7 [vr a0, vu, vu, vu, vu, vu, vu] [vr b0] h = run (d + 1) md_268 8 [vr a0, vr b0, vu, vu, vu, vu, vu] [] h := (run_step _ _ _ _ _ _).trans rfl
set_option maxRecDepth 8000 in
theorem s_268_8 : run (d + 1) md_268 8 [vr a0, vr a1, vu, vu, vu, vu, vu] [] h = run (d + 1) md_268 11 [vr a0, vr a1, vu, vu, vu, vu, vu] [vr (h_sz h)] (alo h 9 0 55) := (run_step _ _ _ _ _ _).trans rfl
set_option maxRecDepth 8000 in
theorem s_268_11 : run (d + 1) md_268 11 [vr a0, vr a1, vu, vu, vu, vu, vu] [vr b0] h = run (d + 1) md_268 12 [vr a0, vr a1, vu, vu, vu, vu, vu] [vr b0, vr b0] h := (run_step _ _ _ _ _ _).trans rfl
set_option maxRecDepth 20000 in
set_option maxRecDepth 8000 in
theorem s_268_12 : run (d + 1) md_268 12 [vr a0, vr a1, vu, vu, vu, vu, vu] [vr b1, vr b0] h = bif isK h b1 9 then bV (ev d 146 [vr b1] h) fun h1 => run (d + 1) md_268 15 [vr a0, vr a1, vu, vu, vu, vu, vu] [vr b0] h1 else none := (run_step _ _ _ _ _ _).trans rfl
set_option maxRecDepth 8000 in
theorem s_268_15 : run (d + 1) md_268 15 [vr a0, vr a1, vu, vu, vu, vu, vu] [vr b0] h = run (d + 1) md_268 16 [vr a0, vr a1, vr b0, vu, vu, vu, vu] [] h := (run_step _ _ _ _ _ _).trans rfl
set_option maxRecDepth 8000 in
theorem s_268_16 : run (d + 1) md_268 16 [vr a0, vr a1, vr a2, vu, vu, vu, vu] [] h = run (d + 1) md_268 17 [vr a0, vr a1, vr a2, vu, vu, vu, vu] [vi 1] h := (run_step _ _ _ _ _ _).trans rfl
set_option maxRecDepth 8000 in
theorem s_268_17 : run (d + 1) md_268 17 [vr a0, vr a1, vr a2, vu, vu, vu, vu] [vi z0] h = bif decide (0 ≤ z0) && decide (z0 ≤ 100000) then run (d + 1) md_268 19 [vr a0, vr a1, vr a2, vu, vu, vu, vu] [vr (h_sz h)] (alo h 12 (z0 : Int).toNat (z0 : Int).toNat) else none := (run_step _ _ _ _ _ _).trans rfl
set_option maxRecDepth 8000 in
theorem s_268_19 : run (d + 1) md_268 19 [vr a0, vr a1, vr a2, vu, vu, vu, vu] [vr b0] h = run (d + 1) md_268 20 [vr a0, vr a1, vr a2, vr b0, vu, vu, vu] [] h := (run_step _ _ _ _ _ _).trans rfl
set_option maxRecDepth 8000 in
theorem s_268_20 : run (d + 1) md_268 20 [vr a0, vr a1, vr a2, vr a3, vu, vu, vu] [] h = run (d + 1) md_268 21 [vr a0, vr a1, vr a2, vr a3, vu, vu, vu] [vi 0] h := (run_step _ _ _ _ _ _).trans rfl
set_option maxRecDepth 8000 in
theorem s_268_21 : run (d + 1) md_268 21 [vr a0, vr a1, vr a2, vr a3, vu, vu, vu] [vi z0] h = run (d + 1) md_268 23 [vr a0, vr a1, vr a2, vr a3, vi z0, vu, vu] [] h := (run_step _ _ _ _ _ _).trans rfl
set_option maxRecDepth 8000 in
theorem s_268_23 : run (d + 1) md_268 23 [vr a0, vr a1, vr a2, vr a3, vi x4, v5, v6] [] h = run (d + 1) md_268 25 [vr a0, vr a1, vr a2, vr a3, vi x4, v5, v6] [vi x4] h := (run_step _ _ _ _ _ _).trans rfl
set_option maxRecDepth 8000 in
theorem s_268_25 : run (d + 1) md_268 25 [vr a0, vr a1, vr a2, vr a3, vi x4, v5, v6] [vi z0] h = run (d + 1) md_268 26 [vr a0, vr a1, vr a2, vr a3, vi x4, v5, v6] [vr a0, vi z0] h := (run_step _ _ _ _ _ _).trans rfl
set_option maxRecDepth 8000 in
theorem s_268_26 : run (d + 1) md_268 26 [vr a0, vr a1, vr a2, vr a3, vi x4, v5, v6] [vr b1, vi z0] h = bif isK h b1 11 || isK h b1 22 || isK h b1 21 || isK h b1 24 || isK h b1 10 || isK h b1 12 then run (d + 1) md_268 27 [vr a0, vr a1, vr a2, vr a3, vi x4, v5, v6] [vi (h_ln h b1 : Int), vi z0] h else none := (run_step _ _ _ _ _ _).trans rfl
set_option maxRecDepth 8000 in
theorem s_268_27 : run (d + 1) md_268 27 [vr a0, vr a1, vr a2, vr a3, vi x4, v5, v6] [vi z1, vi z0] h = run (d + 1) md_268 29 [vr a0, vr a1, vr a2, vr a3, vi x4, v5, v6] [vi 7, vi z1, vi z0] h := (run_step _ _ _ _ _ _).trans rfl
set_option maxRecDepth 8000 in
theorem s_268_29 : run (d + 1) md_268 29 [vr a0, vr a1, vr a2, vr a3, vi x4, v5, v6] [vi z2, vi z1, vi z0] h = run (d + 1) md_268 30 [vr a0, vr a1, vr a2, vr a3, vi x4, v5, v6] [vi (i_sub z1 z2), vi z0] h := (run_step _ _ _ _ _ _).trans rfl
set_option maxRecDepth 8000 in
theorem s_268_30 : run (d + 1) md_268 30 [vr a0, vr a1, vr a2, vr a3, vi x4, v5, v6] [vi z1, vi z0] h = bif decide (z1 < z0) then run (d + 1) md_268 1504 [vr a0, vr a1, vr a2, vr a3, vi x4, v5, v6] [] h else run (d + 1) md_268 33 [vr a0, vr a1, vr a2, vr a3, vi x4, v5, v6] [] h := (run_step _ _ _ _ _ _).trans rfl
set_option maxRecDepth 8000 in
theorem s_268_33 : run (d + 1) md_268 33 [vr a0, vr a1, vr a2, vr a3, vi x4, v5, v6] [] h = run (d + 1) md_268 34 [vr a0, vr a1, vr a2, vr a3, vi x4, v5, v6] [vr a0] h := (run_step _ _ _ _ _ _).trans rfl
set_option maxRecDepth 8000 in
theorem s_268_34 : run (d + 1) md_268 34 [vr a0, vr a1, vr a2, vr a3, vi x4, v5, v6] [vr b0] h = run (d + 1) md_268 36 [vr a0, vr a1, vr a2, vr a3, vi x4, v5, v6] [vi x4, vr b0] h := (run_step _ _ _ _ _ _).trans rfl
set_option maxRecDepth 8000 in
theorem s_268_36 : run (d + 1) md_268 36 [vr a0, vr a1, vr a2, vr a3, vi x4, v5, v6] [vi z1, vr b0] h = bif (isK h b0 11 || isK h b0 21) && inb h b0 z1 then run (d + 1) md_268 37 [vr a0, vr a1, vr a2, vr a3, vi x4, v5, v6] [vi (h_mi h b0 (z1 : Int).toNat)] h else none := (run_step _ _ _ _ _ _).trans rfl
set_option maxRecDepth 8000 in
theorem s_268_37 : run (d + 1) md_268 37 [vr a0, vr a1, vr a2, vr a3, vi x4, v5, v6] [vi z0] h = run (d + 1) md_268 39 [vr a0, vr a1, vr a2, vr a3, vi x4, v5, v6] [vi 31, vi z0] h := (run_step _ _ _ _ _ _).trans rfl
set_option maxRecDepth 8000 in
theorem s_268_39 : run (d + 1) md_268 39 [vr a0, vr a1, vr a2, vr a3, vi x4, v5, v6] [vi z1, vi z0] h = run (d + 1) md_268 40 [vr a0, vr a1, vr a2, vr a3, vi x4, v5, v6] [vi (i_and z0 z1)] h := (run_step _ _ _ _ _ _).trans rfl
set_option maxRecDepth 8000 in
theorem s_268_40 : run (d + 1) md_268 40 [vr a0, vr a1, vr a2, vr a3, vi x4, v5, v6] [vi z0] h = bif decide (z0 = 0) then run (d + 1) md_268 176 [vr a0, vr a1, vr a2, vr a3, vi x4, v5, v6] [] h else bif decide (z0 = 1) then run (d + 1) md_268 323 [vr a0, vr a1, vr a2, vr a3, vi x4, v5, v6] [] h else bif decide (z0 = 2) then run (d + 1) md_268 336 [vr a0, vr a1, vr a2, vr a3, vi x4, v5, v6] [] h else bif decide (z0 = 3) then run (d + 1) md_268 385 [vr a0, vr a1, vr a2, vr a3, vi x4, v5, v6] [] h else bif decide (z0 = 4) then run (d + 1) md_268 422 [vr a0, vr a1, vr a2, vr a3, vi x4, v5, v6] [] h else bif decide (z0 = 5) then run (d + 1) md_268 459 [vr a0, vr a1, vr a2, vr a3, vi x4, v5, v6] [] h else bif decide (z0 = 6) then run (d + 1) md_268 508 [vr a0, vr a1, vr a2, vr a3, vi x4, v5, v6] [] h else bif decide (z0 = 7) then run (d + 1) md_268 545 [vr a0, vr a1, vr a2, vr a3, vi x4, v5, v6] [] h else bif decide (z0 = 8) then run (d + 1) md_268 558 [vr a0, vr a1, vr a2, vr a3, vi x4, v5, v6] [] h else bif decide (z0 = 9) then run (d + 1) md_268 583 [vr a0, vr a1, vr a2, vr a3, vi x4, v5, v6] [] h else bif decide (z0 = 10) then run (d + 1) md_268 608 [vr a0, vr a1, vr a2, vr a3, vi x4, v5, v6] [] h else bif decide (z0 = 11) then run (d + 1) md_268 645 [vr a0, vr a1, vr a2, vr a3, vi x4, v5, v6] [] h else bif decide (z0 = 12) then run (d + 1) md_268 682 [vr a0, vr a1, vr a2, vr a3, vi x4, v5, v6] [] h else bif decide (z0 = 13) then run (d + 1) md_268 731 [vr a0, vr a1, vr a2, vr a3, vi x4, v5, v6] [] h else bif decide (z0 = 14) then run (d + 1) md_268 756 [vr a0, vr a1, vr a2, vr a3, vi x4, v5, v6] [] h else bif decide (z0 = 15) then run (d + 1) md_268 793 [vr a0, vr a1, vr a2, vr a3, vi x4, v5, v6] [] h else bif decide (z0 = 16) then run (d + 1) md_268 830 [vr a0, vr a1, vr a2, vr a3, vi x4, v5, v6] [] h else bif decide (z0 = 17) then run (d + 1) md_268 891 [vr a0, vr a1, vr a2, vr a3, vi x4, v5, v6] [] h else bif decide (z0 = 18) then run (d + 1) md_268 928 [vr a0, vr a1, vr a2, vr a3, vi x4, v5, v6] [] h else bif decide (z0 = 19) then run (d + 1) md_268 996 [vr a0, vr a1, vr a2, vr a3, vi x4, v5, v6] [] h else bif decide (z0 = 20) then run (d + 1) md_268 1033 [vr a0, vr a1, vr a2, vr a3, vi x4, v5, v6] [] h else bif decide (z0 = 21) then run (d + 1) md_268 1082 [vr a0, vr a1, vr a2, vr a3, vi x4, v5, v6] [] h else bif decide (z0 = 22) then run (d + 1) md_268 1107 [vr a0, vr a1, vr a2, vr a3, vi x4, v5, v6] [] h else bif decide (z0 = 23) then run (d + 1) md_268 1144 [vr a0, vr a1, vr a2, vr a3, vi x4, v5, v6] [] h else bif decide (z0 = 24) then run (d + 1) md_268 1157 [vr a0, vr a1, vr a2, vr a3, vi x4, v5, v6] [] h else bif decide (z0 = 25) then run (d + 1) md_268 1206 [vr a0, vr a1, vr a2, vr a3, vi x4, v5, v6] [] h else bif decide (z0 = 26) then run (d + 1) md_268 1279 [vr a0, vr a1, vr a2, vr a3, vi x4, v5, v6] [] h else bif decide (z0 = 27) then run (d + 1) md_268 1328 [vr a0, vr a1, vr a2, vr a3, vi x4, v5, v6] [] h else bif decide (z0 = 28) then run (d + 1) md_268 1420 [vr a0, vr a1, vr a2, vr a3, vi x4, v5, v6] [] h else bif decide (z0 = 29) then run (d + 1) md_268 1473 [vr a0, vr a1, vr a2, vr a3, vi x4, v5, v6] [] h else run (d + 1) md_268 1498 [vr a0, vr a1, vr a2, vr a3, vi x4, v5, v6] [] h := (run_step _ _ _ _ _ _).trans rfl
set_option maxRecDepth 8000 in
theorem s_268_176 : run (d + 1) md_268 176 [vr a0, vr a1, vr a2, vr a3, vi x4, v5, v6] [] h = run (d + 1) md_268 177 [vr a0, vr a1, vr a2, vr a3, vi x4, v5, v6] [vr a1] h := (run_step _ _ _ _ _ _).trans rfl
set_option maxRecDepth 8000 in
theorem s_268_177 : run (d + 1) md_268 177 [vr a0, vr a1, vr a2, vr a3, vi x4, v5, v6] [vr b0] h = run (d + 1) md_268 178 [vr a0, vr a1, vr a2, vr a3, vi x4, v5, v6] [vr a0, vr b0] h := (run_step _ _ _ _ _ _).trans rfl
set_option maxRecDepth 8000 in
theorem s_268_178 : run (d + 1) md_268 178 [vr a0, vr a1, vr a2, vr a3, vi x4, v5, v6] [vr b1, vr b0] h = run (d + 1) md_268 180 [vr a0, vr a1, vr a2, vr a3, vi x4, v5, v6] [vi x4, vr b1, vr b0] h := (run_step _ _ _ _ _ _).trans rfl
set_option maxRecDepth 8000 in
theorem s_268_180 : run (d + 1) md_268 180 [vr a0, vr a1, vr a2, vr a3, vi x4, v5, v6] [vi z2, vr b1, vr b0] h = run (d + 1) md_268 181 [vr a0, vr a1, vr a2, vr a3, vi x4, v5, v6] [vi 1, vi z2, vr b1, vr b0] h := (run_step _ _ _ _ _ _).trans rfl
set_option maxRecDepth 8000 in
theorem s_268_181 : run (d + 1) md_268 181 [vr a0, vr a1, vr a2, vr a3, vi x4, v5, v6] [vi z3, vi z2, vr b1, vr b0] h = run (d + 1) md_268 182 [vr a0, vr a1, vr a2, vr a3, vi x4, v5, v6] [vi (i_add z2 z3), vr b1, vr b0] h := (run_step _ _ _ _ _ _).trans rfl
set_option maxRecDepth 8000 in
theorem s_268_182 : run (d + 1) md_268 182 [vr a0, vr a1, vr a2, vr a3, vi x4, v5, v6] [vi z2, vr b1, vr b0] h = bif (isK h b1 11 || isK h b1 21) && inb h b1 z2 then run (d + 1) md_268 183 [vr a0, vr a1, vr a2, vr a3, vi x4, v5, v6] [vi (h_mi h b1 (z2 : Int).toNat), vr b0] h else none := (run_step _ _ _ _ _ _).trans rfl
set_option maxRecDepth 8000 in
theorem s_268_183 : run (d + 1) md_268 183 [vr a0, vr a1, vr a2, vr a3, vi x4, v5, v6] [vi z1, vr b0] h = run (d + 1) md_268 184 [vr a0, vr a1, vr a2, vr a3, vi x4, v5, v6] [vl z1, vr b0] h := (run_step _ _ _ _ _ _).trans rfl
set_option maxRecDepth 8000 in
theorem s_268_184 : run (d + 1) md_268 184 [vr a0, vr a1, vr a2, vr a3, vi x4, v5, v6] [vl w1, vr b0] h = run (d + 1) md_268 186 [vr a0, vr a1, vr a2, vr a3, vi x4, v5, v6] [vi 32, vl w1, vr b0] h := (run_step _ _ _ _ _ _).trans rfl
set_option maxRecDepth 8000 in
theorem s_268_186 : run (d + 1) md_268 186 [vr a0, vr a1, vr a2, vr a3, vi x4, v5, v6] [vi z2, vl w1, vr b0] h = run (d + 1) md_268 187 [vr a0, vr a1, vr a2, vr a3, vi x4, v5, v6] [vl (l_shl w1 z2), vr b0] h := (run_step _ _ _ _ _ _).trans rfl
set_option maxRecDepth 8000 in
theorem s_268_187 : run (d + 1) md_268 187 [vr a0, vr a1, vr a2, vr a3, vi x4, v5, v6] [vl w1, vr b0] h = run (d + 1) md_268 188 [vr a0, vr a1, vr a2, vr a3, vi x4, v5, v6] [vr a0, vl w1, vr b0] h := (run_step _ _ _ _ _ _).trans rfl
set_option maxRecDepth 8000 in
theorem s_268_188 : run (d + 1) md_268 188 [vr a0, vr a1, vr a2, vr a3, vi x4, v5, v6] [vr b2, vl w1, vr b0] h = run (d + 1) md_268 190 [vr a0, vr a1, vr a2, vr a3, vi x4, v5, v6] [vi x4, vr b2, vl w1, vr b0] h := (run_step _ _ _ _ _ _).trans rfl
set_option maxRecDepth 8000 in
theorem s_268_190 : run (d + 1) md_268 190 [vr a0, vr a1, vr a2, vr a3, vi x4, v5, v6] [vi z3, vr b2, vl w1, vr b0] h = run (d + 1) md_268 191 [vr a0, vr a1, vr a2, vr a3, vi x4, v5, v6] [vi 2, vi z3, vr b2, vl w1, vr b0] h := (run_step _ _ _ _ _ _).trans rfl
set_option maxRecDepth 8000 in
theorem s_268_191 : run (d + 1) md_268 191 [vr a0, vr a1, vr a2, vr a3, vi x4, v5, v6] [vi z4, vi z3, vr b2, vl w1, vr b0] h = run (d + 1) md_268 192 [vr a0, vr a1, vr a2, vr a3, vi x4, v5, v6] [vi (i_add z3 z4), vr b2, vl w1, vr b0] h := (run_step _ _ _ _ _ _).trans rfl
set_option maxRecDepth 8000 in
theorem s_268_192 : run (d + 1) md_268 192 [vr a0, vr a1, vr a2, vr a3, vi x4, v5, v6] [vi z3, vr b2, vl w1, vr b0] h = bif (isK h b2 11 || isK h b2 21) && inb h b2 z3 then run (d + 1) md_268 193 [vr a0, vr a1, vr a2, vr a3, vi x4, v5, v6] [vi (h_mi h b2 (z3 : Int).toNat), vl w1, vr b0] h else none := (run_step _ _ _ _ _ _).trans rfl
set_option maxRecDepth 8000 in
theorem s_268_193 : run (d + 1) md_268 193 [vr a0, vr a1, vr a2, vr a3, vi x4, v5, v6] [vi z2, vl w1, vr b0] h = run (d + 1) md_268 194 [vr a0, vr a1, vr a2, vr a3, vi x4, v5, v6] [vl z2, vl w1, vr b0] h := (run_step _ _ _ _ _ _).trans rfl
set_option maxRecDepth 8000 in
theorem s_268_194 : run (d + 1) md_268 194 [vr a0, vr a1, vr a2, vr a3, vi x4, v5, v6] [vl w2, vl w1, vr b0] h = run (d + 1) md_268 197 [vr a0, vr a1, vr a2, vr a3, vi x4, v5, v6] [vl 4294967295, vl w2, vl w1, vr b0] h := (run_step _ _ _ _ _ _).trans rfl
set_option maxRecDepth 8000 in
theorem s_268_197 : run (d + 1) md_268 197 [vr a0, vr a1, vr a2, vr a3, vi x4, v5, v6] [vl w3, vl w2, vl w1, vr b0] h = run (d + 1) md_268 198 [vr a0, vr a1, vr a2, vr a3, vi x4, v5, v6] [vl (l_and w2 w3), vl w1, vr b0] h := (run_step _ _ _ _ _ _).trans rfl
set_option maxRecDepth 8000 in
theorem s_268_198 : run (d + 1) md_268 198 [vr a0, vr a1, vr a2, vr a3, vi x4, v5, v6] [vl w2, vl w1, vr b0] h = run (d + 1) md_268 199 [vr a0, vr a1, vr a2, vr a3, vi x4, v5, v6] [vl (l_or w1 w2), vr b0] h := (run_step _ _ _ _ _ _).trans rfl
set_option maxRecDepth 8000 in
theorem s_268_199 : run (d + 1) md_268 199 [vr a0, vr a1, vr a2, vr a3, vi x4, v5, v6] [vl w1, vr b0] h = run (d + 1) md_268 200 [vr a0, vr a1, vr a2, vr a3, vi x4, v5, v6] [vr a0, vl w1, vr b0] h := (run_step _ _ _ _ _ _).trans rfl
set_option maxRecDepth 8000 in
theorem s_268_200 : run (d + 1) md_268 200 [vr a0, vr a1, vr a2, vr a3, vi x4, v5, v6] [vr b2, vl w1, vr b0] h = run (d + 1) md_268 202 [vr a0, vr a1, vr a2, vr a3, vi x4, v5, v6] [vi x4, vr b2, vl w1, vr b0] h := (run_step _ _ _ _ _ _).trans rfl
set_option maxRecDepth 8000 in
theorem s_268_202 : run (d + 1) md_268 202 [vr a0, vr a1, vr a2, vr a3, vi x4, v5, v6] [vi z3, vr b2, vl w1, vr b0] h = run (d + 1) md_268 203 [vr a0, vr a1, vr a2, vr a3, vi x4, v5, v6] [vi 3, vi z3, vr b2, vl w1, vr b0] h := (run_step _ _ _ _ _ _).trans rfl
set_option maxRecDepth 8000 in
theorem s_268_203 : run (d + 1) md_268 203 [vr a0, vr a1, vr a2, vr a3, vi x4, v5, v6] [vi z4, vi z3, vr b2, vl w1, vr b0] h = run (d + 1) md_268 204 [vr a0, vr a1, vr a2, vr a3, vi x4, v5, v6] [vi (i_add z3 z4), vr b2, vl w1, vr b0] h := (run_step _ _ _ _ _ _).trans rfl
set_option maxRecDepth 8000 in
theorem s_268_204 : run (d + 1) md_268 204 [vr a0, vr a1, vr a2, vr a3, vi x4, v5, v6] [vi z3, vr b2, vl w1, vr b0] h = bif (isK h b2 11 || isK h b2 21) && inb h b2 z3 then run (d + 1) md_268 205 [vr a0, vr a1, vr a2, vr a3, vi x4, v5, v6] [vi (h_mi h b2 (z3 : Int).toNat), vl w1, vr b0] h else none := (run_step _ _ _ _ _ _).trans rfl
set_option maxRecDepth 8000 in
theorem s_268_205 : run (d + 1) md_268 205 [vr a0, vr a1, vr a2, vr a3, vi x4, v5, v6] [vi z2, vl w1, vr b0] h = run (d + 1) md_268 206 [vr a0, vr a1, vr a2, vr a3, vi x4, v5, v6] [vl z2, vl w1, vr b0] h := (run_step _ _ _ _ _ _).trans rfl
set_option maxRecDepth 8000 in
theorem s_268_206 : run (d + 1) md_268 206 [vr a0, vr a1, vr a2, vr a3, vi x4, v5, v6] [vl w2, vl w1, vr b0] h = run (d + 1) md_268 208 [vr a0, vr a1, vr a2, vr a3, vi x4, v5, v6] [vi 32, vl w2, vl w1, vr b0] h := (run_step _ _ _ _ _ _).trans rfl
set_option maxRecDepth 8000 in
theorem s_268_208 : run (d + 1) md_268 208 [vr a0, vr a1, vr a2, vr a3, vi x4, v5, v6] [vi z3, vl w2, vl w1, vr b0] h = run (d + 1) md_268 209 [vr a0, vr a1, vr a2, vr a3, vi x4, v5, v6] [vl (l_shl w2 z3), vl w1, vr b0] h := (run_step _ _ _ _ _ _).trans rfl
set_option maxRecDepth 8000 in
theorem s_268_209 : run (d + 1) md_268 209 [vr a0, vr a1, vr a2, vr a3, vi x4, v5, v6] [vl w2, vl w1, vr b0] h = run (d + 1) md_268 210 [vr a0, vr a1, vr a2, vr a3, vi x4, v5, v6] [vr a0, vl w2, vl w1, vr b0] h := (run_step _ _ _ _ _ _).trans rfl
set_option maxRecDepth 8000 in
theorem s_268_210 : run (d + 1) md_268 210 [vr a0, vr a1, vr a2, vr a3, vi x4, v5, v6] [vr b3, vl w2, vl w1, vr b0] h = run (d + 1) md_268 212 [vr a0, vr a1, vr a2, vr a3, vi x4, v5, v6] [vi x4, vr b3, vl w2, vl w1, vr b0] h := (run_step _ _ _ _ _ _).trans rfl
set_option maxRecDepth 8000 in
theorem s_268_212 : run (d + 1) md_268 212 [vr a0, vr a1, vr a2, vr a3, vi x4, v5, v6] [vi z4, vr b3, vl w2, vl w1, vr b0] h = run (d + 1) md_268 213 [vr a0, vr a1, vr a2, vr a3, vi x4, v5, v6] [vi 4, vi z4, vr b3, vl w2, vl w1, vr b0] h := (run_step _ _ _ _ _ _).trans rfl
set_option maxRecDepth 8000 in
theorem s_268_213 : run (d + 1) md_268 213 [vr a0, vr a1, vr a2, vr a3, vi x4, v5, v6] [vi z5, vi z4, vr b3, vl w2, vl w1, vr b0] h = run (d + 1) md_268 214 [vr a0, vr a1, vr a2, vr a3, vi x4, v5, v6] [vi (i_add z4 z5), vr b3, vl w2, vl w1, vr b0] h := (run_step _ _ _ _ _ _).trans rfl
set_option maxRecDepth 8000 in
theorem s_268_214 : run (d + 1) md_268 214 [vr a0, vr a1, vr a2, vr a3, vi x4, v5, v6] [vi z4, vr b3, vl w2, vl w1, vr b0] h = bif (isK h b3 11 || isK h b3 21) && inb h b3 z4 then run (d + 1) md_268 215 [vr a0, vr a1, vr a2, vr a3, vi x4, v5, v6] [vi (h_mi h b3 (z4 : Int).toNat), vl w2, vl w1, vr b0] h else none := (run_step _ _ _ _ _ _).trans rfl
set_option maxRecDepth 8000 in
theorem s_268_215 : run (d + 1) md_268 215 [vr a0, vr a1, vr a2, vr a3, vi x4, v5, v6] [vi z3, vl w2, vl w1, vr b0] h = run (d + 1) md_268 216 [vr a0, vr a1, vr a2, vr a3, vi x4, v5, v6] [vl z3, vl w2, vl w1, vr b0] h := (run_step _ _ _ _ _ _).trans rfl
set_option maxRecDepth 8000 in
theorem s_268_216 : run (d + 1) md_268 216 [vr a0, vr a1, vr a2, vr a3, vi x4, v5, v6] [vl w3, vl w2, vl w1, vr b0] h = run (d + 1) md_268 219 [vr a0, vr a1, vr a2, vr a3, vi x4, v5, v6] [vl 4294967295, vl w3, vl w2, vl w1, vr b0] h := (run_step _ _ _ _ _ _).trans rfl
set_option maxRecDepth 8000 in
theorem s_268_219 : run (d + 1) md_268 219 [vr a0, vr a1, vr a2, vr a3, vi x4, v5, v6] [vl w4, vl w3, vl w2, vl w1, vr b0] h = run (d + 1) md_268 220 [vr a0, vr a1, vr a2, vr a3, vi x4, v5, v6] [vl (l_and w3 w4), vl w2, vl w1, vr b0] h := (run_step _ _ _ _ _ _).trans rfl
set_option maxRecDepth 8000 in
theorem s_268_220 : run (d + 1) md_268 220 [vr a0, vr a1, vr a2, vr a3, vi x4, v5, v6] [vl w3, vl w2, vl w1, vr b0] h = run (d + 1) md_268 221 [vr a0, vr a1, vr a2, vr a3, vi x4, v5, v6] [vl (l_or w2 w3), vl w1, vr b0] h := (run_step _ _ _ _ _ _).trans rfl
set_option maxRecDepth 8000 in
theorem s_268_221 : run (d + 1) md_268 221 [vr a0, vr a1, vr a2, vr a3, vi x4, v5, v6] [vl w2, vl w1, vr b0] h = run (d + 1) md_268 222 [vr a0, vr a1, vr a2, vr a3, vi x4, v5, v6] [vr a0, vl w2, vl w1, vr b0] h := (run_step _ _ _ _ _ _).trans rfl
set_option maxRecDepth 8000 in
theorem s_268_222 : run (d + 1) md_268 222 [vr a0, vr a1, vr a2, vr a3, vi x4, v5, v6] [vr b3, vl w2, vl w1, vr b0] h = run (d + 1) md_268 224 [vr a0, vr a1, vr a2, vr a3, vi x4, v5, v6] [vi x4, vr b3, vl w2, vl w1, vr b0] h := (run_step _ _ _ _ _ _).trans rfl
set_option maxRecDepth 8000 in
theorem s_268_224 : run (d + 1) md_268 224 [vr a0, vr a1, vr a2, vr a3, vi x4, v5, v6] [vi z4, vr b3, vl w2, vl w1, vr b0] h = run (d + 1) md_268 225 [vr a0, vr a1, vr a2, vr a3, vi x4, v5, v6] [vi 5, vi z4, vr b3, vl w2, vl w1, vr b0] h := (run_step _ _ _ _ _ _).trans rfl
set_option maxRecDepth 8000 in
theorem s_268_225 : run (d + 1) md_268 225 [vr a0, vr a1, vr a2, vr a3, vi x4, v5, v6] [vi z5, vi z4, vr b3, vl w2, vl w1, vr b0] h = run (d + 1) md_268 226 [vr a0, vr a1, vr a2, vr a3, vi x4, v5, v6] [vi (i_add z4 z5), vr b3, vl w2, vl w1, vr b0] h := (run_step _ _ _ _ _ _).trans rfl
set_option maxRecDepth 8000 in
theorem s_268_226 : run (d + 1) md_268 226 [vr a0, vr a1, vr a2, vr a3, vi x4, v5, v6] [vi z4, vr b3, vl w2, vl w1, vr b0] h = bif (isK h b3 11 || isK h b3 21) && inb h b3 z4 then run (d + 1) md_268 227 [vr a0, vr a1, vr a2, vr a3, vi x4, v5, v6] [vi (h_mi h b3 (z4 : Int).toNat), vl w2, vl w1, vr b0] h else none := (run_step _ _ _ _ _ _).trans rfl
set_option maxRecDepth 8000 in
theorem s_268_227 : run (d + 1) md_268 227 [vr a0, vr a1, vr a2, vr a3, vi x4, v5, v6] [vi z3, vl w2, vl w1, vr b0] h = run (d + 1) md_268 228 [vr a0, vr a1, vr a2, vr a3, vi x4, v5, v6] [vl z3, vl w2, vl w1, vr b0] h := (run_step _ _ _ _ _ _).trans rfl
set_option maxRecDepth 8000 in
theorem s_268_228 : run (d + 1) md_268 228 [vr a0, vr a1, vr a2, vr a3, vi x4, v5, v6] [vl w3, vl w2, vl w1, vr b0] h = run (d + 1) md_268 230 [vr a0, vr a1, vr a2, vr a3, vi x4, v5, v6] [vi 32, vl w3, vl w2, vl w1, vr b0] h := (run_step _ _ _ _ _ _).trans rfl
set_option maxRecDepth 8000 in
theorem s_268_230 : run (d + 1) md_268 230 [vr a0, vr a1, vr a2, vr a3, vi x4, v5, v6] [vi z4, vl w3, vl w2, vl w1, vr b0] h = run (d + 1) md_268 231 [vr a0, vr a1, vr a2, vr a3, vi x4, v5, v6] [vl (l_shl w3 z4), vl w2, vl w1, vr b0] h := (run_step _ _ _ _ _ _).trans rfl
set_option maxRecDepth 8000 in
theorem s_268_231 : run (d + 1) md_268 231 [vr a0, vr a1, vr a2, vr a3, vi x4, v5, v6] [vl w3, vl w2, vl w1, vr b0] h = run (d + 1) md_268 232 [vr a0, vr a1, vr a2, vr a3, vi x4, v5, v6] [vr a0, vl w3, vl w2, vl w1, vr b0] h := (run_step _ _ _ _ _ _).trans rfl
set_option maxRecDepth 8000 in
theorem s_268_232 : run (d + 1) md_268 232 [vr a0, vr a1, vr a2, vr a3, vi x4, v5, v6] [vr b4, vl w3, vl w2, vl w1, vr b0] h = run (d + 1) md_268 234 [vr a0, vr a1, vr a2, vr a3, vi x4, v5, v6] [vi x4, vr b4, vl w3, vl w2, vl w1, vr b0] h := (run_step _ _ _ _ _ _).trans rfl
set_option maxRecDepth 8000 in
theorem s_268_234 : run (d + 1) md_268 234 [vr a0, vr a1, vr a2, vr a3, vi x4, v5, v6] [vi z5, vr b4, vl w3, vl w2, vl w1, vr b0] h = run (d + 1) md_268 236 [vr a0, vr a1, vr a2, vr a3, vi x4, v5, v6] [vi 6, vi z5, vr b4, vl w3, vl w2, vl w1, vr b0] h := (run_step _ _ _ _ _ _).trans rfl
set_option maxRecDepth 8000 in
theorem s_268_236 : run (d + 1) md_268 236 [vr a0, vr a1, vr a2, vr a3, vi x4, v5, v6] [vi z6, vi z5, vr b4, vl w3, vl w2, vl w1, vr b0] h = run (d + 1) md_268 237 [vr a0, vr a1, vr a2, vr a3, vi x4, v5, v6] [vi (i_add z5 z6), vr b4, vl w3, vl w2, vl w1, vr b0] h := (run_step _ _ _ _ _ _).trans rfl
set_option maxRecDepth 8000 in
theorem s_268_237 : run (d + 1) md_268 237 [vr a0, vr a1, vr a2, vr a3, vi x4, v5, v6] [vi z5, vr b4, vl w3, vl w2, vl w1, vr b0] h = bif (isK h b4 11 || isK h b4 21) && inb h b4 z5 then run (d + 1) md_268 238 [vr a0, vr a1, vr a2, vr a3, vi x4, v5, v6] [vi (h_mi h b4 (z5 : Int).toNat), vl w3, vl w2, vl w1, vr b0] h else none := (run_step _ _ _ _ _ _).trans rfl
set_option maxRecDepth 8000 in
theorem s_268_238 : run (d + 1) md_268 238 [vr a0, vr a1, vr a2, vr a3, vi x4, v5, v6] [vi z4, vl w3, vl w2, vl w1, vr b0] h = run (d + 1) md_268 239 [vr a0, vr a1, vr a2, vr a3, vi x4, v5, v6] [vl z4, vl w3, vl w2, vl w1, vr b0] h := (run_step _ _ _ _ _ _).trans rfl
set_option maxRecDepth 8000 in
theorem s_268_239 : run (d + 1) md_268 239 [vr a0, vr a1, vr a2, vr a3, vi x4, v5, v6] [vl w4, vl w3, vl w2, vl w1, vr b0] h = run (d + 1) md_268 242 [vr a0, vr a1, vr a2, vr a3, vi x4, v5, v6] [vl 4294967295, vl w4, vl w3, vl w2, vl w1, vr b0] h := (run_step _ _ _ _ _ _).trans rfl
set_option maxRecDepth 8000 in
theorem s_268_242 : run (d + 1) md_268 242 [vr a0, vr a1, vr a2, vr a3, vi x4, v5, v6] [vl w5, vl w4, vl w3, vl w2, vl w1, vr b0] h = run (d + 1) md_268 243 [vr a0, vr a1, vr a2, vr a3, vi x4, v5, v6] [vl (l_and w4 w5), vl w3, vl w2, vl w1, vr b0] h := (run_step _ _ _ _ _ _).trans rfl
set_option maxRecDepth 8000 in
theorem s_268_243 : run (d + 1) md_268 243 [vr a0, vr a1, vr a2, vr a3, vi x4, v5, v6] [vl w4, vl w3, vl w2, vl w1, vr b0] h = run (d + 1) md_268 244 [vr a0, vr a1, vr a2, vr a3, vi x4, v5, v6] [vl (l_or w3 w4), vl w2, vl w1, vr b0] h := (run_step _ _ _ _ _ _).trans rfl
set_option maxRecDepth 20000 in
set_option maxRecDepth 8000 in
theorem s_268_244 : run (d + 1) md_268 244 [vr a0, vr a1, vr a2, vr a3, vi x4, v5, v6] [vl w3, vl w2, vl w1, vr b0] h = bif isK h b0 8 then bI (ev d 110 [vr b0, vl w1, vl w2, vl w3] h) fun r1 h1 => run (d + 1) md_268 247 [vr a0, vr a1, vr a2, vr a3, vi x4, v5, v6] [vi r1] h1 else none := (run_step _ _ _ _ _ _).trans rfl
set_option maxRecDepth 8000 in
theorem s_268_247 : run (d + 1) md_268 247 [vr a0, vr a1, vr a2, vr a3, vi x4, v5, v6] [vi z0] h = run (d + 1) md_268 248 [vr a0, vr a1, vr a2, vr a3, vi x4, v5, v6] [vr a2, vi z0] h := (run_step _ _ _ _ _ _).trans rfl
set_option maxRecDepth 8000 in
theorem s_268_248 : run (d + 1) md_268 248 [vr a0, vr a1, vr a2, vr a3, vi x4, v5, v6] [vr b1, vi z0] h = run (d + 1) md_268 249 [vr a0, vr a1, vr a2, vr a3, vi x4, v5, v6] [vr a0, vr b1, vi z0] h := (run_step _ _ _ _ _ _).trans rfl
set_option maxRecDepth 8000 in
theorem s_268_249 : run (d + 1) md_268 249 [vr a0, vr a1, vr a2, vr a3, vi x4, v5, v6] [vr b2, vr b1, vi z0] h = run (d + 1) md_268 251 [vr a0, vr a1, vr a2, vr a3, vi x4, v5, v6] [vi x4, vr b2, vr b1, vi z0] h := (run_step _ _ _ _ _ _).trans rfl
set_option maxRecDepth 8000 in
theorem s_268_251 : run (d + 1) md_268 251 [vr a0, vr a1, vr a2, vr a3, vi x4, v5, v6] [vi z3, vr b2, vr b1, vi z0] h = run (d + 1) md_268 252 [vr a0, vr a1, vr a2, vr a3, vi x4, v5, v6] [vi 1, vi z3, vr b2, vr b1, vi z0] h := (run_step _ _ _ _ _ _).trans rfl
set_option maxRecDepth 8000 in
theorem s_268_252 : run (d + 1) md_268 252 [vr a0, vr a1, vr a2, vr a3, vi x4, v5, v6] [vi z4, vi z3, vr b2, vr b1, vi z0] h = run (d + 1) md_268 253 [vr a0, vr a1, vr a2, vr a3, vi x4, v5, v6] [vi (i_add z3 z4), vr b2, vr b1, vi z0] h := (run_step _ _ _ _ _ _).trans rfl
set_option maxRecDepth 8000 in
theorem s_268_253 : run (d + 1) md_268 253 [vr a0, vr a1, vr a2, vr a3, vi x4, v5, v6] [vi z3, vr b2, vr b1, vi z0] h = bif (isK h b2 11 || isK h b2 21) && inb h b2 z3 then run (d + 1) md_268 254 [vr a0, vr a1, vr a2, vr a3, vi x4, v5, v6] [vi (h_mi h b2 (z3 : Int).toNat), vr b1, vi z0] h else none := (run_step _ _ _ _ _ _).trans rfl
set_option maxRecDepth 8000 in
theorem s_268_254 : run (d + 1) md_268 254 [vr a0, vr a1, vr a2, vr a3, vi x4, v5, v6] [vi z2, vr b1, vi z0] h = run (d + 1) md_268 255 [vr a0, vr a1, vr a2, vr a3, vi x4, v5, v6] [vl z2, vr b1, vi z0] h := (run_step _ _ _ _ _ _).trans rfl
set_option maxRecDepth 8000 in
theorem s_268_255 : run (d + 1) md_268 255 [vr a0, vr a1, vr a2, vr a3, vi x4, v5, v6] [vl w2, vr b1, vi z0] h = run (d + 1) md_268 257 [vr a0, vr a1, vr a2, vr a3, vi x4, v5, v6] [vi 32, vl w2, vr b1, vi z0] h := (run_step _ _ _ _ _ _).trans rfl
set_option maxRecDepth 8000 in
theorem s_268_257 : run (d + 1) md_268 257 [vr a0, vr a1, vr a2, vr a3, vi x4, v5, v6] [vi z3, vl w2, vr b1, vi z0] h = run (d + 1) md_268 258 [vr a0, vr a1, vr a2, vr a3, vi x4, v5, v6] [vl (l_shl w2 z3), vr b1, vi z0] h := (run_step _ _ _ _ _ _).trans rfl
set_option maxRecDepth 8000 in
theorem s_268_258 : run (d + 1) md_268 258 [vr a0, vr a1, vr a2, vr a3, vi x4, v5, v6] [vl w2, vr b1, vi z0] h = run (d + 1) md_268 259 [vr a0, vr a1, vr a2, vr a3, vi x4, v5, v6] [vr a0, vl w2, vr b1, vi z0] h := (run_step _ _ _ _ _ _).trans rfl
set_option maxRecDepth 8000 in
theorem s_268_259 : run (d + 1) md_268 259 [vr a0, vr a1, vr a2, vr a3, vi x4, v5, v6] [vr b3, vl w2, vr b1, vi z0] h = run (d + 1) md_268 261 [vr a0, vr a1, vr a2, vr a3, vi x4, v5, v6] [vi x4, vr b3, vl w2, vr b1, vi z0] h := (run_step _ _ _ _ _ _).trans rfl
set_option maxRecDepth 8000 in
theorem s_268_261 : run (d + 1) md_268 261 [vr a0, vr a1, vr a2, vr a3, vi x4, v5, v6] [vi z4, vr b3, vl w2, vr b1, vi z0] h = run (d + 1) md_268 262 [vr a0, vr a1, vr a2, vr a3, vi x4, v5, v6] [vi 2, vi z4, vr b3, vl w2, vr b1, vi z0] h := (run_step _ _ _ _ _ _).trans rfl
set_option maxRecDepth 8000 in
theorem s_268_262 : run (d + 1) md_268 262 [vr a0, vr a1, vr a2, vr a3, vi x4, v5, v6] [vi z5, vi z4, vr b3, vl w2, vr b1, vi z0] h = run (d + 1) md_268 263 [vr a0, vr a1, vr a2, vr a3, vi x4, v5, v6] [vi (i_add z4 z5), vr b3, vl w2, vr b1, vi z0] h := (run_step _ _ _ _ _ _).trans rfl
set_option maxRecDepth 8000 in
theorem s_268_263 : run (d + 1) md_268 263 [vr a0, vr a1, vr a2, vr a3, vi x4, v5, v6] [vi z4, vr b3, vl w2, vr b1, vi z0] h = bif (isK h b3 11 || isK h b3 21) && inb h b3 z4 then run (d + 1) md_268 264 [vr a0, vr a1, vr a2, vr a3, vi x4, v5, v6] [vi (h_mi h b3 (z4 : Int).toNat), vl w2, vr b1, vi z0] h else none := (run_step _ _ _ _ _ _).trans rfl
set_option maxRecDepth 8000 in
theorem s_268_264 : run (d + 1) md_268 264 [vr a0, vr a1, vr a2, vr a3, vi x4, v5, v6] [vi z3, vl w2, vr b1, vi z0] h = run (d + 1) md_268 265 [vr a0, vr a1, vr a2, vr a3, vi x4, v5, v6] [vl z3, vl w2, vr b1, vi z0] h := (run_step _ _ _ _ _ _).trans rfl
set_option maxRecDepth 8000 in
theorem s_268_265 : run (d + 1) md_268 265 [vr a0, vr a1, vr a2, vr a3, vi x4, v5, v6] [vl w3, vl w2, vr b1, vi z0] h = run (d + 1) md_268 268 [vr a0, vr a1, vr a2, vr a3, vi x4, v5, v6] [vl 4294967295, vl w3, vl w2, vr b1, vi z0] h := (run_step _ _ _ _ _ _).trans rfl
set_option maxRecDepth 8000 in
theorem s_268_268 : run (d + 1) md_268 268 [vr a0, vr a1, vr a2, vr a3, vi x4, v5, v6] [vl w4, vl w3, vl w2, vr b1, vi z0] h = run (d + 1) md_268 269 [vr a0, vr a1, vr a2, vr a3, vi x4, v5, v6] [vl (l_and w3 w4), vl w2, vr b1, vi z0] h := (run_step _ _ _ _ _ _).trans rfl
set_option maxRecDepth 8000 in
theorem s_268_269 : run (d + 1) md_268 269 [vr a0, vr a1, vr a2, vr a3, vi x4, v5, v6] [vl w3, vl w2, vr b1, vi z0] h = run (d + 1) md_268 270 [vr a0, vr a1, vr a2, vr a3, vi x4, v5, v6] [vl (l_or w2 w3), vr b1, vi z0] h := (run_step _ _ _ _ _ _).trans rfl
set_option maxRecDepth 8000 in
theorem s_268_270 : run (d + 1) md_268 270 [vr a0, vr a1, vr a2, vr a3, vi x4, v5, v6] [vl w2, vr b1, vi z0] h = run (d + 1) md_268 271 [vr a0, vr a1, vr a2, vr a3, vi x4, v5, v6] [vr a0, vl w2, vr b1, vi z0] h := (run_step _ _ _ _ _ _).trans rfl
set_option maxRecDepth 8000 in
theorem s_268_271 : run (d + 1) md_268 271 [vr a0, vr a1, vr a2, vr a3, vi x4, v5, v6] [vr b3, vl w2, vr b1, vi z0] h = run (d + 1) md_268 273 [vr a0, vr a1, vr a2, vr a3, vi x4, v5, v6] [vi x4, vr b3, vl w2, vr b1, vi z0] h := (run_step _ _ _ _ _ _).trans rfl
set_option maxRecDepth 8000 in
theorem s_268_273 : run (d + 1) md_268 273 [vr a0, vr a1, vr a2, vr a3, vi x4, v5, v6] [vi z4, vr b3, vl w2, vr b1, vi z0] h = run (d + 1) md_268 274 [vr a0, vr a1, vr a2, vr a3, vi x4, v5, v6] [vi 3, vi z4, vr b3, vl w2, vr b1, vi z0] h := (run_step _ _ _ _ _ _).trans rfl
set_option maxRecDepth 8000 in
theorem s_268_274 : run (d + 1) md_268 274 [vr a0, vr a1, vr a2, vr a3, vi x4, v5, v6] [vi z5, vi z4, vr b3, vl w2, vr b1, vi z0] h = run (d + 1) md_268 275 [vr a0, vr a1, vr a2, vr a3, vi x4, v5, v6] [vi (i_add z4 z5), vr b3, vl w2, vr b1, vi z0] h := (run_step _ _ _ _ _ _).trans rfl
set_option maxRecDepth 8000 in
theorem s_268_275 : run (d + 1) md_268 275 [vr a0, vr a1, vr a2, vr a3, vi x4, v5, v6] [vi z4, vr b3, vl w2, vr b1, vi z0] h = bif (isK h b3 11 || isK h b3 21) && inb h b3 z4 then run (d + 1) md_268 276 [vr a0, vr a1, vr a2, vr a3, vi x4, v5, v6] [vi (h_mi h b3 (z4 : Int).toNat), vl w2, vr b1, vi z0] h else none := (run_step _ _ _ _ _ _).trans rfl
set_option maxRecDepth 8000 in
theorem s_268_276 : run (d + 1) md_268 276 [vr a0, vr a1, vr a2, vr a3, vi x4, v5, v6] [vi z3, vl w2, vr b1, vi z0] h = run (d + 1) md_268 277 [vr a0, vr a1, vr a2, vr a3, vi x4, v5, v6] [vl z3, vl w2, vr b1, vi z0] h := (run_step _ _ _ _ _ _).trans rfl
set_option maxRecDepth 8000 in
theorem s_268_277 : run (d + 1) md_268 277 [vr a0, vr a1, vr a2, vr a3, vi x4, v5, v6] [vl w3, vl w2, vr b1, vi z0] h = run (d + 1) md_268 279 [vr a0, vr a1, vr a2, vr a3, vi x4, v5, v6] [vi 32, vl w3, vl w2, vr b1, vi z0] h := (run_step _ _ _ _ _ _).trans rfl
set_option maxRecDepth 8000 in
theorem s_268_279 : run (d + 1) md_268 279 [vr a0, vr a1, vr a2, vr a3, vi x4, v5, v6] [vi z4, vl w3, vl w2, vr b1, vi z0] h = run (d + 1) md_268 280 [vr a0, vr a1, vr a2, vr a3, vi x4, v5, v6] [vl (l_shl w3 z4), vl w2, vr b1, vi z0] h := (run_step _ _ _ _ _ _).trans rfl
set_option maxRecDepth 8000 in
theorem s_268_280 : run (d + 1) md_268 280 [vr a0, vr a1, vr a2, vr a3, vi x4, v5, v6] [vl w3, vl w2, vr b1, vi z0] h = run (d + 1) md_268 281 [vr a0, vr a1, vr a2, vr a3, vi x4, v5, v6] [vr a0, vl w3, vl w2, vr b1, vi z0] h := (run_step _ _ _ _ _ _).trans rfl
set_option maxRecDepth 8000 in
theorem s_268_281 : run (d + 1) md_268 281 [vr a0, vr a1, vr a2, vr a3, vi x4, v5, v6] [vr b4, vl w3, vl w2, vr b1, vi z0] h = run (d + 1) md_268 283 [vr a0, vr a1, vr a2, vr a3, vi x4, v5, v6] [vi x4, vr b4, vl w3, vl w2, vr b1, vi z0] h := (run_step _ _ _ _ _ _).trans rfl
set_option maxRecDepth 8000 in
theorem s_268_283 : run (d + 1) md_268 283 [vr a0, vr a1, vr a2, vr a3, vi x4, v5, v6] [vi z5, vr b4, vl w3, vl w2, vr b1, vi z0] h = run (d + 1) md_268 284 [vr a0, vr a1, vr a2, vr a3, vi x4, v5, v6] [vi 4, vi z5, vr b4, vl w3, vl w2, vr b1, vi z0] h := (run_step _ _ _ _ _ _).trans rfl
set_option maxRecDepth 8000 in
theorem s_268_284 : run (d + 1) md_268 284 [vr a0, vr a1, vr a2, vr a3, vi x4, v5, v6] [vi z6, vi z5, vr b4, vl w3, vl w2, vr b1, vi z0] h = run (d + 1) md_268 285 [vr a0, vr a1, vr a2, vr a3, vi x4, v5, v6] [vi (i_add z5 z6), vr b4, vl w3, vl w2, vr b1, vi z0] h := (run_step _ _ _ _ _ _).trans rfl
set_option maxRecDepth 8000 in
theorem s_268_285 : run (d + 1) md_268 285 [vr a0, vr a1, vr a2, vr a3, vi x4, v5, v6] [vi z5, vr b4, vl w3, vl w2, vr b1, vi z0] h = bif (isK h b4 11 || isK h b4 21) && inb h b4 z5 then run (d + 1) md_268 286 [vr a0, vr a1, vr a2, vr a3, vi x4, v5, v6] [vi (h_mi h b4 (z5 : Int).toNat), vl w3, vl w2, vr b1, vi z0] h else none := (run_step _ _ _ _ _ _).trans rfl
set_option maxRecDepth 8000 in
theorem s_268_286 : run (d + 1) md_268 286 [vr a0, vr a1, vr a2, vr a3, vi x4, v5, v6] [vi z4, vl w3, vl w2, vr b1, vi z0] h = run (d + 1) md_268 287 [vr a0, vr a1, vr a2, vr a3, vi x4, v5, v6] [vl z4, vl w3, vl w2, vr b1, vi z0] h := (run_step _ _ _ _ _ _).trans rfl
set_option maxRecDepth 8000 in
theorem s_268_287 : run (d + 1) md_268 287 [vr a0, vr a1, vr a2, vr a3, vi x4, v5, v6] [vl w4, vl w3, vl w2, vr b1, vi z0] h = run (d + 1) md_268 290 [vr a0, vr a1, vr a2, vr a3, vi x4, v5, v6] [vl 4294967295, vl w4, vl w3, vl w2, vr b1, vi z0] h := (run_step _ _ _ _ _ _).trans rfl
set_option maxRecDepth 8000 in
theorem s_268_290 : run (d + 1) md_268 290 [vr a0, vr a1, vr a2, vr a3, vi x4, v5, v6] [vl w5, vl w4, vl w3, vl w2, vr b1, vi z0] h = run (d + 1) md_268 291 [vr a0, vr a1, vr a2, vr a3, vi x4, v5, v6] [vl (l_and w4 w5), vl w3, vl w2, vr b1, vi z0] h := (run_step _ _ _ _ _ _).trans rfl
set_option maxRecDepth 8000 in
theorem s_268_291 : run (d + 1) md_268 291 [vr a0, vr a1, vr a2, vr a3, vi x4, v5, v6] [vl w4, vl w3, vl w2, vr b1, vi z0] h = run (d + 1) md_268 292 [vr a0, vr a1, vr a2, vr a3, vi x4, v5, v6] [vl (l_or w3 w4), vl w2, vr b1, vi z0] h := (run_step _ _ _ _ _ _).trans rfl
set_option maxRecDepth 8000 in
theorem s_268_292 : run (d + 1) md_268 292 [vr a0, vr a1, vr a2, vr a3, vi x4, v5, v6] [vl w3, vl w2, vr b1, vi z0] h = run (d + 1) md_268 293 [vr a0, vr a1, vr a2, vr a3, vi x4, v5, v6] [vr a0, vl w3, vl w2, vr b1, vi z0] h := (run_step _ _ _ _ _ _).trans rfl
set_option maxRecDepth 8000 in
theorem s_268_293 : run (d + 1) md_268 293 [vr a0, vr a1, vr a2, vr a3, vi x4, v5, v6] [vr b4, vl w3, vl w2, vr b1, vi z0] h = run (d + 1) md_268 295 [vr a0, vr a1, vr a2, vr a3, vi x4, v5, v6] [vi x4, vr b4, vl w3, vl w2, vr b1, vi z0] h := (run_step _ _ _ _ _ _).trans rfl
set_option maxRecDepth 8000 in
theorem s_268_295 : run (d + 1) md_268 295 [vr a0, vr a1, vr a2, vr a3, vi x4, v5, v6] [vi z5, vr b4, vl w3, vl w2, vr b1, vi z0] h = run (d + 1) md_268 296 [vr a0, vr a1, vr a2, vr a3, vi x4, v5, v6] [vi 5, vi z5, vr b4, vl w3, vl w2, vr b1, vi z0] h := (run_step _ _ _ _ _ _).trans rfl
set_option maxRecDepth 8000 in
theorem s_268_296 : run (d + 1) md_268 296 [vr a0, vr a1, vr a2, vr a3, vi x4, v5, v6] [vi z6, vi z5, vr b4, vl w3, vl w2, vr b1, vi z0] h = run (d + 1) md_268 297 [vr a0, vr a1, vr a2, vr a3, vi x4, v5, v6] [vi (i_add z5 z6), vr b4, vl w3, vl w2, vr b1, vi z0] h := (run_step _ _ _ _ _ _).trans rfl
set_option maxRecDepth 8000 in
theorem s_268_297 : run (d + 1) md_268 297 [vr a0, vr a1, vr a2, vr a3, vi x4, v5, v6] [vi z5, vr b4, vl w3, vl w2, vr b1, vi z0] h = bif (isK h b4 11 || isK h b4 21) && inb h b4 z5 then run (d + 1) md_268 298 [vr a0, vr a1, vr a2, vr a3, vi x4, v5, v6] [vi (h_mi h b4 (z5 : Int).toNat), vl w3, vl w2, vr b1, vi z0] h else none := (run_step _ _ _ _ _ _).trans rfl
set_option maxRecDepth 8000 in
theorem s_268_298 : run (d + 1) md_268 298 [vr a0, vr a1, vr a2, vr a3, vi x4, v5, v6] [vi z4, vl w3, vl w2, vr b1, vi z0] h = run (d + 1) md_268 299 [vr a0, vr a1, vr a2, vr a3, vi x4, v5, v6] [vl z4, vl w3, vl w2, vr b1, vi z0] h := (run_step _ _ _ _ _ _).trans rfl
set_option maxRecDepth 8000 in
theorem s_268_299 : run (d + 1) md_268 299 [vr a0, vr a1, vr a2, vr a3, vi x4, v5, v6] [vl w4, vl w3, vl w2, vr b1, vi z0] h = run (d + 1) md_268 301 [vr a0, vr a1, vr a2, vr a3, vi x4, v5, v6] [vi 32, vl w4, vl w3, vl w2, vr b1, vi z0] h := (run_step _ _ _ _ _ _).trans rfl
set_option maxRecDepth 8000 in
theorem s_268_301 : run (d + 1) md_268 301 [vr a0, vr a1, vr a2, vr a3, vi x4, v5, v6] [vi z5, vl w4, vl w3, vl w2, vr b1, vi z0] h = run (d + 1) md_268 302 [vr a0, vr a1, vr a2, vr a3, vi x4, v5, v6] [vl (l_shl w4 z5), vl w3, vl w2, vr b1, vi z0] h := (run_step _ _ _ _ _ _).trans rfl
set_option maxRecDepth 8000 in
theorem s_268_302 : run (d + 1) md_268 302 [vr a0, vr a1, vr a2, vr a3, vi x4, v5, v6] [vl w4, vl w3, vl w2, vr b1, vi z0] h = run (d + 1) md_268 303 [vr a0, vr a1, vr a2, vr a3, vi x4, v5, v6] [vr a0, vl w4, vl w3, vl w2, vr b1, vi z0] h := (run_step _ _ _ _ _ _).trans rfl
set_option maxRecDepth 8000 in
theorem s_268_303 : run (d + 1) md_268 303 [vr a0, vr a1, vr a2, vr a3, vi x4, v5, v6] [vr b5, vl w4, vl w3, vl w2, vr b1, vi z0] h = run (d + 1) md_268 305 [vr a0, vr a1, vr a2, vr a3, vi x4, v5, v6] [vi x4, vr b5, vl w4, vl w3, vl w2, vr b1, vi z0] h := (run_step _ _ _ _ _ _).trans rfl
set_option maxRecDepth 8000 in
theorem s_268_305 : run (d + 1) md_268 305 [vr a0, vr a1, vr a2, vr a3, vi x4, v5, v6] [vi z6, vr b5, vl w4, vl w3, vl w2, vr b1, vi z0] h = run (d + 1) md_268 307 [vr a0, vr a1, vr a2, vr a3, vi x4, v5, v6] [vi 6, vi z6, vr b5, vl w4, vl w3, vl w2, vr b1, vi z0] h := (run_step _ _ _ _ _ _).trans rfl
set_option maxRecDepth 8000 in
theorem s_268_307 : run (d + 1) md_268 307 [vr a0, vr a1, vr a2, vr a3, vi x4, v5, v6] [vi z7, vi z6, vr b5, vl w4, vl w3, vl w2, vr b1, vi z0] h = run (d + 1) md_268 308 [vr a0, vr a1, vr a2, vr a3, vi x4, v5, v6] [vi (i_add z6 z7), vr b5, vl w4, vl w3, vl w2, vr b1, vi z0] h := (run_step _ _ _ _ _ _).trans rfl
set_option maxRecDepth 8000 in
theorem s_268_308 : run (d + 1) md_268 308 [vr a0, vr a1, vr a2, vr a3, vi x4, v5, v6] [vi z6, vr b5, vl w4, vl w3, vl w2, vr b1, vi z0] h = bif (isK h b5 11 || isK h b5 21) && inb h b5 z6 then run (d + 1) md_268 309 [vr a0, vr a1, vr a2, vr a3, vi x4, v5, v6] [vi (h_mi h b5 (z6 : Int).toNat), vl w4, vl w3, vl w2, vr b1, vi z0] h else none := (run_step _ _ _ _ _ _).trans rfl
set_option maxRecDepth 8000 in
theorem s_268_309 : run (d + 1) md_268 309 [vr a0, vr a1, vr a2, vr a3, vi x4, v5, v6] [vi z5, vl w4, vl w3, vl w2, vr b1, vi z0] h = run (d + 1) md_268 310 [vr a0, vr a1, vr a2, vr a3, vi x4, v5, v6] [vl z5, vl w4, vl w3, vl w2, vr b1, vi z0] h := (run_step _ _ _ _ _ _).trans rfl
set_option maxRecDepth 8000 in
theorem s_268_310 : run (d + 1) md_268 310 [vr a0, vr a1, vr a2, vr a3, vi x4, v5, v6] [vl w5, vl w4, vl w3, vl w2, vr b1, vi z0] h = run (d + 1) md_268 313 [vr a0, vr a1, vr a2, vr a3, vi x4, v5, v6] [vl 4294967295, vl w5, vl w4, vl w3, vl w2, vr b1, vi z0] h := (run_step _ _ _ _ _ _).trans rfl
set_option maxRecDepth 8000 in
theorem s_268_313 : run (d + 1) md_268 313 [vr a0, vr a1, vr a2, vr a3, vi x4, v5, v6] [vl w6, vl w5, vl w4, vl w3, vl w2, vr b1, vi z0] h = run (d + 1) md_268 314 [vr a0, vr a1, vr a2, vr a3, vi x4, v5, v6] [vl (l_and w5 w6), vl w4, vl w3, vl w2, vr b1, vi z0] h := (run_step _ _ _ _ _ _).trans rfl
set_option maxRecDepth 8000 in
theorem s_268_314 : run (d + 1) md_268 314 [vr a0, vr a1, vr a2, vr a3, vi x4, v5, v6] [vl w5, vl w4, vl w3, vl w2, vr b1, vi z0] h = run (d + 1) md_268 315 [vr a0, vr a1, vr a2, vr a3, vi x4, v5, v6] [vl (l_or w4 w5), vl w3, vl w2, vr b1, vi z0] h := (run_step _ _ _ _ _ _).trans rfl
set_option maxRecDepth 20000 in
set_option maxRecDepth 8000 in
theorem s_268_315 : run (d + 1) md_268 315 [vr a0, vr a1, vr a2, vr a3, vi x4, v5, v6] [vl w4, vl w3, vl w2, vr b1, vi z0] h = bif isK h b1 9 then bI (ev d 150 [vr b1, vl w2, vl w3, vl w4] h) fun r1 h1 => run (d + 1) md_268 318 [vr a0, vr a1, vr a2, vr a3, vi x4, v5, v6] [vi r1, vi z0] h1 else none := (run_step _ _ _ _ _ _).trans rfl
set_option maxRecDepth 8000 in
theorem s_268_318 : run (d + 1) md_268 318 [vr a0, vr a1, vr a2, vr a3, vi x4, v5, v6] [vi z1, vi z0] h = bif decide (z0 = z1) then run (d + 1) md_268 1498 [vr a0, vr a1, vr a2, vr a3, vi x4, v5, v6] [] h else run (d + 1) md_268 321 [vr a0, vr a1, vr a2, vr a3, vi x4, v5, v6] [] h := (run_step _ _ _ _ _ _).trans rfl
set_option maxRecDepth 8000 in
theorem s_268_321 : run (d + 1) md_268 321 [vr a0, vr a1, vr a2, vr a3, vi x4, v5, v6] [] h = run (d + 1) md_268 322 [vr a0, vr a1, vr a2, vr a3, vi x4, v5, v6] [vi 0] h := (run_step _ _ _ _ _ _).trans rfl
set_option maxRecDepth 8000 in
theorem s_268_322 : run (d + 1) md_268 322 [vr a0, vr a1, vr a2, vr a3, vi x4, v5, v6] [vi z0] h = bif decide (z0 = 0) || decide (z0 = 1) then some (vi z0, h) else none := (run_step _ _ _ _ _ _).trans rfl
set_option maxRecDepth 8000 in
theorem s_268_323 : run (d + 1) md_268 323 [vr a0, vr a1, vr a2, vr a3, vi x4, v5, v6] [] h = run (d + 1) md_268 324 [vr a0, vr a1, vr a2, vr a3, vi x4, v5, v6] [vr a1] h := (run_step _ _ _ _ _ _).trans rfl
set_option maxRecDepth 20000 in
set_option maxRecDepth 8000 in
theorem s_268_324 : run (d + 1) md_268 324 [vr a0, vr a1, vr a2, vr a3, vi x4, v5, v6] [vr b0] h = bif isK h b0 8 then bI (ev d 111 [vr b0] h) fun r1 h1 => run (d + 1) md_268 327 [vr a0, vr a1, vr a2, vr a3, vi x4, v5, v6] [vi r1] h1 else none := (run_step _ _ _ _ _ _).trans rfl
set_option maxRecDepth 8000 in
theorem s_268_327 : run (d + 1) md_268 327 [vr a0, vr a1, vr a2, vr a3, vi x4, v5, v6] [vi z0] h = run (d + 1) md_268 328 [vr a0, vr a1, vr a2, vr a3, vi x4, v5, v6] [vr a2, vi z0] h := (run_step _ _ _ _ _ _).trans rfl
set_option maxRecDepth 20000 in
set_option maxRecDepth 8000 in
theorem s_268_328 : run (d + 1) md_268 328 [vr a0, vr a1, vr a2, vr a3, vi x4, v5, v6] [vr b1, vi z0] h = bif isK h b1 9 then bI (ev d 183 [vr b1] h) fun r1 h1 => run (d + 1) md_268 331 [vr a0, vr a1, vr a2, vr a3, vi x4, v5, v6] [vi r1, vi z0] h1 else none := (run_step _ _ _ _ _ _).trans rfl
set_option maxRecDepth 8000 in
theorem s_268_331 : run (d + 1) md_268 331 [vr a0, vr a1, vr a2, vr a3, vi x4, v5, v6] [vi z1, vi z0] h = bif decide (z0 = z1) then run (d + 1) md_268 1498 [vr a0, vr a1, vr a2, vr a3, vi x4, v5, v6] [] h else run (d + 1) md_268 334 [vr a0, vr a1, vr a2, vr a3, vi x4, v5, v6] [] h := (run_step _ _ _ _ _ _).trans rfl
set_option maxRecDepth 8000 in
theorem s_268_334 : run (d + 1) md_268 334 [vr a0, vr a1, vr a2, vr a3, vi x4, v5, v6] [] h = run (d + 1) md_268 335 [vr a0, vr a1, vr a2, vr a3, vi x4, v5, v6] [vi 0] h := (run_step _ _ _ _ _ _).trans rfl
set_option maxRecDepth 8000 in
theorem s_268_335 : run (d + 1) md_268 335 [vr a0, vr a1, vr a2, vr a3, vi x4, v5, v6] [vi z0] h = bif decide (z0 = 0) || decide (z0 = 1) then some (vi z0, h) else none := (run_step _ _ _ _ _ _).trans rfl
set_option maxRecDepth 8000 in
theorem s_268_336 : run (d + 1) md_268 336 [vr a0, vr a1, vr a2, vr a3, vi x4, v5, v6] [] h = run (d + 1) md_268 337 [vr a0, vr a1, vr a2, vr a3, vi x4, v5, v6] [vr a1] h := (run_step _ _ _ _ _ _).trans rfl
set_option maxRecDepth 8000 in
theorem s_268_337 : run (d + 1) md_268 337 [vr a0, vr a1, vr a2, vr a3, vi x4, v5, v6] [vr b0] h = run (d + 1) md_268 338 [vr a0, vr a1, vr a2, vr a3, vi x4, v5, v6] [vr a0, vr b0] h := (run_step _ _ _ _ _ _).trans rfl
set_option maxRecDepth 8000 in
theorem s_268_338 : run (d + 1) md_268 338 [vr a0, vr a1, vr a2, vr a3, vi x4, v5, v6] [vr b1, vr b0] h = run (d + 1) md_268 340 [vr a0, vr a1, vr a2, vr a3, vi x4, v5, v6] [vi x4, vr b1, vr b0] h := (run_step _ _ _ _ _ _).trans rfl
set_option maxRecDepth 8000 in
theorem s_268_340 : run (d + 1) md_268 340 [vr a0, vr a1, vr a2, vr a3, vi x4, v5, v6] [vi z2, vr b1, vr b0] h = run (d + 1) md_268 341 [vr a0, vr a1, vr a2, vr a3, vi x4, v5, v6] [vi 1, vi z2, vr b1, vr b0] h := (run_step _ _ _ _ _ _).trans rfl
set_option maxRecDepth 8000 in
theorem s_268_341 : run (d + 1) md_268 341 [vr a0, vr a1, vr a2, vr a3, vi x4, v5, v6] [vi z3, vi z2, vr b1, vr b0] h = run (d + 1) md_268 342 [vr a0, vr a1, vr a2, vr a3, vi x4, v5, v6] [vi (i_add z2 z3), vr b1, vr b0] h := (run_step _ _ _ _ _ _).trans rfl
set_option maxRecDepth 8000 in
theorem s_268_342 : run (d + 1) md_268 342 [vr a0, vr a1, vr a2, vr a3, vi x4, v5, v6] [vi z2, vr b1, vr b0] h = bif (isK h b1 11 || isK h b1 21) && inb h b1 z2 then run (d + 1) md_268 343 [vr a0, vr a1, vr a2, vr a3, vi x4, v5, v6] [vi (h_mi h b1 (z2 : Int).toNat), vr b0] h else none := (run_step _ _ _ _ _ _).trans rfl
set_option maxRecDepth 8000 in
theorem s_268_343 : run (d + 1) md_268 343 [vr a0, vr a1, vr a2, vr a3, vi x4, v5, v6] [vi z1, vr b0] h = run (d + 1) md_268 344 [vr a0, vr a1, vr a2, vr a3, vi x4, v5, v6] [vr a0, vi z1, vr b0] h := (run_step _ _ _ _ _ _).trans rfl
set_option maxRecDepth 8000 in
theorem s_268_344 : run (d + 1) md_268 344 [vr a0, vr a1, vr a2, vr a3, vi x4, v5, v6] [vr b2, vi z1, vr b0] h = run (d + 1) md_268 346 [vr a0, vr a1, vr a2, vr a3, vi x4, v5, v6] [vi x4, vr b2, vi z1, vr b0] h := (run_step _ _ _ _ _ _).trans rfl
set_option maxRecDepth 8000 in
theorem s_268_346 : run (d + 1) md_268 346 [vr a0, vr a1, vr a2, vr a3, vi x4, v5, v6] [vi z3, vr b2, vi z1, vr b0] h = run (d + 1) md_268 347 [vr a0, vr a1, vr a2, vr a3, vi x4, v5, v6] [vi 2, vi z3, vr b2, vi z1, vr b0] h := (run_step _ _ _ _ _ _).trans rfl
set_option maxRecDepth 8000 in
theorem s_268_347 : run (d + 1) md_268 347 [vr a0, vr a1, vr a2, vr a3, vi x4, v5, v6] [vi z4, vi z3, vr b2, vi z1, vr b0] h = run (d + 1) md_268 348 [vr a0, vr a1, vr a2, vr a3, vi x4, v5, v6] [vi (i_add z3 z4), vr b2, vi z1, vr b0] h := (run_step _ _ _ _ _ _).trans rfl
set_option maxRecDepth 8000 in
theorem s_268_348 : run (d + 1) md_268 348 [vr a0, vr a1, vr a2, vr a3, vi x4, v5, v6] [vi z3, vr b2, vi z1, vr b0] h = bif (isK h b2 11 || isK h b2 21) && inb h b2 z3 then run (d + 1) md_268 349 [vr a0, vr a1, vr a2, vr a3, vi x4, v5, v6] [vi (h_mi h b2 (z3 : Int).toNat), vi z1, vr b0] h else none := (run_step _ _ _ _ _ _).trans rfl
set_option maxRecDepth 8000 in
theorem s_268_349 : run (d + 1) md_268 349 [vr a0, vr a1, vr a2, vr a3, vi x4, v5, v6] [vi z2, vi z1, vr b0] h = run (d + 1) md_268 350 [vr a0, vr a1, vr a2, vr a3, vi x4, v5, v6] [vr a0, vi z2, vi z1, vr b0] h := (run_step _ _ _ _ _ _).trans rfl
set_option maxRecDepth 8000 in
theorem s_268_350 : run (d + 1) md_268 350 [vr a0, vr a1, vr a2, vr a3, vi x4, v5, v6] [vr b3, vi z2, vi z1, vr b0] h = run (d + 1) md_268 352 [vr a0, vr a1, vr a2, vr a3, vi x4, v5, v6] [vi x4, vr b3, vi z2, vi z1, vr b0] h := (run_step _ _ _ _ _ _).trans rfl
set_option maxRecDepth 8000 in
theorem s_268_352 : run (d + 1) md_268 352 [vr a0, vr a1, vr a2, vr a3, vi x4, v5, v6] [vi z4, vr b3, vi z2, vi z1, vr b0] h = run (d + 1) md_268 353 [vr a0, vr a1, vr a2, vr a3, vi x4, v5, v6] [vi 3, vi z4, vr b3, vi z2, vi z1, vr b0] h := (run_step _ _ _ _ _ _).trans rfl
set_option maxRecDepth 8000 in
theorem s_268_353 : run (d + 1) md_268 353 [vr a0, vr a1, vr a2, vr a3, vi x4, v5, v6] [vi z5, vi z4, vr b3, vi z2, vi z1, vr b0] h = run (d + 1) md_268 354 [vr a0, vr a1, vr a2, vr a3, vi x4, v5, v6] [vi (i_add z4 z5), vr b3, vi z2, vi z1, vr b0] h := (run_step _ _ _ _ _ _).trans rfl
set_option maxRecDepth 8000 in
theorem s_268_354 : run (d + 1) md_268 354 [vr a0, vr a1, vr a2, vr a3, vi x4, v5, v6] [vi z4, vr b3, vi z2, vi z1, vr b0] h = bif (isK h b3 11 || isK h b3 21) && inb h b3 z4 then run (d + 1) md_268 355 [vr a0, vr a1, vr a2, vr a3, vi x4, v5, v6] [vi (h_mi h b3 (z4 : Int).toNat), vi z2, vi z1, vr b0] h else none := (run_step _ _ _ _ _ _).trans rfl
set_option maxRecDepth 20000 in
set_option maxRecDepth 8000 in
theorem s_268_355 : run (d + 1) md_268 355 [vr a0, vr a1, vr a2, vr a3, vi x4, v5, v6] [vi z3, vi z2, vi z1, vr b0] h = bif isK h b0 8 then bI (ev d 112 [vr b0, vi z1, vi z2, vi z3] h) fun r1 h1 => run (d + 1) md_268 358 [vr a0, vr a1, vr a2, vr a3, vi x4, v5, v6] [vi r1] h1 else none := (run_step _ _ _ _ _ _).trans rfl
set_option maxRecDepth 8000 in
theorem s_268_358 : run (d + 1) md_268 358 [vr a0, vr a1, vr a2, vr a3, vi x4, v5, v6] [vi z0] h = run (d + 1) md_268 359 [vr a0, vr a1, vr a2, vr a3, vi x4, v5, v6] [vr a2, vi z0] h := (run_step _ _ _ _ _ _).trans rfl
set_option maxRecDepth 8000 in
theorem s_268_359 : run (d + 1) md_268 359 [vr a0, vr a1, vr a2, vr a3, vi x4, v5, v6] [vr b1, vi z0] h = run (d + 1) md_268 360 [vr a0, vr a1, vr a2, vr a3, vi x4, v5, v6] [vr a0, vr b1, vi z0] h := (run_step _ _ _ _ _ _).trans rfl
set_option maxRecDepth 8000 in
theorem s_268_360 : run (d + 1) md_268 360 [vr a0, vr a1, vr a2, vr a3, vi x4, v5, v6] [vr b2, vr b1, vi z0] h = run (d + 1) md_268 362 [vr a0, vr a1, vr a2, vr a3, vi x4, v5, v6] [vi x4, vr b2, vr b1, vi z0] h := (run_step _ _ _ _ _ _).trans rfl
set_option maxRecDepth 8000 in
theorem s_268_362 : run (d + 1) md_268 362 [vr a0, vr a1, vr a2, vr a3, vi x4, v5, v6] [vi z3, vr b2, vr b1, vi z0] h = run (d + 1) md_268 363 [vr a0, vr a1, vr a2, vr a3, vi x4, v5, v6] [vi 1, vi z3, vr b2, vr b1, vi z0] h := (run_step _ _ _ _ _ _).trans rfl
set_option maxRecDepth 8000 in
theorem s_268_363 : run (d + 1) md_268 363 [vr a0, vr a1, vr a2, vr a3, vi x4, v5, v6] [vi z4, vi z3, vr b2, vr b1, vi z0] h = run (d + 1) md_268 364 [vr a0, vr a1, vr a2, vr a3, vi x4, v5, v6] [vi (i_add z3 z4), vr b2, vr b1, vi z0] h := (run_step _ _ _ _ _ _).trans rfl
set_option maxRecDepth 8000 in
theorem s_268_364 : run (d + 1) md_268 364 [vr a0, vr a1, vr a2, vr a3, vi x4, v5, v6] [vi z3, vr b2, vr b1, vi z0] h = bif (isK h b2 11 || isK h b2 21) && inb h b2 z3 then run (d + 1) md_268 365 [vr a0, vr a1, vr a2, vr a3, vi x4, v5, v6] [vi (h_mi h b2 (z3 : Int).toNat), vr b1, vi z0] h else none := (run_step _ _ _ _ _ _).trans rfl
set_option maxRecDepth 8000 in
theorem s_268_365 : run (d + 1) md_268 365 [vr a0, vr a1, vr a2, vr a3, vi x4, v5, v6] [vi z2, vr b1, vi z0] h = run (d + 1) md_268 366 [vr a0, vr a1, vr a2, vr a3, vi x4, v5, v6] [vr a0, vi z2, vr b1, vi z0] h := (run_step _ _ _ _ _ _).trans rfl
set_option maxRecDepth 8000 in
theorem s_268_366 : run (d + 1) md_268 366 [vr a0, vr a1, vr a2, vr a3, vi x4, v5, v6] [vr b3, vi z2, vr b1, vi z0] h = run (d + 1) md_268 368 [vr a0, vr a1, vr a2, vr a3, vi x4, v5, v6] [vi x4, vr b3, vi z2, vr b1, vi z0] h := (run_step _ _ _ _ _ _).trans rfl
set_option maxRecDepth 8000 in
theorem s_268_368 : run (d + 1) md_268 368 [vr a0, vr a1, vr a2, vr a3, vi x4, v5, v6] [vi z4, vr b3, vi z2, vr b1, vi z0] h = run (d + 1) md_268 369 [vr a0, vr a1, vr a2, vr a3, vi x4, v5, v6] [vi 2, vi z4, vr b3, vi z2, vr b1, vi z0] h := (run_step _ _ _ _ _ _).trans rfl
set_option maxRecDepth 8000 in
theorem s_268_369 : run (d + 1) md_268 369 [vr a0, vr a1, vr a2, vr a3, vi x4, v5, v6] [vi z5, vi z4, vr b3, vi z2, vr b1, vi z0] h = run (d + 1) md_268 370 [vr a0, vr a1, vr a2, vr a3, vi x4, v5, v6] [vi (i_add z4 z5), vr b3, vi z2, vr b1, vi z0] h := (run_step _ _ _ _ _ _).trans rfl
set_option maxRecDepth 8000 in
theorem s_268_370 : run (d + 1) md_268 370 [vr a0, vr a1, vr a2, vr a3, vi x4, v5, v6] [vi z4, vr b3, vi z2, vr b1, vi z0] h = bif (isK h b3 11 || isK h b3 21) && inb h b3 z4 then run (d + 1) md_268 371 [vr a0, vr a1, vr a2, vr a3, vi x4, v5, v6] [vi (h_mi h b3 (z4 : Int).toNat), vi z2, vr b1, vi z0] h else none := (run_step _ _ _ _ _ _).trans rfl
set_option maxRecDepth 8000 in
theorem s_268_371 : run (d + 1) md_268 371 [vr a0, vr a1, vr a2, vr a3, vi x4, v5, v6] [vi z3, vi z2, vr b1, vi z0] h = run (d + 1) md_268 372 [vr a0, vr a1, vr a2, vr a3, vi x4, v5, v6] [vr a0, vi z3, vi z2, vr b1, vi z0] h := (run_step _ _ _ _ _ _).trans rfl
set_option maxRecDepth 8000 in
theorem s_268_372 : run (d + 1) md_268 372 [vr a0, vr a1, vr a2, vr a3, vi x4, v5, v6] [vr b4, vi z3, vi z2, vr b1, vi z0] h = run (d + 1) md_268 374 [vr a0, vr a1, vr a2, vr a3, vi x4, v5, v6] [vi x4, vr b4, vi z3, vi z2, vr b1, vi z0] h := (run_step _ _ _ _ _ _).trans rfl
set_option maxRecDepth 8000 in
theorem s_268_374 : run (d + 1) md_268 374 [vr a0, vr a1, vr a2, vr a3, vi x4, v5, v6] [vi z5, vr b4, vi z3, vi z2, vr b1, vi z0] h = run (d + 1) md_268 375 [vr a0, vr a1, vr a2, vr a3, vi x4, v5, v6] [vi 3, vi z5, vr b4, vi z3, vi z2, vr b1, vi z0] h := (run_step _ _ _ _ _ _).trans rfl
set_option maxRecDepth 8000 in
theorem s_268_375 : run (d + 1) md_268 375 [vr a0, vr a1, vr a2, vr a3, vi x4, v5, v6] [vi z6, vi z5, vr b4, vi z3, vi z2, vr b1, vi z0] h = run (d + 1) md_268 376 [vr a0, vr a1, vr a2, vr a3, vi x4, v5, v6] [vi (i_add z5 z6), vr b4, vi z3, vi z2, vr b1, vi z0] h := (run_step _ _ _ _ _ _).trans rfl
set_option maxRecDepth 8000 in
theorem s_268_376 : run (d + 1) md_268 376 [vr a0, vr a1, vr a2, vr a3, vi x4, v5, v6] [vi z5, vr b4, vi z3, vi z2, vr b1, vi z0] h = bif (isK h b4 11 || isK h b4 21) && inb h b4 z5 then run (d + 1) md_268 377 [vr a0, vr a1, vr a2, vr a3, vi x4, v5, v6] [vi (h_mi h b4 (z5 : Int).toNat), vi z3, vi z2, vr b1, vi z0] h else none := (run_step _ _ _ _ _ _).trans rfl
set_option maxRecDepth 20000 in
set_option maxRecDepth 8000 in
theorem s_268_377 : run (d + 1) md_268 377 [vr a0, vr a1, vr a2, vr a3, vi x4, v5, v6] [vi z4, vi z3, vi z2, vr b1, vi z0] h = bif isK h b1 9 then bI (ev d 194 [vr b1, vi z2, vi z3, vi z4] h) fun r1 h1 => run (d + 1) md_268 380 [vr a0, vr a1, vr a2, vr a3, vi x4, v5, v6] [vi r1, vi z0] h1 else none := (run_step _ _ _ _ _ _).trans rfl
set_option maxRecDepth 8000 in
theorem s_268_380 : run (d + 1) md_268 380 [vr a0, vr a1, vr a2, vr a3, vi x4, v5, v6] [vi z1, vi z0] h = bif decide (z0 = z1) then run (d + 1) md_268 1498 [vr a0, vr a1, vr a2, vr a3, vi x4, v5, v6] [] h else run (d + 1) md_268 383 [vr a0, vr a1, vr a2, vr a3, vi x4, v5, v6] [] h := (run_step _ _ _ _ _ _).trans rfl
set_option maxRecDepth 8000 in
theorem s_268_383 : run (d + 1) md_268 383 [vr a0, vr a1, vr a2, vr a3, vi x4, v5, v6] [] h = run (d + 1) md_268 384 [vr a0, vr a1, vr a2, vr a3, vi x4, v5, v6] [vi 0] h := (run_step _ _ _ _ _ _).trans rfl
set_option maxRecDepth 8000 in
theorem s_268_384 : run (d + 1) md_268 384 [vr a0, vr a1, vr a2, vr a3, vi x4, v5, v6] [vi z0] h = bif decide (z0 = 0) || decide (z0 = 1) then some (vi z0, h) else none := (run_step _ _ _ _ _ _).trans rfl
set_option maxRecDepth 8000 in
theorem s_268_385 : run (d + 1) md_268 385 [vr a0, vr a1, vr a2, vr a3, vi x4, v5, v6] [] h = run (d + 1) md_268 386 [vr a0, vr a1, vr a2, vr a3, vi x4, v5, v6] [vr a1] h := (run_step _ _ _ _ _ _).trans rfl
set_option maxRecDepth 8000 in
theorem s_268_386 : run (d + 1) md_268 386 [vr a0, vr a1, vr a2, vr a3, vi x4, v5, v6] [vr b0] h = run (d + 1) md_268 387 [vr a0, vr a1, vr a2, vr a3, vi x4, v5, v6] [vr a0, vr b0] h := (run_step _ _ _ _ _ _).trans rfl
set_option maxRecDepth 8000 in
theorem s_268_387 : run (d + 1) md_268 387 [vr a0, vr a1, vr a2, vr a3, vi x4, v5, v6] [vr b1, vr b0] h = run (d + 1) md_268 389 [vr a0, vr a1, vr a2, vr a3, vi x4, v5, v6] [vi x4, vr b1, vr b0] h := (run_step _ _ _ _ _ _).trans rfl
set_option maxRecDepth 8000 in
theorem s_268_389 : run (d + 1) md_268 389 [vr a0, vr a1, vr a2, vr a3, vi x4, v5, v6] [vi z2, vr b1, vr b0] h = run (d + 1) md_268 390 [vr a0, vr a1, vr a2, vr a3, vi x4, v5, v6] [vi 1, vi z2, vr b1, vr b0] h := (run_step _ _ _ _ _ _).trans rfl
set_option maxRecDepth 8000 in
theorem s_268_390 : run (d + 1) md_268 390 [vr a0, vr a1, vr a2, vr a3, vi x4, v5, v6] [vi z3, vi z2, vr b1, vr b0] h = run (d + 1) md_268 391 [vr a0, vr a1, vr a2, vr a3, vi x4, v5, v6] [vi (i_add z2 z3), vr b1, vr b0] h := (run_step _ _ _ _ _ _).trans rfl
set_option maxRecDepth 8000 in
theorem s_268_391 : run (d + 1) md_268 391 [vr a0, vr a1, vr a2, vr a3, vi x4, v5, v6] [vi z2, vr b1, vr b0] h = bif (isK h b1 11 || isK h b1 21) && inb h b1 z2 then run (d + 1) md_268 392 [vr a0, vr a1, vr a2, vr a3, vi x4, v5, v6] [vi (h_mi h b1 (z2 : Int).toNat), vr b0] h else none := (run_step _ _ _ _ _ _).trans rfl
set_option maxRecDepth 8000 in
theorem s_268_392 : run (d + 1) md_268 392 [vr a0, vr a1, vr a2, vr a3, vi x4, v5, v6] [vi z1, vr b0] h = run (d + 1) md_268 393 [vr a0, vr a1, vr a2, vr a3, vi x4, v5, v6] [vr a0, vi z1, vr b0] h := (run_step _ _ _ _ _ _).trans rfl
set_option maxRecDepth 8000 in
theorem s_268_393 : run (d + 1) md_268 393 [vr a0, vr a1, vr a2, vr a3, vi x4, v5, v6] [vr b2, vi z1, vr b0] h = run (d + 1) md_268 395 [vr a0, vr a1, vr a2, vr a3, vi x4, v5, v6] [vi x4, vr b2, vi z1, vr b0] h := (run_step _ _ _ _ _ _).trans rfl
set_option maxRecDepth 8000 in
theorem s_268_395 : run (d + 1) md_268 395 [vr a0, vr a1, vr a2, vr a3, vi x4, v5, v6] [vi z3, vr b2, vi z1, vr b0] h = run (d + 1) md_268 396 [vr a0, vr a1, vr a2, vr a3, vi x4, v5, v6] [vi 2, vi z3, vr b2, vi z1, vr b0] h := (run_step _ _ _ _ _ _).trans rfl
set_option maxRecDepth 8000 in
theorem s_268_396 : run (d + 1) md_268 396 [vr a0, vr a1, vr a2, vr a3, vi x4, v5, v6] [vi z4, vi z3, vr b2, vi z1, vr b0] h = run (d + 1) md_268 397 [vr a0, vr a1, vr a2, vr a3, vi x4, v5, v6] [vi (i_add z3 z4), vr b2, vi z1, vr b0] h := (run_step _ _ _ _ _ _).trans rfl
set_option maxRecDepth 8000 in
theorem s_268_397 : run (d + 1) md_268 397 [vr a0, vr a1, vr a2, vr a3, vi x4, v5, v6] [vi z3, vr b2, vi z1, vr b0] h = bif (isK h b2 11 || isK h b2 21) && inb h b2 z3 then run (d + 1) md_268 398 [vr a0, vr a1, vr a2, vr a3, vi x4, v5, v6] [vi (h_mi h b2 (z3 : Int).toNat), vi z1, vr b0] h else none := (run_step _ _ _ _ _ _).trans rfl
set_option maxRecDepth 20000 in
set_option maxRecDepth 8000 in
theorem s_268_398 : run (d + 1) md_268 398 [vr a0, vr a1, vr a2, vr a3, vi x4, v5, v6] [vi z2, vi z1, vr b0] h = bif isK h b0 8 then bI (ev d 113 [vr b0, vi z1, vi z2] h) fun r1 h1 => run (d + 1) md_268 401 [vr a0, vr a1, vr a2, vr a3, vi x4, v5, v6] [vi r1] h1 else none := (run_step _ _ _ _ _ _).trans rfl
set_option maxRecDepth 8000 in
theorem s_268_401 : run (d + 1) md_268 401 [vr a0, vr a1, vr a2, vr a3, vi x4, v5, v6] [vi z0] h = run (d + 1) md_268 402 [vr a0, vr a1, vr a2, vr a3, vi x4, v5, v6] [vr a2, vi z0] h := (run_step _ _ _ _ _ _).trans rfl
set_option maxRecDepth 8000 in
theorem s_268_402 : run (d + 1) md_268 402 [vr a0, vr a1, vr a2, vr a3, vi x4, v5, v6] [vr b1, vi z0] h = run (d + 1) md_268 403 [vr a0, vr a1, vr a2, vr a3, vi x4, v5, v6] [vr a0, vr b1, vi z0] h := (run_step _ _ _ _ _ _).trans rfl
set_option maxRecDepth 8000 in
theorem s_268_403 : run (d + 1) md_268 403 [vr a0, vr a1, vr a2, vr a3, vi x4, v5, v6] [vr b2, vr b1, vi z0] h = run (d + 1) md_268 405 [vr a0, vr a1, vr a2, vr a3, vi x4, v5, v6] [vi x4, vr b2, vr b1, vi z0] h := (run_step _ _ _ _ _ _).trans rfl
set_option maxRecDepth 8000 in
theorem s_268_405 : run (d + 1) md_268 405 [vr a0, vr a1, vr a2, vr a3, vi x4, v5, v6] [vi z3, vr b2, vr b1, vi z0] h = run (d + 1) md_268 406 [vr a0, vr a1, vr a2, vr a3, vi x4, v5, v6] [vi 1, vi z3, vr b2, vr b1, vi z0] h := (run_step _ _ _ _ _ _).trans rfl
set_option maxRecDepth 8000 in
theorem s_268_406 : run (d + 1) md_268 406 [vr a0, vr a1, vr a2, vr a3, vi x4, v5, v6] [vi z4, vi z3, vr b2, vr b1, vi z0] h = run (d + 1) md_268 407 [vr a0, vr a1, vr a2, vr a3, vi x4, v5, v6] [vi (i_add z3 z4), vr b2, vr b1, vi z0] h := (run_step _ _ _ _ _ _).trans rfl
set_option maxRecDepth 8000 in
theorem s_268_407 : run (d + 1) md_268 407 [vr a0, vr a1, vr a2, vr a3, vi x4, v5, v6] [vi z3, vr b2, vr b1, vi z0] h = bif (isK h b2 11 || isK h b2 21) && inb h b2 z3 then run (d + 1) md_268 408 [vr a0, vr a1, vr a2, vr a3, vi x4, v5, v6] [vi (h_mi h b2 (z3 : Int).toNat), vr b1, vi z0] h else none := (run_step _ _ _ _ _ _).trans rfl
set_option maxRecDepth 8000 in
theorem s_268_408 : run (d + 1) md_268 408 [vr a0, vr a1, vr a2, vr a3, vi x4, v5, v6] [vi z2, vr b1, vi z0] h = run (d + 1) md_268 409 [vr a0, vr a1, vr a2, vr a3, vi x4, v5, v6] [vr a0, vi z2, vr b1, vi z0] h := (run_step _ _ _ _ _ _).trans rfl
set_option maxRecDepth 8000 in
theorem s_268_409 : run (d + 1) md_268 409 [vr a0, vr a1, vr a2, vr a3, vi x4, v5, v6] [vr b3, vi z2, vr b1, vi z0] h = run (d + 1) md_268 411 [vr a0, vr a1, vr a2, vr a3, vi x4, v5, v6] [vi x4, vr b3, vi z2, vr b1, vi z0] h := (run_step _ _ _ _ _ _).trans rfl
set_option maxRecDepth 8000 in
theorem s_268_411 : run (d + 1) md_268 411 [vr a0, vr a1, vr a2, vr a3, vi x4, v5, v6] [vi z4, vr b3, vi z2, vr b1, vi z0] h = run (d + 1) md_268 412 [vr a0, vr a1, vr a2, vr a3, vi x4, v5, v6] [vi 2, vi z4, vr b3, vi z2, vr b1, vi z0] h := (run_step _ _ _ _ _ _).trans rfl
set_option maxRecDepth 8000 in
theorem s_268_412 : run (d + 1) md_268 412 [vr a0, vr a1, vr a2, vr a3, vi x4, v5, v6] [vi z5, vi z4, vr b3, vi z2, vr b1, vi z0] h = run (d + 1) md_268 413 [vr a0, vr a1, vr a2, vr a3, vi x4, v5, v6] [vi (i_add z4 z5), vr b3, vi z2, vr b1, vi z0] h := (run_step _ _ _ _ _ _).trans rfl
set_option maxRecDepth 8000 in
theorem s_268_413 : run (d + 1) md_268 413 [vr a0, vr a1, vr a2, vr a3, vi x4, v5, v6] [vi z4, vr b3, vi z2, vr b1, vi z0] h = bif (isK h b3 11 || isK h b3 21) && inb h b3 z4 then run (d + 1) md_268 414 [vr a0, vr a1, vr a2, vr a3, vi x4, v5, v6] [vi (h_mi h b3 (z4 : Int).toNat), vi z2, vr b1, vi z0] h else none := (run_step _ _ _ _ _ _).trans rfl
set_option maxRecDepth 20000 in
set_option maxRecDepth 8000 in
theorem s_268_414 : run (d + 1) md_268 414 [vr a0, vr a1, vr a2, vr a3, vi x4, v5, v6] [vi z3, vi z2, vr b1, vi z0] h = bif isK h b1 9 then bI (ev d 195 [vr b1, vi z2, vi z3] h) fun r1 h1 => run (d + 1) md_268 417 [vr a0, vr a1, vr a2, vr a3, vi x4, v5, v6] [vi r1, vi z0] h1 else none := (run_step _ _ _ _ _ _).trans rfl
set_option maxRecDepth 8000 in
theorem s_268_417 : run (d + 1) md_268 417 [vr a0, vr a1, vr a2, vr a3, vi x4, v5, v6] [vi z1, vi z0] h = bif decide (z0 = z1) then run (d + 1) md_268 1498 [vr a0, vr a1, vr a2, vr a3, vi x4, v5, v6] [] h else run (d + 1) md_268 420 [vr a0, vr a1, vr a2, vr a3, vi x4, v5, v6] [] h := (run_step _ _ _ _ _ _).trans rfl
set_option maxRecDepth 8000 in
theorem s_268_420 : run (d + 1) md_268 420 [vr a0, vr a1, vr a2, vr a3, vi x4, v5, v6] [] h = run (d + 1) md_268 421 [vr a0, vr a1, vr a2, vr a3, vi x4, v5, v6] [vi 0] h := (run_step _ _ _ _ _ _).trans rfl
set_option maxRecDepth 8000 in
theorem s_268_421 : run (d + 1) md_268 421 [vr a0, vr a1, vr a2, vr a3, vi x4, v5, v6] [vi z0] h = bif decide (z0 = 0) || decide (z0 = 1) then some (vi z0, h) else none := (run_step _ _ _ _ _ _).trans rfl
set_option maxRecDepth 8000 in
theorem s_268_422 : run (d + 1) md_268 422 [vr a0, vr a1, vr a2, vr a3, vi x4, v5, v6] [] h = run (d + 1) md_268 423 [vr a0, vr a1, vr a2, vr a3, vi x4, v5, v6] [vr a1] h := (run_step _ _ _ _ _ _).trans rfl
set_option maxRecDepth 8000 in
theorem s_268_423 : run (d + 1) md_268 423 [vr a0, vr a1, vr a2, vr a3, vi x4, v5, v6] [vr b0] h = run (d + 1) md_268 424 [vr a0, vr a1, vr a2, vr a3, vi x4, v5, v6] [vr a0, vr b0] h := (run_step _ _ _ _ _ _).trans rfl
set_option maxRecDepth 8000 in
theorem s_268_424 : run (d + 1) md_268 424 [vr a0, vr a1, vr a2, vr a3, vi x4, v5, v6] [vr b1, vr b0] h = run (d + 1) md_268 426 [vr a0, vr a1, vr a2, vr a3, vi x4, v5, v6] [vi x4, vr b1, vr b0] h := (run_step _ _ _ _ _ _).trans rfl
set_option maxRecDepth 8000 in
theorem s_268_426 : run (d + 1) md_268 426 [vr a0, vr a1, vr a2, vr a3, vi x4, v5, v6] [vi z2, vr b1, vr b0] h = run (d + 1) md_268 427 [vr a0, vr a1, vr a2, vr a3, vi x4, v5, v6] [vi 1, vi z2, vr b1, vr b0] h := (run_step _ _ _ _ _ _).trans rfl
set_option maxRecDepth 8000 in
theorem s_268_427 : run (d + 1) md_268 427 [vr a0, vr a1, vr a2, vr a3, vi x4, v5, v6] [vi z3, vi z2, vr b1, vr b0] h = run (d + 1) md_268 428 [vr a0, vr a1, vr a2, vr a3, vi x4, v5, v6] [vi (i_add z2 z3), vr b1, vr b0] h := (run_step _ _ _ _ _ _).trans rfl
set_option maxRecDepth 8000 in
theorem s_268_428 : run (d + 1) md_268 428 [vr a0, vr a1, vr a2, vr a3, vi x4, v5, v6] [vi z2, vr b1, vr b0] h = bif (isK h b1 11 || isK h b1 21) && inb h b1 z2 then run (d + 1) md_268 429 [vr a0, vr a1, vr a2, vr a3, vi x4, v5, v6] [vi (h_mi h b1 (z2 : Int).toNat), vr b0] h else none := (run_step _ _ _ _ _ _).trans rfl
set_option maxRecDepth 8000 in
theorem s_268_429 : run (d + 1) md_268 429 [vr a0, vr a1, vr a2, vr a3, vi x4, v5, v6] [vi z1, vr b0] h = run (d + 1) md_268 430 [vr a0, vr a1, vr a2, vr a3, vi x4, v5, v6] [vr a0, vi z1, vr b0] h := (run_step _ _ _ _ _ _).trans rfl
set_option maxRecDepth 8000 in
theorem s_268_430 : run (d + 1) md_268 430 [vr a0, vr a1, vr a2, vr a3, vi x4, v5, v6] [vr b2, vi z1, vr b0] h = run (d + 1) md_268 432 [vr a0, vr a1, vr a2, vr a3, vi x4, v5, v6] [vi x4, vr b2, vi z1, vr b0] h := (run_step _ _ _ _ _ _).trans rfl
set_option maxRecDepth 8000 in
theorem s_268_432 : run (d + 1) md_268 432 [vr a0, vr a1, vr a2, vr a3, vi x4, v5, v6] [vi z3, vr b2, vi z1, vr b0] h = run (d + 1) md_268 433 [vr a0, vr a1, vr a2, vr a3, vi x4, v5, v6] [vi 2, vi z3, vr b2, vi z1, vr b0] h := (run_step _ _ _ _ _ _).trans rfl
set_option maxRecDepth 8000 in
theorem s_268_433 : run (d + 1) md_268 433 [vr a0, vr a1, vr a2, vr a3, vi x4, v5, v6] [vi z4, vi z3, vr b2, vi z1, vr b0] h = run (d + 1) md_268 434 [vr a0, vr a1, vr a2, vr a3, vi x4, v5, v6] [vi (i_add z3 z4), vr b2, vi z1, vr b0] h := (run_step _ _ _ _ _ _).trans rfl
set_option maxRecDepth 8000 in
theorem s_268_434 : run (d + 1) md_268 434 [vr a0, vr a1, vr a2, vr a3, vi x4, v5, v6] [vi z3, vr b2, vi z1, vr b0] h = bif (isK h b2 11 || isK h b2 21) && inb h b2 z3 then run (d + 1) md_268 435 [vr a0, vr a1, vr a2, vr a3, vi x4, v5, v6] [vi (h_mi h b2 (z3 : Int).toNat), vi z1, vr b0] h else none := (run_step _ _ _ _ _ _).trans rfl
set_option maxRecDepth 20000 in
set_option maxRecDepth 8000 in
theorem s_268_435 : run (d + 1) md_268 435 [vr a0, vr a1, vr a2, vr a3, vi x4, v5, v6] [vi z2, vi z1, vr b0] h = bif isK h b0 8 then bI (ev d 114 [vr b0, vi z1, vi z2] h) fun r1 h1 => run (d + 1) md_268 438 [vr a0, vr a1, vr a2, vr a3, vi x4, v5, v6] [vi r1] h1 else none := (run_step _ _ _ _ _ _).trans rfl
set_option maxRecDepth 8000 in
theorem s_268_438 : run (d + 1) md_268 438 [vr a0, vr a1, vr a2, vr a3, vi x4, v5, v6] [vi z0] h = run (d + 1) md_268 439 [vr a0, vr a1, vr a2, vr a3, vi x4, v5, v6] [vr a2, vi z0] h := (run_step _ _ _ _ _ _).trans rfl
set_option maxRecDepth 8000 in
theorem s_268_439 : run (d + 1) md_268 439 [vr a0, vr a1, vr a2, vr a3, vi x4, v5, v6] [vr b1, vi z0] h = run (d + 1) md_268 440 [vr a0, vr a1, vr a2, vr a3, vi x4, v5, v6] [vr a0, vr b1, vi z0] h := (run_step _ _ _ _ _ _).trans rfl
set_option maxRecDepth 8000 in
theorem s_268_440 : run (d + 1) md_268 440 [vr a0, vr a1, vr a2, vr a3, vi x4, v5, v6] [vr b2, vr b1, vi z0] h = run (d + 1) md_268 442 [vr a0, vr a1, vr a2, vr a3, vi x4, v5, v6] [vi x4, vr b2, vr b1, vi z0] h := (run_step _ _ _ _ _ _).trans rfl
set_option maxRecDepth 8000 in
theorem s_268_442 : run (d + 1) md_268 442 [vr a0, vr a1, vr a2, vr a3, vi x4, v5, v6] [vi z3, vr b2, vr b1, vi z0] h = run (d + 1) md_268 443 [vr a0, vr a1, vr a2, vr a3, vi x4, v5, v6] [vi 1, vi z3, vr b2, vr b1, vi z0] h := (run_step _ _ _ _ _ _).trans rfl
set_option maxRecDepth 8000 in
theorem s_268_443 : run (d + 1) md_268 443 [vr a0, vr a1, vr a2, vr a3, vi x4, v5, v6] [vi z4, vi z3, vr b2, vr b1, vi z0] h = run (d + 1) md_268 444 [vr a0, vr a1, vr a2, vr a3, vi x4, v5, v6] [vi (i_add z3 z4), vr b2, vr b1, vi z0] h := (run_step _ _ _ _ _ _).trans rfl
set_option maxRecDepth 8000 in
theorem s_268_444 : run (d + 1) md_268 444 [vr a0, vr a1, vr a2, vr a3, vi x4, v5, v6] [vi z3, vr b2, vr b1, vi z0] h = bif (isK h b2 11 || isK h b2 21) && inb h b2 z3 then run (d + 1) md_268 445 [vr a0, vr a1, vr a2, vr a3, vi x4, v5, v6] [vi (h_mi h b2 (z3 : Int).toNat), vr b1, vi z0] h else none := (run_step _ _ _ _ _ _).trans rfl
set_option maxRecDepth 8000 in
theorem s_268_445 : run (d + 1) md_268 445 [vr a0, vr a1, vr a2, vr a3, vi x4, v5, v6] [vi z2, vr b1, vi z0] h = run (d + 1) md_268 446 [vr a0, vr a1, vr a2, vr a3, vi x4, v5, v6] [vr a0, vi z2, vr b1, vi z0] h := (run_step _ _ _ _ _ _).trans rfl
set_option maxRecDepth 8000 in
theorem s_268_446 : run (d + 1) md_268 446 [vr a0, vr a1, vr a2, vr a3, vi x4, v5, v6] [vr b3, vi z2, vr b1, vi z0] h = run (d + 1) md_268 448 [vr a0, vr a1, vr a2, vr a3, vi x4, v5, v6] [vi x4, vr b3, vi z2, vr b1, vi z0] h := (run_step _ _ _ _ _ _).trans rfl
set_option maxRecDepth 8000 in
theorem s_268_448 : run (d + 1) md_268 448 [vr a0, vr a1, vr a2, vr a3, vi x4, v5, v6] [vi z4, vr b3, vi z2, vr b1, vi z0] h = run (d + 1) md_268 449 [vr a0, vr a1, vr a2, vr a3, vi x4, v5, v6] [vi 2, vi z4, vr b3, vi z2, vr b1, vi z0] h := (run_step _ _ _ _ _ _).trans rfl
set_option maxRecDepth 8000 in
theorem s_268_449 : run (d + 1) md_268 449 [vr a0, vr a1, vr a2, vr a3, vi x4, v5, v6] [vi z5, vi z4, vr b3, vi z2, vr b1, vi z0] h = run (d + 1) md_268 450 [vr a0, vr a1, vr a2, vr a3, vi x4, v5, v6] [vi (i_add z4 z5), vr b3, vi z2, vr b1, vi z0] h := (run_step _ _ _ _ _ _).trans rfl
set_option maxRecDepth 8000 in
theorem s_268_450 : run (d + 1) md_268 450 [vr a0, vr a1, vr a2, vr a3, vi x4, v5, v6] [vi z4, vr b3, vi z2, vr b1, vi z0] h = bif (isK h b3 11 || isK h b3 21) && inb h b3 z4 then run (d + 1) md_268 451 [vr a0, vr a1, vr a2, vr a3, vi x4, v5, v6] [vi (h_mi h b3 (z4 : Int).toNat), vi z2, vr b1, vi z0] h else none := (run_step _ _ _ _ _ _).trans rfl
set_option maxRecDepth 20000 in
set_option maxRecDepth 8000 in
theorem s_268_451 : run (d + 1) md_268 451 [vr a0, vr a1, vr a2, vr a3, vi x4, v5, v6] [vi z3, vi z2, vr b1, vi z0] h = bif isK h b1 9 then bI (ev d 198 [vr b1, vi z2, vi z3] h) fun r1 h1 => run (d + 1) md_268 454 [vr a0, vr a1, vr a2, vr a3, vi x4, v5, v6] [vi r1, vi z0] h1 else none := (run_step _ _ _ _ _ _).trans rfl
set_option maxRecDepth 8000 in
theorem s_268_454 : run (d + 1) md_268 454 [vr a0, vr a1, vr a2, vr a3, vi x4, v5, v6] [vi z1, vi z0] h = bif decide (z0 = z1) then run (d + 1) md_268 1498 [vr a0, vr a1, vr a2, vr a3, vi x4, v5, v6] [] h else run (d + 1) md_268 457 [vr a0, vr a1, vr a2, vr a3, vi x4, v5, v6] [] h := (run_step _ _ _ _ _ _).trans rfl
set_option maxRecDepth 8000 in
theorem s_268_457 : run (d + 1) md_268 457 [vr a0, vr a1, vr a2, vr a3, vi x4, v5, v6] [] h = run (d + 1) md_268 458 [vr a0, vr a1, vr a2, vr a3, vi x4, v5, v6] [vi 0] h := (run_step _ _ _ _ _ _).trans rfl
set_option maxRecDepth 8000 in
theorem s_268_458 : run (d + 1) md_268 458 [vr a0, vr a1, vr a2, vr a3, vi x4, v5, v6] [vi z0] h = bif decide (z0 = 0) || decide (z0 = 1) then some (vi z0, h) else none := (run_step _ _ _ _ _ _).trans rfl
set_option maxRecDepth 8000 in
theorem s_268_459 : run (d + 1) md_268 459 [vr a0, vr a1, vr a2, vr a3, vi x4, v5, v6] [] h = run (d + 1) md_268 460 [vr a0, vr a1, vr a2, vr a3, vi x4, v5, v6] [vr a1] h := (run_step _ _ _ _ _ _).trans rfl
set_option maxRecDepth 8000 in
theorem s_268_460 : run (d + 1) md_268 460 [vr a0, vr a1, vr a2, vr a3, vi x4, v5, v6] [vr b0] h = run (d + 1) md_268 461 [vr a0, vr a1, vr a2, vr a3, vi x4, v5, v6] [vr a0, vr b0] h := (run_step _ _ _ _ _ _).trans rfl
set_option maxRecDepth 8000 in
theorem s_268_461 : run (d + 1) md_268 461 [vr a0, vr a1, vr a2, vr a3, vi x4, v5, v6] [vr b1, vr b0] h = run (d + 1) md_268 463 [vr a0, vr a1, vr a2, vr a3, vi x4, v5, v6] [vi x4, vr b1, vr b0] h := (run_step _ _ _ _ _ _).trans rfl
set_option maxRecDepth 8000 in
theorem s_268_463 : run (d + 1) md_268 463 [vr a0, vr a1, vr a2, vr a3, vi x4, v5, v6] [vi z2, vr b1, vr b0] h = run (d + 1) md_268 464 [vr a0, vr a1, vr a2, vr a3, vi x4, v5, v6] [vi 1, vi z2, vr b1, vr b0] h := (run_step _ _ _ _ _ _).trans rfl
set_option maxRecDepth 8000 in
theorem s_268_464 : run (d + 1) md_268 464 [vr a0, vr a1, vr a2, vr a3, vi x4, v5, v6] [vi z3, vi z2, vr b1, vr b0] h = run (d + 1) md_268 465 [vr a0, vr a1, vr a2, vr a3, vi x4, v5, v6] [vi (i_add z2 z3), vr b1, vr b0] h := (run_step _ _ _ _ _ _).trans rfl
set_option maxRecDepth 8000 in
theorem s_268_465 : run (d + 1) md_268 465 [vr a0, vr a1, vr a2, vr a3, vi x4, v5, v6] [vi z2, vr b1, vr b0] h = bif (isK h b1 11 || isK h b1 21) && inb h b1 z2 then run (d + 1) md_268 466 [vr a0, vr a1, vr a2, vr a3, vi x4, v5, v6] [vi (h_mi h b1 (z2 : Int).toNat), vr b0] h else none := (run_step _ _ _ _ _ _).trans rfl
set_option maxRecDepth 8000 in
theorem s_268_466 : run (d + 1) md_268 466 [vr a0, vr a1, vr a2, vr a3, vi x4, v5, v6] [vi z1, vr b0] h = run (d + 1) md_268 467 [vr a0, vr a1, vr a2, vr a3, vi x4, v5, v6] [vr a0, vi z1, vr b0] h := (run_step _ _ _ _ _ _).trans rfl
set_option maxRecDepth 8000 in
theorem s_268_467 : run (d + 1) md_268 467 [vr a0, vr a1, vr a2, vr a3, vi x4, v5, v6] [vr b2, vi z1, vr b0] h = run (d + 1) md_268 469 [vr a0, vr a1, vr a2, vr a3, vi x4, v5, v6] [vi x4, vr b2, vi z1, vr b0] h := (run_step _ _ _ _ _ _).trans rfl
set_option maxRecDepth 8000 in
theorem s_268_469 : run (d + 1) md_268 469 [vr a0, vr a1, vr a2, vr a3, vi x4, v5, v6] [vi z3, vr b2, vi z1, vr b0] h = run (d + 1) md_268 470 [vr a0, vr a1, vr a2, vr a3, vi x4, v5, v6] [vi 2, vi z3, vr b2, vi z1, vr b0] h := (run_step _ _ _ _ _ _).trans rfl
set_option maxRecDepth 8000 in
theorem s_268_470 : run (d + 1) md_268 470 [vr a0, vr a1, vr a2, vr a3, vi x4, v5, v6] [vi z4, vi z3, vr b2, vi z1, vr b0] h = run (d + 1) md_268 471 [vr a0, vr a1, vr a2, vr a3, vi x4, v5, v6] [vi (i_add z3 z4), vr b2, vi z1, vr b0] h := (run_step _ _ _ _ _ _).trans rfl
set_option maxRecDepth 8000 in
theorem s_268_471 : run (d + 1) md_268 471 [vr a0, vr a1, vr a2, vr a3, vi x4, v5, v6] [vi z3, vr b2, vi z1, vr b0] h = bif (isK h b2 11 || isK h b2 21) && inb h b2 z3 then run (d + 1) md_268 472 [vr a0, vr a1, vr a2, vr a3, vi x4, v5, v6] [vi (h_mi h b2 (z3 : Int).toNat), vi z1, vr b0] h else none := (run_step _ _ _ _ _ _).trans rfl
set_option maxRecDepth 8000 in
theorem s_268_472 : run (d + 1) md_268 472 [vr a0, vr a1, vr a2, vr a3, vi x4, v5, v6] [vi z2, vi z1, vr b0] h = run (d + 1) md_268 473 [vr a0, vr a1, vr a2, vr a3, vi x4, v5, v6] [vr a0, vi z2, vi z1, vr b0] h := (run_step _ _ _ _ _ _).trans rfl
set_option maxRecDepth 8000 in
theorem s_268_473 : run (d + 1) md_268 473 [vr a0, vr a1, vr a2, vr a3, vi x4, v5, v6] [vr b3, vi z2, vi z1, vr b0] h = run (d + 1) md_268 475 [vr a0, vr a1, vr a2, vr a3, vi x4, v5, v6] [vi x4, vr b3, vi z2, vi z1, vr b0] h := (run_step _ _ _ _ _ _).trans rfl
set_option maxRecDepth 8000 in
theorem s_268_475 : run (d + 1) md_268 475 [vr a0, vr a1, vr a2, vr a3, vi x4, v5, v6] [vi z4, vr b3, vi z2, vi z1, vr b0] h = run (d + 1) md_268 476 [vr a0, vr a1, vr a2, vr a3, vi x4, v5, v6] [vi 3, vi z4, vr b3, vi z2, vi z1, vr b0] h := (run_step _ _ _ _ _ _).trans rfl
set_option maxRecDepth 8000 in
theorem s_268_476 : run (d + 1) md_268 476 [vr a0, vr a1, vr a2, vr a3, vi x4, v5, v6] [vi z5, vi z4, vr b3, vi z2, vi z1, vr b0] h = run (d + 1) md_268 477 [vr a0, vr a1, vr a2, vr a3, vi x4, v5, v6] [vi (i_add z4 z5), vr b3, vi z2, vi z1, vr b0] h := (run_step _ _ _ _ _ _).trans rfl
set_option maxRecDepth 8000 in
theorem s_268_477 : run (d + 1) md_268 477 [vr a0, vr a1, vr a2, vr a3, vi x4, v5, v6] [vi z4, vr b3, vi z2, vi z1, vr b0] h = bif (isK h b3 11 || isK h b3 21) && inb h b3 z4 then run (d + 1) md_268 478 [vr a0, vr a1, vr a2, vr a3, vi x4, v5, v6] [vi (h_mi h b3 (z4 : Int).toNat), vi z2, vi z1, vr b0] h else none := (run_step _ _ _ _ _ _).trans rfl
set_option maxRecDepth 20000 in
set_option maxRecDepth 8000 in
theorem s_268_478 : run (d + 1) md_268 478 [vr a0, vr a1, vr a2, vr a3, vi x4, v5, v6] [vi z3, vi z2, vi z1, vr b0] h = bif isK h b0 8 then bI (ev d 115 [vr b0, vi z1, vi z2, vi z3] h) fun r1 h1 => run (d + 1) md_268 481 [vr a0, vr a1, vr a2, vr a3, vi x4, v5, v6] [vi r1] h1 else none := (run_step _ _ _ _ _ _).trans rfl
set_option maxRecDepth 8000 in
theorem s_268_481 : run (d + 1) md_268 481 [vr a0, vr a1, vr a2, vr a3, vi x4, v5, v6] [vi z0] h = run (d + 1) md_268 482 [vr a0, vr a1, vr a2, vr a3, vi x4, v5, v6] [vr a2, vi z0] h := (run_step _ _ _ _ _ _).trans rfl
set_option maxRecDepth 8000 in
theorem s_268_482 : run (d + 1) md_268 482 [vr a0, vr a1, vr a2, vr a3, vi x4, v5, v6] [vr b1, vi z0] h = run (d + 1) md_268 483 [vr a0, vr a1, vr a2, vr a3, vi x4, v5, v6] [vr a0, vr b1, vi z0] h := (run_step _ _ _ _ _ _).trans rfl
set_option maxRecDepth 8000 in
theorem s_268_483 : run (d + 1) md_268 483 [vr a0, vr a1, vr a2, vr a3, vi x4, v5, v6] [vr b2, vr b1, vi z0] h = run (d + 1) md_268 485 [vr a0, vr a1, vr a2, vr a3, vi x4, v5, v6] [vi x4, vr b2, vr b1, vi z0] h := (run_step _ _ _ _ _ _).trans rfl
set_option maxRecDepth 8000 in
theorem s_268_485 : run (d + 1) md_268 485 [vr a0, vr a1, vr a2, vr a3, vi x4, v5, v6] [vi z3, vr b2, vr b1, vi z0] h = run (d + 1) md_268 486 [vr a0, vr a1, vr a2, vr a3, vi x4, v5, v6] [vi 1, vi z3, vr b2, vr b1, vi z0] h := (run_step _ _ _ _ _ _).trans rfl
set_option maxRecDepth 8000 in
theorem s_268_486 : run (d + 1) md_268 486 [vr a0, vr a1, vr a2, vr a3, vi x4, v5, v6] [vi z4, vi z3, vr b2, vr b1, vi z0] h = run (d + 1) md_268 487 [vr a0, vr a1, vr a2, vr a3, vi x4, v5, v6] [vi (i_add z3 z4), vr b2, vr b1, vi z0] h := (run_step _ _ _ _ _ _).trans rfl
set_option maxRecDepth 8000 in
theorem s_268_487 : run (d + 1) md_268 487 [vr a0, vr a1, vr a2, vr a3, vi x4, v5, v6] [vi z3, vr b2, vr b1, vi z0] h = bif (isK h b2 11 || isK h b2 21) && inb h b2 z3 then run (d + 1) md_268 488 [vr a0, vr a1, vr a2, vr a3, vi x4, v5, v6] [vi (h_mi h b2 (z3 : Int).toNat), vr b1, vi z0] h else none := (run_step _ _ _ _ _ _).trans rfl
set_option maxRecDepth 8000 in
theorem s_268_488 : run (d + 1) md_268 488 [vr a0, vr a1, vr a2, vr a3, vi x4, v5, v6] [vi z2, vr b1, vi z0] h = run (d + 1) md_268 489 [vr a0, vr a1, vr a2, vr a3, vi x4, v5, v6] [vr a0, vi z2, vr b1, vi z0] h := (run_step _ _ _ _ _ _).trans rfl
set_option maxRecDepth 8000 in
theorem s_268_489 : run (d + 1) md_268 489 [vr a0, vr a1, vr a2, vr a3, vi x4, v5, v6] [vr b3, vi z2, vr b1, vi z0] h = run (d + 1) md_268 491 [vr a0, vr a1, vr a2, vr a3, vi x4, v5, v6] [vi x4, vr b3, vi z2, vr b1, vi z0] h := (run_step _ _ _ _ _ _).trans rfl
set_option maxRecDepth 8000 in
theorem s_268_491 : run (d + 1) md_268 491 [vr a0, vr a1, vr a2, vr a3, vi x4, v5, v6] [vi z4, vr b3, vi z2, vr b1, vi z0] h = run (d + 1) md_268 492 [vr a0, vr a1, vr a2, vr a3, vi x4, v5, v6] [vi 2, vi z4, vr b3, vi z2, vr b1, vi z0] h := (run_step _ _ _ _ _ _).trans rfl
set_option maxRecDepth 8000 in
theorem s_268_492 : run (d + 1) md_268 492 [vr a0, vr a1, vr a2, vr a3, vi x4, v5, v6] [vi z5, vi z4, vr b3, vi z2, vr b1, vi z0] h = run (d + 1) md_268 493 [vr a0, vr a1, vr a2, vr a3, vi x4, v5, v6] [vi (i_add z4 z5), vr b3, vi z2, vr b1, vi z0] h := (run_step _ _ _ _ _ _).trans rfl
set_option maxRecDepth 8000 in
theorem s_268_493 : run (d + 1) md_268 493 [vr a0, vr a1, vr a2, vr a3, vi x4, v5, v6] [vi z4, vr b3, vi z2, vr b1, vi z0] h = bif (isK h b3 11 || isK h b3 21) && inb h b3 z4 then run (d + 1) md_268 494 [vr a0, vr a1, vr a2, vr a3, vi x4, v5, v6] [vi (h_mi h b3 (z4 : Int).toNat), vi z2, vr b1, vi z0] h else none := (run_step _ _ _ _ _ _).trans rfl
set_option maxRecDepth 8000 in
theorem s_268_494 : run (d + 1) md_268 494 [vr a0, vr a1, vr a2, vr a3, vi x4, v5, v6] [vi z3, vi z2, vr b1, vi z0] h = run (d + 1) md_268 495 [vr a0, vr a1, vr a2, vr a3, vi x4, v5, v6] [vr a0, vi z3, vi z2, vr b1, vi z0] h := (run_step _ _ _ _ _ _).trans rfl
set_option maxRecDepth 8000 in
theorem s_268_495 : run (d + 1) md_268 495 [vr a0, vr a1, vr a2, vr a3, vi x4, v5, v6] [vr b4, vi z3, vi z2, vr b1, vi z0] h = run (d + 1) md_268 497 [vr a0, vr a1, vr a2, vr a3, vi x4, v5, v6] [vi x4, vr b4, vi z3, vi z2, vr b1, vi z0] h := (run_step _ _ _ _ _ _).trans rfl
set_option maxRecDepth 8000 in
theorem s_268_497 : run (d + 1) md_268 497 [vr a0, vr a1, vr a2, vr a3, vi x4, v5, v6] [vi z5, vr b4, vi z3, vi z2, vr b1, vi z0] h = run (d + 1) md_268 498 [vr a0, vr a1, vr a2, vr a3, vi x4, v5, v6] [vi 3, vi z5, vr b4, vi z3, vi z2, vr b1, vi z0] h := (run_step _ _ _ _ _ _).trans rfl
set_option maxRecDepth 8000 in
theorem s_268_498 : run (d + 1) md_268 498 [vr a0, vr a1, vr a2, vr a3, vi x4, v5, v6] [vi z6, vi z5, vr b4, vi z3, vi z2, vr b1, vi z0] h = run (d + 1) md_268 499 [vr a0, vr a1, vr a2, vr a3, vi x4, v5, v6] [vi (i_add z5 z6), vr b4, vi z3, vi z2, vr b1, vi z0] h := (run_step _ _ _ _ _ _).trans rfl
set_option maxRecDepth 8000 in
theorem s_268_499 : run (d + 1) md_268 499 [vr a0, vr a1, vr a2, vr a3, vi x4, v5, v6] [vi z5, vr b4, vi z3, vi z2, vr b1, vi z0] h = bif (isK h b4 11 || isK h b4 21) && inb h b4 z5 then run (d + 1) md_268 500 [vr a0, vr a1, vr a2, vr a3, vi x4, v5, v6] [vi (h_mi h b4 (z5 : Int).toNat), vi z3, vi z2, vr b1, vi z0] h else none := (run_step _ _ _ _ _ _).trans rfl
set_option maxRecDepth 20000 in
set_option maxRecDepth 8000 in
theorem s_268_500 : run (d + 1) md_268 500 [vr a0, vr a1, vr a2, vr a3, vi x4, v5, v6] [vi z4, vi z3, vi z2, vr b1, vi z0] h = bif isK h b1 9 then bI (ev d 201 [vr b1, vi z2, vi z3, vi z4] h) fun r1 h1 => run (d + 1) md_268 503 [vr a0, vr a1, vr a2, vr a3, vi x4, v5, v6] [vi r1, vi z0] h1 else none := (run_step _ _ _ _ _ _).trans rfl
set_option maxRecDepth 8000 in
theorem s_268_503 : run (d + 1) md_268 503 [vr a0, vr a1, vr a2, vr a3, vi x4, v5, v6] [vi z1, vi z0] h = bif decide (z0 = z1) then run (d + 1) md_268 1498 [vr a0, vr a1, vr a2, vr a3, vi x4, v5, v6] [] h else run (d + 1) md_268 506 [vr a0, vr a1, vr a2, vr a3, vi x4, v5, v6] [] h := (run_step _ _ _ _ _ _).trans rfl
set_option maxRecDepth 8000 in
theorem s_268_506 : run (d + 1) md_268 506 [vr a0, vr a1, vr a2, vr a3, vi x4, v5, v6] [] h = run (d + 1) md_268 507 [vr a0, vr a1, vr a2, vr a3, vi x4, v5, v6] [vi 0] h := (run_step _ _ _ _ _ _).trans rfl
set_option maxRecDepth 8000 in
theorem s_268_507 : run (d + 1) md_268 507 [vr a0, vr a1, vr a2, vr a3, vi x4, v5, v6] [vi z0] h = bif decide (z0 = 0) || decide (z0 = 1) then some (vi z0, h) else none := (run_step _ _ _ _ _ _).trans rfl
set_option maxRecDepth 8000 in
theorem s_268_508 : run (d + 1) md_268 508 [vr a0, vr a1, vr a2, vr a3, vi x4, v5, v6] [] h = run (d + 1) md_268 509 [vr a0, vr a1, vr a2, vr a3, vi x4, v5, v6] [vr a1] h := (run_step _ _ _ _ _ _).trans rfl
set_option maxRecDepth 8000 in
theorem s_268_509 : run (d + 1) md_268 509 [vr a0, vr a1, vr a2, vr a3, vi x4, v5, v6] [vr b0] h = run (d + 1) md_268 510 [vr a0, vr a1, vr a2, vr a3, vi x4, v5, v6] [vr a0, vr b0] h := (run_step _ _ _ _ _ _).trans rfl
set_option maxRecDepth 8000 in
theorem s_268_510 : run (d + 1) md_268 510 [vr a0, vr a1, vr a2, vr a3, vi x4, v5, v6] [vr b1, vr b0] h = run (d + 1) md_268 512 [vr a0, vr a1, vr a2, vr a3, vi x4, v5, v6] [vi x4, vr b1, vr b0] h := (run_step _ _ _ _ _ _).trans rfl
set_option maxRecDepth 8000 in
theorem s_268_512 : run (d + 1) md_268 512 [vr a0, vr a1, vr a2, vr a3, vi x4, v5, v6] [vi z2, vr b1, vr b0] h = run (d + 1) md_268 513 [vr a0, vr a1, vr a2, vr a3, vi x4, v5, v6] [vi 1, vi z2, vr b1, vr b0] h := (run_step _ _ _ _ _ _).trans rfl
set_option maxRecDepth 8000 in
theorem s_268_513 : run (d + 1) md_268 513 [vr a0, vr a1, vr a2, vr a3, vi x4, v5, v6] [vi z3, vi z2, vr b1, vr b0] h = run (d + 1) md_268 514 [vr a0, vr a1, vr a2, vr a3, vi x4, v5, v6] [vi (i_add z2 z3), vr b1, vr b0] h := (run_step _ _ _ _ _ _).trans rfl
set_option maxRecDepth 8000 in
theorem s_268_514 : run (d + 1) md_268 514 [vr a0, vr a1, vr a2, vr a3, vi x4, v5, v6] [vi z2, vr b1, vr b0] h = bif (isK h b1 11 || isK h b1 21) && inb h b1 z2 then run (d + 1) md_268 515 [vr a0, vr a1, vr a2, vr a3, vi x4, v5, v6] [vi (h_mi h b1 (z2 : Int).toNat), vr b0] h else none := (run_step _ _ _ _ _ _).trans rfl
set_option maxRecDepth 8000 in
theorem s_268_515 : run (d + 1) md_268 515 [vr a0, vr a1, vr a2, vr a3, vi x4, v5, v6] [vi z1, vr b0] h = run (d + 1) md_268 516 [vr a0, vr a1, vr a2, vr a3, vi x4, v5, v6] [vr a0, vi z1, vr b0] h := (run_step _ _ _ _ _ _).trans rfl
set_option maxRecDepth 8000 in
theorem s_268_516 : run (d + 1) md_268 516 [vr a0, vr a1, vr a2, vr a3, vi x4, v5, v6] [vr b2, vi z1, vr b0] h = run (d + 1) md_268 518 [vr a0, vr a1, vr a2, vr a3, vi x4, v5, v6] [vi x4, vr b2, vi z1, vr b0] h := (run_step _ _ _ _ _ _).trans rfl
set_option maxRecDepth 8000 in
theorem s_268_518 : run (d + 1) md_268 518 [vr a0, vr a1, vr a2, vr a3, vi x4, v5, v6] [vi z3, vr b2, vi z1, vr b0] h = run (d + 1) md_268 519 [vr a0, vr a1, vr a2, vr a3, vi x4, v5, v6] [vi 2, vi z3, vr b2, vi z1, vr b0] h := (run_step _ _ _ _ _ _).trans rfl
set_option maxRecDepth 8000 in
theorem s_268_519 : run (d + 1) md_268 519 [vr a0, vr a1, vr a2, vr a3, vi x4, v5, v6] [vi z4, vi z3, vr b2, vi z1, vr b0] h = run (d + 1) md_268 520 [vr a0, vr a1, vr a2, vr a3, vi x4, v5, v6] [vi (i_add z3 z4), vr b2, vi z1, vr b0] h := (run_step _ _ _ _ _ _).trans rfl
set_option maxRecDepth 8000 in
theorem s_268_520 : run (d + 1) md_268 520 [vr a0, vr a1, vr a2, vr a3, vi x4, v5, v6] [vi z3, vr b2, vi z1, vr b0] h = bif (isK h b2 11 || isK h b2 21) && inb h b2 z3 then run (d + 1) md_268 521 [vr a0, vr a1, vr a2, vr a3, vi x4, v5, v6] [vi (h_mi h b2 (z3 : Int).toNat), vi z1, vr b0] h else none := (run_step _ _ _ _ _ _).trans rfl
set_option maxRecDepth 20000 in
set_option maxRecDepth 8000 in
theorem s_268_521 : run (d + 1) md_268 521 [vr a0, vr a1, vr a2, vr a3, vi x4, v5, v6] [vi z2, vi z1, vr b0] h = bif isK h b0 8 then bI (ev d 116 [vr b0, vi z1, vi z2] h) fun r1 h1 => run (d + 1) md_268 524 [vr a0, vr a1, vr a2, vr a3, vi x4, v5, v6] [vi r1] h1 else none := (run_step _ _ _ _ _ _).trans rfl
set_option maxRecDepth 8000 in
theorem s_268_524 : run (d + 1) md_268 524 [vr a0, vr a1, vr a2, vr a3, vi x4, v5, v6] [vi z0] h = run (d + 1) md_268 525 [vr a0, vr a1, vr a2, vr a3, vi x4, v5, v6] [vr a2, vi z0] h := (run_step _ _ _ _ _ _).trans rfl
set_option maxRecDepth 8000 in
theorem s_268_525 : run (d + 1) md_268 525 [vr a0, vr a1, vr a2, vr a3, vi x4, v5, v6] [vr b1, vi z0] h = run (d + 1) md_268 526 [vr a0, vr a1, vr a2, vr a3, vi x4, v5, v6] [vr a0, vr b1, vi z0] h := (run_step _ _ _ _ _ _).trans rfl
set_option maxRecDepth 8000 in
theorem s_268_526 : run (d + 1) md_268 526 [vr a0, vr a1, vr a2, vr a3, vi x4, v5, v6] [vr b2, vr b1, vi z0] h = run (d + 1) md_268 528 [vr a0, vr a1, vr a2, vr a3, vi x4, v5, v6] [vi x4, vr b2, vr b1, vi z0] h := (run_step _ _ _ _ _ _).trans rfl
set_option maxRecDepth 8000 in
theorem s_268_528 : run (d + 1) md_268 528 [vr a0, vr a1, vr a2, vr a3, vi x4, v5, v6] [vi z3, vr b2, vr b1, vi z0] h = run (d + 1) md_268 529 [vr a0, vr a1, vr a2, vr a3, vi x4, v5, v6] [vi 1, vi z3, vr b2, vr b1, vi z0] h := (run_step _ _ _ _ _ _).trans rfl
set_option maxRecDepth 8000 in
theorem s_268_529 : run (d + 1) md_268 529 [vr a0, vr a1, vr a2, vr a3, vi x4, v5, v6] [vi z4, vi z3, vr b2, vr b1, vi z0] h = run (d + 1) md_268 530 [vr a0, vr a1, vr a2, vr a3, vi x4, v5, v6] [vi (i_add z3 z4), vr b2, vr b1, vi z0] h := (run_step _ _ _ _ _ _).trans rfl
set_option maxRecDepth 8000 in
theorem s_268_530 : run (d + 1) md_268 530 [vr a0, vr a1, vr a2, vr a3, vi x4, v5, v6] [vi z3, vr b2, vr b1, vi z0] h = bif (isK h b2 11 || isK h b2 21) && inb h b2 z3 then run (d + 1) md_268 531 [vr a0, vr a1, vr a2, vr a3, vi x4, v5, v6] [vi (h_mi h b2 (z3 : Int).toNat), vr b1, vi z0] h else none := (run_step _ _ _ _ _ _).trans rfl
set_option maxRecDepth 8000 in
theorem s_268_531 : run (d + 1) md_268 531 [vr a0, vr a1, vr a2, vr a3, vi x4, v5, v6] [vi z2, vr b1, vi z0] h = run (d + 1) md_268 532 [vr a0, vr a1, vr a2, vr a3, vi x4, v5, v6] [vr a0, vi z2, vr b1, vi z0] h := (run_step _ _ _ _ _ _).trans rfl
set_option maxRecDepth 8000 in
theorem s_268_532 : run (d + 1) md_268 532 [vr a0, vr a1, vr a2, vr a3, vi x4, v5, v6] [vr b3, vi z2, vr b1, vi z0] h = run (d + 1) md_268 534 [vr a0, vr a1, vr a2, vr a3, vi x4, v5, v6] [vi x4, vr b3, vi z2, vr b1, vi z0] h := (run_step _ _ _ _ _ _).trans rfl
set_option maxRecDepth 8000 in
theorem s_268_534 : run (d + 1) md_268 534 [vr a0, vr a1, vr a2, vr a3, vi x4, v5, v6] [vi z4, vr b3, vi z2, vr b1, vi z0] h = run (d + 1) md_268 535 [vr a0, vr a1, vr a2, vr a3, vi x4, v5, v6] [vi 2, vi z4, vr b3, vi z2, vr b1, vi z0] h := (run_step _ _ _ _ _ _).trans rfl
set_option maxRecDepth 8000 in
theorem s_268_535 : run (d + 1) md_268 535 [vr a0, vr a1, vr a2, vr a3, vi x4, v5, v6] [vi z5, vi z4, vr b3, vi z2, vr b1, vi z0] h = run (d + 1) md_268 536 [vr a0, vr a1, vr a2, vr a3, vi x4, v5, v6] [vi (i_add z4 z5), vr b3, vi z2, vr b1, vi z0] h := (run_step _ _ _ _ _ _).trans rfl
set_option maxRecDepth 8000 in
theorem s_268_536 : run (d + 1) md_268 536 [vr a0, vr a1, vr a2, vr a3, vi x4, v5, v6] [vi z4, vr b3, vi z2, vr b1, vi z0] h = bif (isK h b3 11 || isK h b3 21) && inb h b3 z4 then run (d + 1) md_268 537 [vr a0, vr a1, vr a2, vr a3, vi x4, v5, v6] [vi (h_mi h b3 (z4 : Int).toNat), vi z2, vr b1, vi z0] h else none := (run_step _ _ _ _ _ _).trans rfl
set_option maxRecDepth 20000 in
set_option maxRecDepth 8000 in
theorem s_268_537 : run (d + 1) md_268 537 [vr a0, vr a1, vr a2, vr a3, vi x4, v5, v6] [vi z3, vi z2, vr b1, vi z0] h = bif isK h b1 9 then bI (ev d 206 [vr b1, vi z2, vi z3] h) fun r1 h1 => run (d + 1) md_268 540 [vr a0, vr a1, vr a2, vr a3, vi x4, v5, v6] [vi r1, vi z0] h1 else none := (run_step _ _ _ _ _ _).trans rfl
set_option maxRecDepth 8000 in
theorem s_268_540 : run (d + 1) md_268 540 [vr a0, vr a1, vr a2, vr a3, vi x4, v5, v6] [vi z1, vi z0] h = bif decide (z0 = z1) then run (d + 1) md_268 1498 [vr a0, vr a1, vr a2, vr a3, vi x4, v5, v6] [] h else run (d + 1) md_268 543 [vr a0, vr a1, vr a2, vr a3, vi x4, v5, v6] [] h := (run_step _ _ _ _ _ _).trans rfl
set_option maxRecDepth 8000 in
theorem s_268_543 : run (d + 1) md_268 543 [vr a0, vr a1, vr a2, vr a3, vi x4, v5, v6] [] h = run (d + 1) md_268 544 [vr a0, vr a1, vr a2, vr a3, vi x4, v5, v6] [vi 0] h := (run_step _ _ _ _ _ _).trans rfl
set_option maxRecDepth 8000 in
theorem s_268_544 : run (d + 1) md_268 544 [vr a0, vr a1, vr a2, vr a3, vi x4, v5, v6] [vi z0] h = bif decide (z0 = 0) || decide (z0 = 1) then some (vi z0, h) else none := (run_step _ _ _ _ _ _).trans rfl
set_option maxRecDepth 8000 in
theorem s_268_545 : run (d + 1) md_268 545 [vr a0, vr a1, vr a2, vr a3, vi x4, v5, v6] [] h = run (d + 1) md_268 546 [vr a0, vr a1, vr a2, vr a3, vi x4, v5, v6] [vr a1] h := (run_step _ _ _ _ _ _).trans rfl
set_option maxRecDepth 20000 in
set_option maxRecDepth 8000 in
theorem s_268_546 : run (d + 1) md_268 546 [vr a0, vr a1, vr a2, vr a3, vi x4, v5, v6] [vr b0] h = bif isK h b0 8 then bI (ev d 117 [vr b0] h) fun r1 h1 => run (d + 1) md_268 549 [vr a0, vr a1, vr a2, vr a3, vi x4, v5, v6] [vi r1] h1 else none := (run_step _ _ _ _ _ _).trans rfl
set_option maxRecDepth 8000 in
theorem s_268_549 : run (d + 1) md_268 549 [vr a0, vr a1, vr a2, vr a3, vi x4, v5, v6] [vi z0] h = run (d + 1) md_268 550 [vr a0, vr a1, vr a2, vr a3, vi x4, v5, v6] [vr a2, vi z0] h := (run_step _ _ _ _ _ _).trans rfl
set_option maxRecDepth 20000 in
set_option maxRecDepth 8000 in
theorem s_268_550 : run (d + 1) md_268 550 [vr a0, vr a1, vr a2, vr a3, vi x4, v5, v6] [vr b1, vi z0] h = bif isK h b1 9 then bI (ev d 207 [vr b1] h) fun r1 h1 => run (d + 1) md_268 553 [vr a0, vr a1, vr a2, vr a3, vi x4, v5, v6] [vi r1, vi z0] h1 else none := (run_step _ _ _ _ _ _).trans rfl
set_option maxRecDepth 8000 in
theorem s_268_553 : run (d + 1) md_268 553 [vr a0, vr a1, vr a2, vr a3, vi x4, v5, v6] [vi z1, vi z0] h = bif decide (z0 = z1) then run (d + 1) md_268 1498 [vr a0, vr a1, vr a2, vr a3, vi x4, v5, v6] [] h else run (d + 1) md_268 556 [vr a0, vr a1, vr a2, vr a3, vi x4, v5, v6] [] h := (run_step _ _ _ _ _ _).trans rfl
set_option maxRecDepth 8000 in
theorem s_268_556 : run (d + 1) md_268 556 [vr a0, vr a1, vr a2, vr a3, vi x4, v5, v6] [] h = run (d + 1) md_268 557 [vr a0, vr a1, vr a2, vr a3, vi x4, v5, v6] [vi 0] h := (run_step _ _ _ _ _ _).trans rfl
set_option maxRecDepth 8000 in
theorem s_268_557 : run (d + 1) md_268 557 [vr a0, vr a1, vr a2, vr a3, vi x4, v5, v6] [vi z0] h = bif decide (z0 = 0) || decide (z0 = 1) then some (vi z0, h) else none := (run_step _ _ _ _ _ _).trans rfl
set_option maxRecDepth 8000 in
theorem s_268_558 : run (d + 1) md_268 558 [vr a0, vr a1, vr a2, vr a3, vi x4, v5, v6] [] h = run (d + 1) md_268 559 [vr a0, vr a1, vr a2, vr a3, vi x4, v5, v6] [vr a1] h := (run_step _ _ _ _ _ _).trans rfl
set_option maxRecDepth 8000 in
theorem s_268_559 : run (d + 1) md_268 559 [vr a0, vr a1, vr a2, vr a3, vi x4, v5, v6] [vr b0] h = run (d + 1) md_268 560 [vr a0, vr a1, vr a2, vr a3, vi x4, v5, v6] [vr a0, vr b0] h := (run_step _ _ _ _ _ _).trans rfl
set_option maxRecDepth 8000 in
theorem s_268_560 : run (d + 1) md_268 560 [vr a0, vr a1, vr a2, vr a3, vi x4, v5, v6] [vr b1, vr b0] h = run (d + 1) md_268 562 [vr a0, vr a1, vr a2, vr a3, vi x4, v5, v6] [vi x4, vr b1, vr b0] h := (run_step _ _ _ _ _ _).trans rfl
set_option maxRecDepth 8000 in
theorem s_268_562 : run (d + 1) md_268 562 [vr a0, vr a1, vr a2, vr a3, vi x4, v5, v6] [vi z2, vr b1, vr b0] h = run (d + 1) md_268 563 [vr a0, vr a1, vr a2, vr a3, vi x4, v5, v6] [vi 1, vi z2, vr b1, vr b0] h := (run_step _ _ _ _ _ _).trans rfl
set_option maxRecDepth 8000 in
theorem s_268_563 : run (d + 1) md_268 563 [vr a0, vr a1, vr a2, vr a3, vi x4, v5, v6] [vi z3, vi z2, vr b1, vr b0] h = run (d + 1) md_268 564 [vr a0, vr a1, vr a2, vr a3, vi x4, v5, v6] [vi (i_add z2 z3), vr b1, vr b0] h := (run_step _ _ _ _ _ _).trans rfl
set_option maxRecDepth 8000 in
theorem s_268_564 : run (d + 1) md_268 564 [vr a0, vr a1, vr a2, vr a3, vi x4, v5, v6] [vi z2, vr b1, vr b0] h = bif (isK h b1 11 || isK h b1 21) && inb h b1 z2 then run (d + 1) md_268 565 [vr a0, vr a1, vr a2, vr a3, vi x4, v5, v6] [vi (h_mi h b1 (z2 : Int).toNat), vr b0] h else none := (run_step _ _ _ _ _ _).trans rfl
set_option maxRecDepth 20000 in
set_option maxRecDepth 8000 in
theorem s_268_565 : run (d + 1) md_268 565 [vr a0, vr a1, vr a2, vr a3, vi x4, v5, v6] [vi z1, vr b0] h = bif isK h b0 8 then bI (ev d 118 [vr b0, vi z1] h) fun r1 h1 => run (d + 1) md_268 568 [vr a0, vr a1, vr a2, vr a3, vi x4, v5, v6] [vi r1] h1 else none := (run_step _ _ _ _ _ _).trans rfl
set_option maxRecDepth 8000 in
theorem s_268_568 : run (d + 1) md_268 568 [vr a0, vr a1, vr a2, vr a3, vi x4, v5, v6] [vi z0] h = run (d + 1) md_268 569 [vr a0, vr a1, vr a2, vr a3, vi x4, v5, v6] [vr a2, vi z0] h := (run_step _ _ _ _ _ _).trans rfl
set_option maxRecDepth 8000 in
theorem s_268_569 : run (d + 1) md_268 569 [vr a0, vr a1, vr a2, vr a3, vi x4, v5, v6] [vr b1, vi z0] h = run (d + 1) md_268 570 [vr a0, vr a1, vr a2, vr a3, vi x4, v5, v6] [vr a0, vr b1, vi z0] h := (run_step _ _ _ _ _ _).trans rfl
set_option maxRecDepth 8000 in
theorem s_268_570 : run (d + 1) md_268 570 [vr a0, vr a1, vr a2, vr a3, vi x4, v5, v6] [vr b2, vr b1, vi z0] h = run (d + 1) md_268 572 [vr a0, vr a1, vr a2, vr a3, vi x4, v5, v6] [vi x4, vr b2, vr b1, vi z0] h := (run_step _ _ _ _ _ _).trans rfl
set_option maxRecDepth 8000 in
theorem s_268_572 : run (d + 1) md_268 572 [vr a0, vr a1, vr a2, vr a3, vi x4, v5, v6] [vi z3, vr b2, vr b1, vi z0] h = run (d + 1) md_268 573 [vr a0, vr a1, vr a2, vr a3, vi x4, v5, v6] [vi 1, vi z3, vr b2, vr b1, vi z0] h := (run_step _ _ _ _ _ _).trans rfl
set_option maxRecDepth 8000 in
theorem s_268_573 : run (d + 1) md_268 573 [vr a0, vr a1, vr a2, vr a3, vi x4, v5, v6] [vi z4, vi z3, vr b2, vr b1, vi z0] h = run (d + 1) md_268 574 [vr a0, vr a1, vr a2, vr a3, vi x4, v5, v6] [vi (i_add z3 z4), vr b2, vr b1, vi z0] h := (run_step _ _ _ _ _ _).trans rfl
set_option maxRecDepth 8000 in
theorem s_268_574 : run (d + 1) md_268 574 [vr a0, vr a1, vr a2, vr a3, vi x4, v5, v6] [vi z3, vr b2, vr b1, vi z0] h = bif (isK h b2 11 || isK h b2 21) && inb h b2 z3 then run (d + 1) md_268 575 [vr a0, vr a1, vr a2, vr a3, vi x4, v5, v6] [vi (h_mi h b2 (z3 : Int).toNat), vr b1, vi z0] h else none := (run_step _ _ _ _ _ _).trans rfl
set_option maxRecDepth 20000 in
set_option maxRecDepth 8000 in
theorem s_268_575 : run (d + 1) md_268 575 [vr a0, vr a1, vr a2, vr a3, vi x4, v5, v6] [vi z2, vr b1, vi z0] h = bif isK h b1 9 then bI (ev d 210 [vr b1, vi z2] h) fun r1 h1 => run (d + 1) md_268 578 [vr a0, vr a1, vr a2, vr a3, vi x4, v5, v6] [vi r1, vi z0] h1 else none := (run_step _ _ _ _ _ _).trans rfl
set_option maxRecDepth 8000 in
theorem s_268_578 : run (d + 1) md_268 578 [vr a0, vr a1, vr a2, vr a3, vi x4, v5, v6] [vi z1, vi z0] h = bif decide (z0 = z1) then run (d + 1) md_268 1498 [vr a0, vr a1, vr a2, vr a3, vi x4, v5, v6] [] h else run (d + 1) md_268 581 [vr a0, vr a1, vr a2, vr a3, vi x4, v5, v6] [] h := (run_step _ _ _ _ _ _).trans rfl
set_option maxRecDepth 8000 in
theorem s_268_581 : run (d + 1) md_268 581 [vr a0, vr a1, vr a2, vr a3, vi x4, v5, v6] [] h = run (d + 1) md_268 582 [vr a0, vr a1, vr a2, vr a3, vi x4, v5, v6] [vi 0] h := (run_step _ _ _ _ _ _).trans rfl
set_option maxRecDepth 8000 in
theorem s_268_582 : run (d + 1) md_268 582 [vr a0, vr a1, vr a2, vr a3, vi x4, v5, v6] [vi z0] h = bif decide (z0 = 0) || decide (z0 = 1) then some (vi z0, h) else none := (run_step _ _ _ _ _ _).trans rfl
set_option maxRecDepth 8000 in
theorem s_268_583 : run (d + 1) md_268 583 [vr a0, vr a1, vr a2, vr a3, vi x4, v5, v6] [] h = run (d + 1) md_268 584 [vr a0, vr a1, vr a2, vr a3, vi x4, v5, v6] [vr a1] h := (run_step _ _ _ _ _ _).trans rfl
set_option maxRecDepth 8000 in
theorem s_268_584 : run (d + 1) md_268 584 [vr a0, vr a1, vr a2, vr a3, vi x4, v5, v6] [vr b0] h = run (d + 1) md_268 585 [vr a0, vr a1, vr a2, vr a3, vi x4, v5, v6] [vr a0, vr b0] h := (run_step _ _ _ _ _ _).trans rfl
set_option maxRecDepth 8000 in
theorem s_268_585 : run (d + 1) md_268 585 [vr a0, vr a1, vr a2, vr a3, vi x4, v5, v6] [vr b1, vr b0] h = run (d + 1) md_268 587 [vr a0, vr a1, vr a2, vr a3, vi x4, v5, v6] [vi x4, vr b1, vr b0] h := (run_step _ _ _ _ _ _).trans rfl
set_option maxRecDepth 8000 in
theorem s_268_587 : run (d + 1) md_268 587 [vr a0, vr a1, vr a2, vr a3, vi x4, v5, v6] [vi z2, vr b1, vr b0] h = run (d + 1) md_268 588 [vr a0, vr a1, vr a2, vr a3, vi x4, v5, v6] [vi 1, vi z2, vr b1, vr b0] h := (run_step _ _ _ _ _ _).trans rfl
set_option maxRecDepth 8000 in
theorem s_268_588 : run (d + 1) md_268 588 [vr a0, vr a1, vr a2, vr a3, vi x4, v5, v6] [vi z3, vi z2, vr b1, vr b0] h = run (d + 1) md_268 589 [vr a0, vr a1, vr a2, vr a3, vi x4, v5, v6] [vi (i_add z2 z3), vr b1, vr b0] h := (run_step _ _ _ _ _ _).trans rfl
set_option maxRecDepth 8000 in
theorem s_268_589 : run (d + 1) md_268 589 [vr a0, vr a1, vr a2, vr a3, vi x4, v5, v6] [vi z2, vr b1, vr b0] h = bif (isK h b1 11 || isK h b1 21) && inb h b1 z2 then run (d + 1) md_268 590 [vr a0, vr a1, vr a2, vr a3, vi x4, v5, v6] [vi (h_mi h b1 (z2 : Int).toNat), vr b0] h else none := (run_step _ _ _ _ _ _).trans rfl
set_option maxRecDepth 20000 in
set_option maxRecDepth 8000 in
theorem s_268_590 : run (d + 1) md_268 590 [vr a0, vr a1, vr a2, vr a3, vi x4, v5, v6] [vi z1, vr b0] h = bif isK h b0 8 then bI (ev d 119 [vr b0, vi z1] h) fun r1 h1 => run (d + 1) md_268 593 [vr a0, vr a1, vr a2, vr a3, vi x4, v5, v6] [vi r1] h1 else none := (run_step _ _ _ _ _ _).trans rfl
set_option maxRecDepth 8000 in
theorem s_268_593 : run (d + 1) md_268 593 [vr a0, vr a1, vr a2, vr a3, vi x4, v5, v6] [vi z0] h = run (d + 1) md_268 594 [vr a0, vr a1, vr a2, vr a3, vi x4, v5, v6] [vr a2, vi z0] h := (run_step _ _ _ _ _ _).trans rfl
set_option maxRecDepth 8000 in
theorem s_268_594 : run (d + 1) md_268 594 [vr a0, vr a1, vr a2, vr a3, vi x4, v5, v6] [vr b1, vi z0] h = run (d + 1) md_268 595 [vr a0, vr a1, vr a2, vr a3, vi x4, v5, v6] [vr a0, vr b1, vi z0] h := (run_step _ _ _ _ _ _).trans rfl
set_option maxRecDepth 8000 in
theorem s_268_595 : run (d + 1) md_268 595 [vr a0, vr a1, vr a2, vr a3, vi x4, v5, v6] [vr b2, vr b1, vi z0] h = run (d + 1) md_268 597 [vr a0, vr a1, vr a2, vr a3, vi x4, v5, v6] [vi x4, vr b2, vr b1, vi z0] h := (run_step _ _ _ _ _ _).trans rfl
set_option maxRecDepth 8000 in
theorem s_268_597 : run (d + 1) md_268 597 [vr a0, vr a1, vr a2, vr a3, vi x4, v5, v6] [vi z3, vr b2, vr b1, vi z0] h = run (d + 1) md_268 598 [vr a0, vr a1, vr a2, vr a3, vi x4, v5, v6] [vi 1, vi z3, vr b2, vr b1, vi z0] h := (run_step _ _ _ _ _ _).trans rfl
set_option maxRecDepth 8000 in
theorem s_268_598 : run (d + 1) md_268 598 [vr a0, vr a1, vr a2, vr a3, vi x4, v5, v6] [vi z4, vi z3, vr b2, vr b1, vi z0] h = run (d + 1) md_268 599 [vr a0, vr a1, vr a2, vr a3, vi x4, v5, v6] [vi (i_add z3 z4), vr b2, vr b1, vi z0] h := (run_step _ _ _ _ _ _).trans rfl
set_option maxRecDepth 8000 in
theorem s_268_599 : run (d + 1) md_268 599 [vr a0, vr a1, vr a2, vr a3, vi x4, v5, v6] [vi z3, vr b2, vr b1, vi z0] h = bif (isK h b2 11 || isK h b2 21) && inb h b2 z3 then run (d + 1) md_268 600 [vr a0, vr a1, vr a2, vr a3, vi x4, v5, v6] [vi (h_mi h b2 (z3 : Int).toNat), vr b1, vi z0] h else none := (run_step _ _ _ _ _ _).trans rfl
set_option maxRecDepth 20000 in
set_option maxRecDepth 8000 in
theorem s_268_600 : run (d + 1) md_268 600 [vr a0, vr a1, vr a2, vr a3, vi x4, v5, v6] [vi z2, vr b1, vi z0] h = bif isK h b1 9 then bI (ev d 211 [vr b1, vi z2] h) fun r1 h1 => run (d + 1) md_268 603 [vr a0, vr a1, vr a2, vr a3, vi x4, v5, v6] [vi r1, vi z0] h1 else none := (run_step _ _ _ _ _ _).trans rfl
set_option maxRecDepth 8000 in
theorem s_268_603 : run (d + 1) md_268 603 [vr a0, vr a1, vr a2, vr a3, vi x4, v5, v6] [vi z1, vi z0] h = bif decide (z0 = z1) then run (d + 1) md_268 1498 [vr a0, vr a1, vr a2, vr a3, vi x4, v5, v6] [] h else run (d + 1) md_268 606 [vr a0, vr a1, vr a2, vr a3, vi x4, v5, v6] [] h := (run_step _ _ _ _ _ _).trans rfl
set_option maxRecDepth 8000 in
theorem s_268_606 : run (d + 1) md_268 606 [vr a0, vr a1, vr a2, vr a3, vi x4, v5, v6] [] h = run (d + 1) md_268 607 [vr a0, vr a1, vr a2, vr a3, vi x4, v5, v6] [vi 0] h := (run_step _ _ _ _ _ _).trans rfl
set_option maxRecDepth 8000 in
theorem s_268_607 : run (d + 1) md_268 607 [vr a0, vr a1, vr a2, vr a3, vi x4, v5, v6] [vi z0] h = bif decide (z0 = 0) || decide (z0 = 1) then some (vi z0, h) else none := (run_step _ _ _ _ _ _).trans rfl
set_option maxRecDepth 8000 in
theorem s_268_608 : run (d + 1) md_268 608 [vr a0, vr a1, vr a2, vr a3, vi x4, v5, v6] [] h = run (d + 1) md_268 609 [vr a0, vr a1, vr a2, vr a3, vi x4, v5, v6] [vr a1] h := (run_step _ _ _ _ _ _).trans rfl
set_option maxRecDepth 8000 in
theorem s_268_609 : run (d + 1) md_268 609 [vr a0, vr a1, vr a2, vr a3, vi x4, v5, v6] [vr b0] h = run (d + 1) md_268 610 [vr a0, vr a1, vr a2, vr a3, vi x4, v5, v6] [vr a0, vr b0] h := (run_step _ _ _ _ _ _).trans rfl
set_option maxRecDepth 8000 in
theorem s_268_610 : run (d + 1) md_268 610 [vr a0, vr a1, vr a2, vr a3, vi x4, v5, v6] [vr b1, vr b0] h = run (d + 1) md_268 612 [vr a0, vr a1, vr a2, vr a3, vi x4, v5, v6] [vi x4, vr b1, vr b0] h := (run_step _ _ _ _ _ _).trans rfl
set_option maxRecDepth 8000 in
theorem s_268_612 : run (d + 1) md_268 612 [vr a0, vr a1, vr a2, vr a3, vi x4, v5, v6] [vi z2, vr b1, vr b0] h = run (d + 1) md_268 613 [vr a0, vr a1, vr a2, vr a3, vi x4, v5, v6] [vi 1, vi z2, vr b1, vr b0] h := (run_step _ _ _ _ _ _).trans rfl
set_option maxRecDepth 8000 in
theorem s_268_613 : run (d + 1) md_268 613 [vr a0, vr a1, vr a2, vr a3, vi x4, v5, v6] [vi z3, vi z2, vr b1, vr b0] h = run (d + 1) md_268 614 [vr a0, vr a1, vr a2, vr a3, vi x4, v5, v6] [vi (i_add z2 z3), vr b1, vr b0] h := (run_step _ _ _ _ _ _).trans rfl
set_option maxRecDepth 8000 in
theorem s_268_614 : run (d + 1) md_268 614 [vr a0, vr a1, vr a2, vr a3, vi x4, v5, v6] [vi z2, vr b1, vr b0] h = bif (isK h b1 11 || isK h b1 21) && inb h b1 z2 then run (d + 1) md_268 615 [vr a0, vr a1, vr a2, vr a3, vi x4, v5, v6] [vi (h_mi h b1 (z2 : Int).toNat), vr b0] h else none := (run_step _ _ _ _ _ _).trans rfl
set_option maxRecDepth 8000 in
theorem s_268_615 : run (d + 1) md_268 615 [vr a0, vr a1, vr a2, vr a3, vi x4, v5, v6] [vi z1, vr b0] h = run (d + 1) md_268 616 [vr a0, vr a1, vr a2, vr a3, vi x4, v5, v6] [vr a0, vi z1, vr b0] h := (run_step _ _ _ _ _ _).trans rfl
set_option maxRecDepth 8000 in
theorem s_268_616 : run (d + 1) md_268 616 [vr a0, vr a1, vr a2, vr a3, vi x4, v5, v6] [vr b2, vi z1, vr b0] h = run (d + 1) md_268 618 [vr a0, vr a1, vr a2, vr a3, vi x4, v5, v6] [vi x4, vr b2, vi z1, vr b0] h := (run_step _ _ _ _ _ _).trans rfl
set_option maxRecDepth 8000 in
theorem s_268_618 : run (d + 1) md_268 618 [vr a0, vr a1, vr a2, vr a3, vi x4, v5, v6] [vi z3, vr b2, vi z1, vr b0] h = run (d + 1) md_268 619 [vr a0, vr a1, vr a2, vr a3, vi x4, v5, v6] [vi 2, vi z3, vr b2, vi z1, vr b0] h := (run_step _ _ _ _ _ _).trans rfl
set_option maxRecDepth 8000 in
theorem s_268_619 : run (d + 1) md_268 619 [vr a0, vr a1, vr a2, vr a3, vi x4, v5, v6] [vi z4, vi z3, vr b2, vi z1, vr b0] h = run (d + 1) md_268 620 [vr a0, vr a1, vr a2, vr a3, vi x4, v5, v6] [vi (i_add z3 z4), vr b2, vi z1, vr b0] h := (run_step _ _ _ _ _ _).trans rfl
set_option maxRecDepth 8000 in
theorem s_268_620 : run (d + 1) md_268 620 [vr a0, vr a1, vr a2, vr a3, vi x4, v5, v6] [vi z3, vr b2, vi z1, vr b0] h = bif (isK h b2 11 || isK h b2 21) && inb h b2 z3 then run (d + 1) md_268 621 [vr a0, vr a1, vr a2, vr a3, vi x4, v5, v6] [vi (h_mi h b2 (z3 : Int).toNat), vi z1, vr b0] h else none := (run_step _ _ _ _ _ _).trans rfl
set_option maxRecDepth 20000 in
set_option maxRecDepth 8000 in
theorem s_268_621 : run (d + 1) md_268 621 [vr a0, vr a1, vr a2, vr a3, vi x4, v5, v6] [vi z2, vi z1, vr b0] h = bif isK h b0 8 then bI (ev d 120 [vr b0, vi z1, vi z2] h) fun r1 h1 => run (d + 1) md_268 624 [vr a0, vr a1, vr a2, vr a3, vi x4, v5, v6] [vi r1] h1 else none := (run_step _ _ _ _ _ _).trans rfl
set_option maxRecDepth 8000 in
theorem s_268_624 : run (d + 1) md_268 624 [vr a0, vr a1, vr a2, vr a3, vi x4, v5, v6] [vi z0] h = run (d + 1) md_268 625 [vr a0, vr a1, vr a2, vr a3, vi x4, v5, v6] [vr a2, vi z0] h := (run_step _ _ _ _ _ _).trans rfl
set_option maxRecDepth 8000 in
theorem s_268_625 : run (d + 1) md_268 625 [vr a0, vr a1, vr a2, vr a3, vi x4, v5, v6] [vr b1, vi z0] h = run (d + 1) md_268 626 [vr a0, vr a1, vr a2, vr a3, vi x4, v5, v6] [vr a0, vr b1, vi z0] h := (run_step _ _ _ _ _ _).trans rfl
set_option maxRecDepth 8000 in
theorem s_268_626 : run (d + 1) md_268 626 [vr a0, vr a1, vr a2, vr a3, vi x4, v5, v6] [vr b2, vr b1, vi z0] h = run (d + 1) md_268 628 [vr a0, vr a1, vr a2, vr a3, vi x4, v5, v6] [vi x4, vr b2, vr b1, vi z0] h := (run_step _ _ _ _ _ _).trans rfl
set_option maxRecDepth 8000 in
theorem s_268_628 : run (d + 1) md_268 628 [vr a0, vr a1, vr a2, vr a3, vi x4, v5, v6] [vi z3, vr b2, vr b1, vi z0] h = run (d + 1) md_268 629 [vr a0, vr a1, vr a2, vr a3, vi x4, v5, v6] [vi 1, vi z3, vr b2, vr b1, vi z0] h := (run_step _ _ _ _ _ _).trans rfl
set_option maxRecDepth 8000 in
theorem s_268_629 : run (d + 1) md_268 629 [vr a0, vr a1, vr a2, vr a3, vi x4, v5, v6] [vi z4, vi z3, vr b2, vr b1, vi z0] h = run (d + 1) md_268 630 [vr a0, vr a1, vr a2, vr a3, vi x4, v5, v6] [vi (i_add z3 z4), vr b2, vr b1, vi z0] h := (run_step _ _ _ _ _ _).trans rfl
set_option maxRecDepth 8000 in
theorem s_268_630 : run (d + 1) md_268 630 [vr a0, vr a1, vr a2, vr a3, vi x4, v5, v6] [vi z3, vr b2, vr b1, vi z0] h = bif (isK h b2 11 || isK h b2 21) && inb h b2 z3 then run (d + 1) md_268 631 [vr a0, vr a1, vr a2, vr a3, vi x4, v5, v6] [vi (h_mi h b2 (z3 : Int).toNat), vr b1, vi z0] h else none := (run_step _ _ _ _ _ _).trans rfl
set_option maxRecDepth 8000 in
theorem s_268_631 : run (d + 1) md_268 631 [vr a0, vr a1, vr a2, vr a3, vi x4, v5, v6] [vi z2, vr b1, vi z0] h = run (d + 1) md_268 632 [vr a0, vr a1, vr a2, vr a3, vi x4, v5, v6] [vr a0, vi z2, vr b1, vi z0] h := (run_step _ _ _ _ _ _).trans rfl
set_option maxRecDepth 8000 in
theorem s_268_632 : run (d + 1) md_268 632 [vr a0, vr a1, vr a2, vr a3, vi x4, v5, v6] [vr b3, vi z2, vr b1, vi z0] h = run (d + 1) md_268 634 [vr a0, vr a1, vr a2, vr a3, vi x4, v5, v6] [vi x4, vr b3, vi z2, vr b1, vi z0] h := (run_step _ _ _ _ _ _).trans rfl
set_option maxRecDepth 8000 in
theorem s_268_634 : run (d + 1) md_268 634 [vr a0, vr a1, vr a2, vr a3, vi x4, v5, v6] [vi z4, vr b3, vi z2, vr b1, vi z0] h = run (d + 1) md_268 635 [vr a0, vr a1, vr a2, vr a3, vi x4, v5, v6] [vi 2, vi z4, vr b3, vi z2, vr b1, vi z0] h := (run_step _ _ _ _ _ _).trans rfl
set_option maxRecDepth 8000 in
theorem s_268_635 : run (d + 1) md_268 635 [vr a0, vr a1, vr a2, vr a3, vi x4, v5, v6] [vi z5, vi z4, vr b3, vi z2, vr b1, vi z0] h = run (d + 1) md_268 636 [vr a0, vr a1, vr a2, vr a3, vi x4, v5, v6] [vi (i_add z4 z5), vr b3, vi z2, vr b1, vi z0] h := (run_step _ _ _ _ _ _).trans rfl
set_option maxRecDepth 8000 in
theorem s_268_636 : run (d + 1) md_268 636 [vr a0, vr a1, vr a2, vr a3, vi x4, v5, v6] [vi z4, vr b3, vi z2, vr b1, vi z0] h = bif (isK h b3 11 || isK h b3 21) && inb h b3 z4 then run (d + 1) md_268 637 [vr a0, vr a1, vr a2, vr a3, vi x4, v5, v6] [vi (h_mi h b3 (z4 : Int).toNat), vi z2, vr b1, vi z0] h else none := (run_step _ _ _ _ _ _).trans rfl
set_option maxRecDepth 20000 in
set_option maxRecDepth 8000 in
theorem s_268_637 : run (d + 1) md_268 637 [vr a0, vr a1, vr a2, vr a3, vi x4, v5, v6] [vi z3, vi z2, vr b1, vi z0] h = bif isK h b1 9 then bI (ev d 212 [vr b1, vi z2, vi z3] h) fun r1 h1 => run (d + 1) md_268 640 [vr a0, vr a1, vr a2, vr a3, vi x4, v5, v6] [vi r1, vi z0] h1 else none := (run_step _ _ _ _ _ _).trans rfl
set_option maxRecDepth 8000 in
theorem s_268_640 : run (d + 1) md_268 640 [vr a0, vr a1, vr a2, vr a3, vi x4, v5, v6] [vi z1, vi z0] h = bif decide (z0 = z1) then run (d + 1) md_268 1498 [vr a0, vr a1, vr a2, vr a3, vi x4, v5, v6] [] h else run (d + 1) md_268 643 [vr a0, vr a1, vr a2, vr a3, vi x4, v5, v6] [] h := (run_step _ _ _ _ _ _).trans rfl
set_option maxRecDepth 8000 in
theorem s_268_643 : run (d + 1) md_268 643 [vr a0, vr a1, vr a2, vr a3, vi x4, v5, v6] [] h = run (d + 1) md_268 644 [vr a0, vr a1, vr a2, vr a3, vi x4, v5, v6] [vi 0] h := (run_step _ _ _ _ _ _).trans rfl
set_option maxRecDepth 8000 in
theorem s_268_644 : run (d + 1) md_268 644 [vr a0, vr a1, vr a2, vr a3, vi x4, v5, v6] [vi z0] h = bif decide (z0 = 0) || decide (z0 = 1) then some (vi z0, h) else none := (run_step _ _ _ _ _ _).trans rfl
set_option maxRecDepth 8000 in
theorem s_268_645 : run (d + 1) md_268 645 [vr a0, vr a1, vr a2, vr a3, vi x4, v5, v6] [] h = run (d + 1) md_268 646 [vr a0, vr a1, vr a2, vr a3, vi x4, v5, v6] [vr a1] h := (run_step _ _ _ _ _ _).trans rfl
set_option maxRecDepth 8000 in
theorem s_268_646 : run (d + 1) md_268 646 [vr a0, vr a1, vr a2, vr a3, vi x4, v5, v6] [vr b0] h = run (d + 1) md_268 647 [vr a0, vr a1, vr a2, vr a3, vi x4, v5, v6] [vr a0, vr b0] h := (run_step _ _ _ _ _ _).trans rfl
set_option maxRecDepth 8000 in
theorem s_268_647 : run (d + 1) md_268 647 [vr a0, vr a1, vr a2, vr a3, vi x4, v5, v6] [vr b1, vr b0] h = run (d + 1) md_268 649 [vr a0, vr a1, vr a2, vr a3, vi x4, v5, v6] [vi x4, vr b1, vr b0] h := (run_step _ _ _ _ _ _).trans rfl
set_option maxRecDepth 8000 in
theorem s_268_649 : run (d + 1) md_268 649 [vr a0, vr a1, vr a2, vr a3, vi x4, v5, v6] [vi z2, vr b1, vr b0] h = run (d + 1) md_268 650 [vr a0, vr a1, vr a2, vr a3, vi x4, v5, v6] [vi 1, vi z2, vr b1, vr b0] h := (run_step _ _ _ _ _ _).trans rfl
set_option maxRecDepth 8000 in
theorem s_268_650 : run (d + 1) md_268 650 [vr a0, vr a1, vr a2, vr a3, vi x4, v5, v6] [vi z3, vi z2, vr b1, vr b0] h = run (d + 1) md_268 651 [vr a0, vr a1, vr a2, vr a3, vi x4, v5, v6] [vi (i_add z2 z3), vr b1, vr b0] h := (run_step _ _ _ _ _ _).trans rfl
set_option maxRecDepth 8000 in
theorem s_268_651 : run (d + 1) md_268 651 [vr a0, vr a1, vr a2, vr a3, vi x4, v5, v6] [vi z2, vr b1, vr b0] h = bif (isK h b1 11 || isK h b1 21) && inb h b1 z2 then run (d + 1) md_268 652 [vr a0, vr a1, vr a2, vr a3, vi x4, v5, v6] [vi (h_mi h b1 (z2 : Int).toNat), vr b0] h else none := (run_step _ _ _ _ _ _).trans rfl
set_option maxRecDepth 8000 in
theorem s_268_652 : run (d + 1) md_268 652 [vr a0, vr a1, vr a2, vr a3, vi x4, v5, v6] [vi z1, vr b0] h = run (d + 1) md_268 653 [vr a0, vr a1, vr a2, vr a3, vi x4, v5, v6] [vr a0, vi z1, vr b0] h := (run_step _ _ _ _ _ _).trans rfl
set_option maxRecDepth 8000 in
theorem s_268_653 : run (d + 1) md_268 653 [vr a0, vr a1, vr a2, vr a3, vi x4, v5, v6] [vr b2, vi z1, vr b0] h = run (d + 1) md_268 655 [vr a0, vr a1, vr a2, vr a3, vi x4, v5, v6] [vi x4, vr b2, vi z1, vr b0] h := (run_step _ _ _ _ _ _).trans rfl
set_option maxRecDepth 8000 in
theorem s_268_655 : run (d + 1) md_268 655 [vr a0, vr a1, vr a2, vr a3, vi x4, v5, v6] [vi z3, vr b2, vi z1, vr b0] h = run (d + 1) md_268 656 [vr a0, vr a1, vr a2, vr a3, vi x4, v5, v6] [vi 2, vi z3, vr b2, vi z1, vr b0] h := (run_step _ _ _ _ _ _).trans rfl
set_option maxRecDepth 8000 in
theorem s_268_656 : run (d + 1) md_268 656 [vr a0, vr a1, vr a2, vr a3, vi x4, v5, v6] [vi z4, vi z3, vr b2, vi z1, vr b0] h = run (d + 1) md_268 657 [vr a0, vr a1, vr a2, vr a3, vi x4, v5, v6] [vi (i_add z3 z4), vr b2, vi z1, vr b0] h := (run_step _ _ _ _ _ _).trans rfl
set_option maxRecDepth 8000 in
theorem s_268_657 : run (d + 1) md_268 657 [vr a0, vr a1, vr a2, vr a3, vi x4, v5, v6] [vi z3, vr b2, vi z1, vr b0] h = bif (isK h b2 11 || isK h b2 21) && inb h b2 z3 then run (d + 1) md_268 658 [vr a0, vr a1, vr a2, vr a3, vi x4, v5, v6] [vi (h_mi h b2 (z3 : Int).toNat), vi z1, vr b0] h else none := (run_step _ _ _ _ _ _).trans rfl
set_option maxRecDepth 20000 in
set_option maxRecDepth 8000 in
theorem s_268_658 : run (d + 1) md_268 658 [vr a0, vr a1, vr a2, vr a3, vi x4, v5, v6] [vi z2, vi z1, vr b0] h = bif isK h b0 8 then bI (ev d 121 [vr b0, vi z1, vi z2] h) fun r1 h1 => run (d + 1) md_268 661 [vr a0, vr a1, vr a2, vr a3, vi x4, v5, v6] [vi r1] h1 else none := (run_step _ _ _ _ _ _).trans rfl
set_option maxRecDepth 8000 in
theorem s_268_661 : run (d + 1) md_268 661 [vr a0, vr a1, vr a2, vr a3, vi x4, v5, v6] [vi z0] h = run (d + 1) md_268 662 [vr a0, vr a1, vr a2, vr a3, vi x4, v5, v6] [vr a2, vi z0] h := (run_step _ _ _ _ _ _).trans rfl
set_option maxRecDepth 8000 in
theorem s_268_662 : run (d + 1) md_268 662 [vr a0, vr a1, vr a2, vr a3, vi x4, v5, v6] [vr b1, vi z0] h = run (d + 1) md_268 663 [vr a0, vr a1, vr a2, vr a3, vi x4, v5, v6] [vr a0, vr b1, vi z0] h := (run_step _ _ _ _ _ _).trans rfl
set_option maxRecDepth 8000 in
theorem s_268_663 : run (d + 1) md_268 663 [vr a0, vr a1, vr a2, vr a3, vi x4, v5, v6] [vr b2, vr b1, vi z0] h = run (d + 1) md_268 665 [vr a0, vr a1, vr a2, vr a3, vi x4, v5, v6] [vi x4, vr b2, vr b1, vi z0] h := (run_step _ _ _ _ _ _).trans rfl
set_option maxRecDepth 8000 in
theorem s_268_665 : run (d + 1) md_268 665 [vr a0, vr a1, vr a2, vr a3, vi x4, v5, v6] [vi z3, vr b2, vr b1, vi z0] h = run (d + 1) md_268 666 [vr a0, vr a1, vr a2, vr a3, vi x4, v5, v6] [vi 1, vi z3, vr b2, vr b1, vi z0] h := (run_step _ _ _ _ _ _).trans rfl
set_option maxRecDepth 8000 in
theorem s_268_666 : run (d + 1) md_268 666 [vr a0, vr a1, vr a2, vr a3, vi x4, v5, v6] [vi z4, vi z3, vr b2, vr b1, vi z0] h = run (d + 1) md_268 667 [vr a0, vr a1, vr a2, vr a3, vi x4, v5, v6] [vi (i_add z3 z4), vr b2, vr b1, vi z0] h := (run_step _ _ _ _ _ _).trans rfl
set_option maxRecDepth 8000 in
theorem s_268_667 : run (d + 1) md_268 667 [vr a0, vr a1, vr a2, vr a3, vi x4, v5, v6] [vi z3, vr b2, vr b1, vi z0] h = bif (isK h b2 11 || isK h b2 21) && inb h b2 z3 then run (d + 1) md_268 668 [vr a0, vr a1, vr a2, vr a3, vi x4, v5, v6] [vi (h_mi h b2 (z3 : Int).toNat), vr b1, vi z0] h else none := (run_step _ _ _ _ _ _).trans rfl
set_option maxRecDepth 8000 in
theorem s_268_668 : run (d + 1) md_268 668 [vr a0, vr a1, vr a2, vr a3, vi x4, v5, v6] [vi z2, vr b1, vi z0] h = run (d + 1) md_268 669 [vr a0, vr a1, vr a2, vr a3, vi x4, v5, v6] [vr a0, vi z2, vr b1, vi z0] h := (run_step _ _ _ _ _ _).trans rfl
set_option maxRecDepth 8000 in
theorem s_268_669 : run (d + 1) md_268 669 [vr a0, vr a1, vr a2, vr a3, vi x4, v5, v6] [vr b3, vi z2, vr b1, vi z0] h = run (d + 1) md_268 671 [vr a0, vr a1, vr a2, vr a3, vi x4, v5, v6] [vi x4, vr b3, vi z2, vr b1, vi z0] h := (run_step _ _ _ _ _ _).trans rfl
set_option maxRecDepth 8000 in
theorem s_268_671 : run (d + 1) md_268 671 [vr a0, vr a1, vr a2, vr a3, vi x4, v5, v6] [vi z4, vr b3, vi z2, vr b1, vi z0] h = run (d + 1) md_268 672 [vr a0, vr a1, vr a2, vr a3, vi x4, v5, v6] [vi 2, vi z4, vr b3, vi z2, vr b1, vi z0] h := (run_step _ _ _ _ _ _).trans rfl
set_option maxRecDepth 8000 in
theorem s_268_672 : run (d + 1) md_268 672 [vr a0, vr a1, vr a2, vr a3, vi x4, v5, v6] [vi z5, vi z4, vr b3, vi z2, vr b1, vi z0] h = run (d + 1) md_268 673 [vr a0, vr a1, vr a2, vr a3, vi x4, v5, v6] [vi (i_add z4 z5), vr b3, vi z2, vr b1, vi z0] h := (run_step _ _ _ _ _ _).trans rfl
set_option maxRecDepth 8000 in
theorem s_268_673 : run (d + 1) md_268 673 [vr a0, vr a1, vr a2, vr a3, vi x4, v5, v6] [vi z4, vr b3, vi z2, vr b1, vi z0] h = bif (isK h b3 11 || isK h b3 21) && inb h b3 z4 then run (d + 1) md_268 674 [vr a0, vr a1, vr a2, vr a3, vi x4, v5, v6] [vi (h_mi h b3 (z4 : Int).toNat), vi z2, vr b1, vi z0] h else none := (run_step _ _ _ _ _ _).trans rfl
set_option maxRecDepth 20000 in
set_option maxRecDepth 8000 in
theorem s_268_674 : run (d + 1) md_268 674 [vr a0, vr a1, vr a2, vr a3, vi x4, v5, v6] [vi z3, vi z2, vr b1, vi z0] h = bif isK h b1 9 then bI (ev d 216 [vr b1, vi z2, vi z3] h) fun r1 h1 => run (d + 1) md_268 677 [vr a0, vr a1, vr a2, vr a3, vi x4, v5, v6] [vi r1, vi z0] h1 else none := (run_step _ _ _ _ _ _).trans rfl
set_option maxRecDepth 8000 in
theorem s_268_677 : run (d + 1) md_268 677 [vr a0, vr a1, vr a2, vr a3, vi x4, v5, v6] [vi z1, vi z0] h = bif decide (z0 = z1) then run (d + 1) md_268 1498 [vr a0, vr a1, vr a2, vr a3, vi x4, v5, v6] [] h else run (d + 1) md_268 680 [vr a0, vr a1, vr a2, vr a3, vi x4, v5, v6] [] h := (run_step _ _ _ _ _ _).trans rfl
set_option maxRecDepth 8000 in
theorem s_268_680 : run (d + 1) md_268 680 [vr a0, vr a1, vr a2, vr a3, vi x4, v5, v6] [] h = run (d + 1) md_268 681 [vr a0, vr a1, vr a2, vr a3, vi x4, v5, v6] [vi 0] h := (run_step _ _ _ _ _ _).trans rfl
set_option maxRecDepth 8000 in
theorem s_268_681 : run (d + 1) md_268 681 [vr a0, vr a1, vr a2, vr a3, vi x4, v5, v6] [vi z0] h = bif decide (z0 = 0) || decide (z0 = 1) then some (vi z0, h) else none := (run_step _ _ _ _ _ _).trans rfl
set_option maxRecDepth 8000 in
theorem s_268_682 : run (d + 1) md_268 682 [vr a0, vr a1, vr a2, vr a3, vi x4, v5, v6] [] h = run (d + 1) md_268 683 [vr a0, vr a1, vr a2, vr a3, vi x4, v5, v6] [vr a1] h := (run_step _ _ _ _ _ _).trans rfl
set_option maxRecDepth 8000 in
theorem s_268_683 : run (d + 1) md_268 683 [vr a0, vr a1, vr a2, vr a3, vi x4, v5, v6] [vr b0] h = run (d + 1) md_268 684 [vr a0, vr a1, vr a2, vr a3, vi x4, v5, v6] [vr a0, vr b0] h := (run_step _ _ _ _ _ _).trans rfl
set_option maxRecDepth 8000 in
theorem s_268_684 : run (d + 1) md_268 684 [vr a0, vr a1, vr a2, vr a3, vi x4, v5, v6] [vr b1, vr b0] h = run (d + 1) md_268 686 [vr a0, vr a1, vr a2, vr a3, vi x4, v5, v6] [vi x4, vr b1, vr b0] h := (run_step _ _ _ _ _ _).trans rfl
set_option maxRecDepth 8000 in
theorem s_268_686 : run (d + 1) md_268 686 [vr a0, vr a1, vr a2, vr a3, vi x4, v5, v6] [vi z2, vr b1, vr b0] h = run (d + 1) md_268 687 [vr a0, vr a1, vr a2, vr a3, vi x4, v5, v6] [vi 1, vi z2, vr b1, vr b0] h := (run_step _ _ _ _ _ _).trans rfl
set_option maxRecDepth 8000 in
theorem s_268_687 : run (d + 1) md_268 687 [vr a0, vr a1, vr a2, vr a3, vi x4, v5, v6] [vi z3, vi z2, vr b1, vr b0] h = run (d + 1) md_268 688 [vr a0, vr a1, vr a2, vr a3, vi x4, v5, v6] [vi (i_add z2 z3), vr b1, vr b0] h := (run_step _ _ _ _ _ _).trans rfl
set_option maxRecDepth 8000 in
theorem s_268_688 : run (d + 1) md_268 688 [vr a0, vr a1, vr a2, vr a3, vi x4, v5, v6] [vi z2, vr b1, vr b0] h = bif (isK h b1 11 || isK h b1 21) && inb h b1 z2 then run (d + 1) md_268 689 [vr a0, vr a1, vr a2, vr a3, vi x4, v5, v6] [vi (h_mi h b1 (z2 : Int).toNat), vr b0] h else none := (run_step _ _ _ _ _ _).trans rfl
set_option maxRecDepth 8000 in
theorem s_268_689 : run (d + 1) md_268 689 [vr a0, vr a1, vr a2, vr a3, vi x4, v5, v6] [vi z1, vr b0] h = run (d + 1) md_268 690 [vr a0, vr a1, vr a2, vr a3, vi x4, v5, v6] [vr a0, vi z1, vr b0] h := (run_step _ _ _ _ _ _).trans rfl
set_option maxRecDepth 8000 in
theorem s_268_690 : run (d + 1) md_268 690 [vr a0, vr a1, vr a2, vr a3, vi x4, v5, v6] [vr b2, vi z1, vr b0] h = run (d + 1) md_268 692 [vr a0, vr a1, vr a2, vr a3, vi x4, v5, v6] [vi x4, vr b2, vi z1, vr b0] h := (run_step _ _ _ _ _ _).trans rfl
set_option maxRecDepth 8000 in
theorem s_268_692 : run (d + 1) md_268 692 [vr a0, vr a1, vr a2, vr a3, vi x4, v5, v6] [vi z3, vr b2, vi z1, vr b0] h = run (d + 1) md_268 693 [vr a0, vr a1, vr a2, vr a3, vi x4, v5, v6] [vi 2, vi z3, vr b2, vi z1, vr b0] h := (run_step _ _ _ _ _ _).trans rfl
set_option maxRecDepth 8000 in
theorem s_268_693 : run (d + 1) md_268 693 [vr a0, vr a1, vr a2, vr a3, vi x4, v5, v6] [vi z4, vi z3, vr b2, vi z1, vr b0] h = run (d + 1) md_268 694 [vr a0, vr a1, vr a2, vr a3, vi x4, v5, v6] [vi (i_add z3 z4), vr b2, vi z1, vr b0] h := (run_step _ _ _ _ _ _).trans rfl
set_option maxRecDepth 8000 in
theorem s_268_694 : run (d + 1) md_268 694 [vr a0, vr a1, vr a2, vr a3, vi x4, v5, v6] [vi z3, vr b2, vi z1, vr b0] h = bif (isK h b2 11 || isK h b2 21) && inb h b2 z3 then run (d + 1) md_268 695 [vr a0, vr a1, vr a2, vr a3, vi x4, v5, v6] [vi (h_mi h b2 (z3 : Int).toNat), vi z1, vr b0] h else none := (run_step _ _ _ _ _ _).trans rfl
set_option maxRecDepth 8000 in
theorem s_268_695 : run (d + 1) md_268 695 [vr a0, vr a1, vr a2, vr a3, vi x4, v5, v6] [vi z2, vi z1, vr b0] h = run (d + 1) md_268 696 [vr a0, vr a1, vr a2, vr a3, vi x4, v5, v6] [vr a0, vi z2, vi z1, vr b0] h := (run_step _ _ _ _ _ _).trans rfl
set_option maxRecDepth 8000 in
theorem s_268_696 : run (d + 1) md_268 696 [vr a0, vr a1, vr a2, vr a3, vi x4, v5, v6] [vr b3, vi z2, vi z1, vr b0] h = run (d + 1) md_268 698 [vr a0, vr a1, vr a2, vr a3, vi x4, v5, v6] [vi x4, vr b3, vi z2, vi z1, vr b0] h := (run_step _ _ _ _ _ _).trans rfl
set_option maxRecDepth 8000 in
theorem s_268_698 : run (d + 1) md_268 698 [vr a0, vr a1, vr a2, vr a3, vi x4, v5, v6] [vi z4, vr b3, vi z2, vi z1, vr b0] h = run (d + 1) md_268 699 [vr a0, vr a1, vr a2, vr a3, vi x4, v5, v6] [vi 3, vi z4, vr b3, vi z2, vi z1, vr b0] h := (run_step _ _ _ _ _ _).trans rfl
set_option maxRecDepth 8000 in
theorem s_268_699 : run (d + 1) md_268 699 [vr a0, vr a1, vr a2, vr a3, vi x4, v5, v6] [vi z5, vi z4, vr b3, vi z2, vi z1, vr b0] h = run (d + 1) md_268 700 [vr a0, vr a1, vr a2, vr a3, vi x4, v5, v6] [vi (i_add z4 z5), vr b3, vi z2, vi z1, vr b0] h := (run_step _ _ _ _ _ _).trans rfl
set_option maxRecDepth 8000 in
theorem s_268_700 : run (d + 1) md_268 700 [vr a0, vr a1, vr a2, vr a3, vi x4, v5, v6] [vi z4, vr b3, vi z2, vi z1, vr b0] h = bif (isK h b3 11 || isK h b3 21) && inb h b3 z4 then run (d + 1) md_268 701 [vr a0, vr a1, vr a2, vr a3, vi x4, v5, v6] [vi (h_mi h b3 (z4 : Int).toNat), vi z2, vi z1, vr b0] h else none := (run_step _ _ _ _ _ _).trans rfl
set_option maxRecDepth 20000 in
set_option maxRecDepth 8000 in
theorem s_268_701 : run (d + 1) md_268 701 [vr a0, vr a1, vr a2, vr a3, vi x4, v5, v6] [vi z3, vi z2, vi z1, vr b0] h = bif isK h b0 8 then bI (ev d 122 [vr b0, vi z1, vi z2, vi z3] h) fun r1 h1 => run (d + 1) md_268 704 [vr a0, vr a1, vr a2, vr a3, vi x4, v5, v6] [vi r1] h1 else none := (run_step _ _ _ _ _ _).trans rfl
set_option maxRecDepth 8000 in
theorem s_268_704 : run (d + 1) md_268 704 [vr a0, vr a1, vr a2, vr a3, vi x4, v5, v6] [vi z0] h = run (d + 1) md_268 705 [vr a0, vr a1, vr a2, vr a3, vi x4, v5, v6] [vr a2, vi z0] h := (run_step _ _ _ _ _ _).trans rfl
set_option maxRecDepth 8000 in
theorem s_268_705 : run (d + 1) md_268 705 [vr a0, vr a1, vr a2, vr a3, vi x4, v5, v6] [vr b1, vi z0] h = run (d + 1) md_268 706 [vr a0, vr a1, vr a2, vr a3, vi x4, v5, v6] [vr a0, vr b1, vi z0] h := (run_step _ _ _ _ _ _).trans rfl
set_option maxRecDepth 8000 in
theorem s_268_706 : run (d + 1) md_268 706 [vr a0, vr a1, vr a2, vr a3, vi x4, v5, v6] [vr b2, vr b1, vi z0] h = run (d + 1) md_268 708 [vr a0, vr a1, vr a2, vr a3, vi x4, v5, v6] [vi x4, vr b2, vr b1, vi z0] h := (run_step _ _ _ _ _ _).trans rfl
set_option maxRecDepth 8000 in
theorem s_268_708 : run (d + 1) md_268 708 [vr a0, vr a1, vr a2, vr a3, vi x4, v5, v6] [vi z3, vr b2, vr b1, vi z0] h = run (d + 1) md_268 709 [vr a0, vr a1, vr a2, vr a3, vi x4, v5, v6] [vi 1, vi z3, vr b2, vr b1, vi z0] h := (run_step _ _ _ _ _ _).trans rfl
set_option maxRecDepth 8000 in
theorem s_268_709 : run (d + 1) md_268 709 [vr a0, vr a1, vr a2, vr a3, vi x4, v5, v6] [vi z4, vi z3, vr b2, vr b1, vi z0] h = run (d + 1) md_268 710 [vr a0, vr a1, vr a2, vr a3, vi x4, v5, v6] [vi (i_add z3 z4), vr b2, vr b1, vi z0] h := (run_step _ _ _ _ _ _).trans rfl
set_option maxRecDepth 8000 in
theorem s_268_710 : run (d + 1) md_268 710 [vr a0, vr a1, vr a2, vr a3, vi x4, v5, v6] [vi z3, vr b2, vr b1, vi z0] h = bif (isK h b2 11 || isK h b2 21) && inb h b2 z3 then run (d + 1) md_268 711 [vr a0, vr a1, vr a2, vr a3, vi x4, v5, v6] [vi (h_mi h b2 (z3 : Int).toNat), vr b1, vi z0] h else none := (run_step _ _ _ _ _ _).trans rfl
set_option maxRecDepth 8000 in
theorem s_268_711 : run (d + 1) md_268 711 [vr a0, vr a1, vr a2, vr a3, vi x4, v5, v6] [vi z2, vr b1, vi z0] h = run (d + 1) md_268 712 [vr a0, vr a1, vr a2, vr a3, vi x4, v5, v6] [vr a0, vi z2, vr b1, vi z0] h := (run_step _ _ _ _ _ _).trans rfl
set_option maxRecDepth 8000 in
theorem s_268_712 : run (d + 1) md_268 712 [vr a0, vr a1, vr a2, vr a3, vi x4, v5, v6] [vr b3, vi z2, vr b1, vi z0] h = run (d + 1) md_268 714 [vr a0, vr a1, vr a2, vr a3, vi x4, v5, v6] [vi x4, vr b3, vi z2, vr b1, vi z0] h := (run_step _ _ _ _ _ _).trans rfl
set_option maxRecDepth 8000 in
theorem s_268_714 : run (d + 1) md_268 714 [vr a0, vr a1, vr a2, vr a3, vi x4, v5, v6] [vi z4, vr b3, vi z2, vr b1, vi z0] h = run (d + 1) md_268 715 [vr a0, vr a1, vr a2, vr a3, vi x4, v5, v6] [vi 2, vi z4, vr b3, vi z2, vr b1, vi z0] h := (run_step _ _ _ _ _ _).trans rfl
set_option maxRecDepth 8000 in
theorem s_268_715 : run (d + 1) md_268 715 [vr a0, vr a1, vr a2, vr a3, vi x4, v5, v6] [vi z5, vi z4, vr b3, vi z2, vr b1, vi z0] h = run (d + 1) md_268 716 [vr a0, vr a1, vr a2, vr a3, vi x4, v5, v6] [vi (i_add z4 z5), vr b3, vi z2, vr b1, vi z0] h := (run_step _ _ _ _ _ _).trans rfl
set_option maxRecDepth 8000 in
theorem s_268_716 : run (d + 1) md_268 716 [vr a0, vr a1, vr a2, vr a3, vi x4, v5, v6] [vi z4, vr b3, vi z2, vr b1, vi z0] h = bif (isK h b3 11 || isK h b3 21) && inb h b3 z4 then run (d + 1) md_268 717 [vr a0, vr a1, vr a2, vr a3, vi x4, v5, v6] [vi (h_mi h b3 (z4 : Int).toNat), vi z2, vr b1, vi z0] h else none := (run_step _ _ _ _ _ _).trans rfl
set_option maxRecDepth 8000 in
theorem s_268_717 : run (d + 1) md_268 717 [vr a0, vr a1, vr a2, vr a3, vi x4, v5, v6] [vi z3, vi z2, vr b1, vi z0] h = run (d + 1) md_268 718 [vr a0, vr a1, vr a2, vr a3, vi x4, v5, v6] [vr a0, vi z3, vi z2, vr b1, vi z0] h := (run_step _ _ _ _ _ _).trans rfl
set_option maxRecDepth 8000 in
theorem s_268_718 : run (d + 1) md_268 718 [vr a0, vr a1, vr a2, vr a3, vi x4, v5, v6] [vr b4, vi z3, vi z2, vr b1, vi z0] h = run (d + 1) md_268 720 [vr a0, vr a1, vr a2, vr a3, vi x4, v5, v6] [vi x4, vr b4, vi z3, vi z2, vr b1, vi z0] h := (run_step _ _ _ _ _ _).trans rfl
set_option maxRecDepth 8000 in
theorem s_268_720 : run (d + 1) md_268 720 [vr a0, vr a1, vr a2, vr a3, vi x4, v5, v6] [vi z5, vr b4, vi z3, vi z2, vr b1, vi z0] h = run (d + 1) md_268 721 [vr a0, vr a1, vr a2, vr a3, vi x4, v5, v6] [vi 3, vi z5, vr b4, vi z3, vi z2, vr b1, vi z0] h := (run_step _ _ _ _ _ _).trans rfl
set_option maxRecDepth 8000 in
theorem s_268_721 : run (d + 1) md_268 721 [vr a0, vr a1, vr a2, vr a3, vi x4, v5, v6] [vi z6, vi z5, vr b4, vi z3, vi z2, vr b1, vi z0] h = run (d + 1) md_268 722 [vr a0, vr a1, vr a2, vr a3, vi x4, v5, v6] [vi (i_add z5 z6), vr b4, vi z3, vi z2, vr b1, vi z0] h := (run_step _ _ _ _ _ _).trans rfl
set_option maxRecDepth 8000 in
theorem s_268_722 : run (d + 1) md_268 722 [vr a0, vr a1, vr a2, vr a3, vi x4, v5, v6] [vi z5, vr b4, vi z3, vi z2, vr b1, vi z0] h = bif (isK h b4 11 || isK h b4 21) && inb h b4 z5 then run (d + 1) md_268 723 [vr a0, vr a1, vr a2, vr a3, vi x4, v5, v6] [vi (h_mi h b4 (z5 : Int).toNat), vi z3, vi z2, vr b1, vi z0] h else none := (run_step _ _ _ _ _ _).trans rfl
set_option maxRecDepth 20000 in
set_option maxRecDepth 8000 in
theorem s_268_723 : run (d + 1) md_268 723 [vr a0, vr a1, vr a2, vr a3, vi x4, v5, v6] [vi z4, vi z3, vi z2, vr b1, vi z0] h = bif isK h b1 9 then bI (ev d 223 [vr b1, vi z2, vi z3, vi z4] h) fun r1 h1 => run (d + 1) md_268 726 [vr a0, vr a1, vr a2, vr a3, vi x4, v5, v6] [vi r1, vi z0] h1 else none := (run_step _ _ _ _ _ _).trans rfl
set_option maxRecDepth 8000 in
theorem s_268_726 : run (d + 1) md_268 726 [vr a0, vr a1, vr a2, vr a3, vi x4, v5, v6] [vi z1, vi z0] h = bif decide (z0 = z1) then run (d + 1) md_268 1498 [vr a0, vr a1, vr a2, vr a3, vi x4, v5, v6] [] h else run (d + 1) md_268 729 [vr a0, vr a1, vr a2, vr a3, vi x4, v5, v6] [] h := (run_step _ _ _ _ _ _).trans rfl
set_option maxRecDepth 8000 in
theorem s_268_729 : run (d + 1) md_268 729 [vr a0, vr a1, vr a2, vr a3, vi x4, v5, v6] [] h = run (d + 1) md_268 730 [vr a0, vr a1, vr a2, vr a3, vi x4, v5, v6] [vi 0] h := (run_step _ _ _ _ _ _).trans rfl
set_option maxRecDepth 8000 in
theorem s_268_730 : run (d + 1) md_268 730 [vr a0, vr a1, vr a2, vr a3, vi x4, v5, v6] [vi z0] h = bif decide (z0 = 0) || decide (z0 = 1) then some (vi z0, h) else none := (run_step _ _ _ _ _ _).trans rfl
set_option maxRecDepth 8000 in
theorem s_268_731 : run (d + 1) md_268 731 [vr a0, vr a1, vr a2, vr a3, vi x4, v5, v6] [] h = run (d + 1) md_268 732 [vr a0, vr a1, vr a2, vr a3, vi x4, v5, v6] [vr a1] h := (run_step _ _ _ _ _ _).trans rfl
set_option maxRecDepth 8000 in
theorem s_268_732 : run (d + 1) md_268 732 [vr a0, vr a1, vr a2, vr a3, vi x4, v5, v6] [vr b0] h = run (d + 1) md_268 733 [vr a0, vr a1, vr a2, vr a3, vi x4, v5, v6] [vr a0, vr b0] h := (run_step _ _ _ _ _ _).trans rfl
set_option maxRecDepth 8000 in
theorem s_268_733 : run (d + 1) md_268 733 [vr a0, vr a1, vr a2, vr a3, vi x4, v5, v6] [vr b1, vr b0] h = run (d + 1) md_268 735 [vr a0, vr a1, vr a2, vr a3, vi x4, v5, v6] [vi x4, vr b1, vr b0] h := (run_step _ _ _ _ _ _).trans rfl
set_option maxRecDepth 8000 in
theorem s_268_735 : run (d + 1) md_268 735 [vr a0, vr a1, vr a2, vr a3, vi x4, v5, v6] [vi z2, vr b1, vr b0] h = run (d + 1) md_268 736 [vr a0, vr a1, vr a2, vr a3, vi x4, v5, v6] [vi 1, vi z2, vr b1, vr b0] h := (run_step _ _ _ _ _ _).trans rfl
set_option maxRecDepth 8000 in
theorem s_268_736 : run (d + 1) md_268 736 [vr a0, vr a1, vr a2, vr a3, vi x4, v5, v6] [vi z3, vi z2, vr b1, vr b0] h = run (d + 1) md_268 737 [vr a0, vr a1, vr a2, vr a3, vi x4, v5, v6] [vi (i_add z2 z3), vr b1, vr b0] h := (run_step _ _ _ _ _ _).trans rfl
set_option maxRecDepth 8000 in
theorem s_268_737 : run (d + 1) md_268 737 [vr a0, vr a1, vr a2, vr a3, vi x4, v5, v6] [vi z2, vr b1, vr b0] h = bif (isK h b1 11 || isK h b1 21) && inb h b1 z2 then run (d + 1) md_268 738 [vr a0, vr a1, vr a2, vr a3, vi x4, v5, v6] [vi (h_mi h b1 (z2 : Int).toNat), vr b0] h else none := (run_step _ _ _ _ _ _).trans rfl
set_option maxRecDepth 20000 in
set_option maxRecDepth 8000 in
theorem s_268_738 : run (d + 1) md_268 738 [vr a0, vr a1, vr a2, vr a3, vi x4, v5, v6] [vi z1, vr b0] h = bif isK h b0 8 then bI (ev d 123 [vr b0, vi z1] h) fun r1 h1 => run (d + 1) md_268 741 [vr a0, vr a1, vr a2, vr a3, vi x4, v5, v6] [vi r1] h1 else none := (run_step _ _ _ _ _ _).trans rfl
set_option maxRecDepth 8000 in
theorem s_268_741 : run (d + 1) md_268 741 [vr a0, vr a1, vr a2, vr a3, vi x4, v5, v6] [vi z0] h = run (d + 1) md_268 742 [vr a0, vr a1, vr a2, vr a3, vi x4, v5, v6] [vr a2, vi z0] h := (run_step _ _ _ _ _ _).trans rfl
set_option maxRecDepth 8000 in
theorem s_268_742 : run (d + 1) md_268 742 [vr a0, vr a1, vr a2, vr a3, vi x4, v5, v6] [vr b1, vi z0] h = run (d + 1) md_268 743 [vr a0, vr a1, vr a2, vr a3, vi x4, v5, v6] [vr a0, vr b1, vi z0] h := (run_step _ _ _ _ _ _).trans rfl
set_option maxRecDepth 8000 in
theorem s_268_743 : run (d + 1) md_268 743 [vr a0, vr a1, vr a2, vr a3, vi x4, v5, v6] [vr b2, vr b1, vi z0] h = run (d + 1) md_268 745 [vr a0, vr a1, vr a2, vr a3, vi x4, v5, v6] [vi x4, vr b2, vr b1, vi z0] h := (run_step _ _ _ _ _ _).trans rfl
set_option maxRecDepth 8000 in
theorem s_268_745 : run (d + 1) md_268 745 [vr a0, vr a1, vr a2, vr a3, vi x4, v5, v6] [vi z3, vr b2, vr b1, vi z0] h = run (d + 1) md_268 746 [vr a0, vr a1, vr a2, vr a3, vi x4, v5, v6] [vi 1, vi z3, vr b2, vr b1, vi z0] h := (run_step _ _ _ _ _ _).trans rfl
set_option maxRecDepth 8000 in
theorem s_268_746 : run (d + 1) md_268 746 [vr a0, vr a1, vr a2, vr a3, vi x4, v5, v6] [vi z4, vi z3, vr b2, vr b1, vi z0] h = run (d + 1) md_268 747 [vr a0, vr a1, vr a2, vr a3, vi x4, v5, v6] [vi (i_add z3 z4), vr b2, vr b1, vi z0] h := (run_step _ _ _ _ _ _).trans rfl
set_option maxRecDepth 8000 in
theorem s_268_747 : run (d + 1) md_268 747 [vr a0, vr a1, vr a2, vr a3, vi x4, v5, v6] [vi z3, vr b2, vr b1, vi z0] h = bif (isK h b2 11 || isK h b2 21) && inb h b2 z3 then run (d + 1) md_268 748 [vr a0, vr a1, vr a2, vr a3, vi x4, v5, v6] [vi (h_mi h b2 (z3 : Int).toNat), vr b1, vi z0] h else none := (run_step _ _ _ _ _ _).trans rfl
set_option maxRecDepth 20000 in
set_option maxRecDepth 8000 in
theorem s_268_748 : run (d + 1) md_268 748 [vr a0, vr a1, vr a2, vr a3, vi x4, v5, v6] [vi z2, vr b1, vi z0] h = bif isK h b1 9 then bI (ev d 224 [vr b1, vi z2] h) fun r1 h1 => run (d + 1) md_268 751 [vr a0, vr a1, vr a2, vr a3, vi x4, v5, v6] [vi r1, vi z0] h1 else none := (run_step _ _ _ _ _ _).trans rfl
set_option maxRecDepth 8000 in
theorem s_268_751 : run (d + 1) md_268 751 [vr a0, vr a1, vr a2, vr a3, vi x4, v5, v6] [vi z1, vi z0] h = bif decide (z0 = z1) then run (d + 1) md_268 1498 [vr a0, vr a1, vr a2, vr a3, vi x4, v5, v6] [] h else run (d + 1) md_268 754 [vr a0, vr a1, vr a2, vr a3, vi x4, v5, v6] [] h := (run_step _ _ _ _ _ _).trans rfl
set_option maxRecDepth 8000 in
theorem s_268_754 : run (d + 1) md_268 754 [vr a0, vr a1, vr a2, vr a3, vi x4, v5, v6] [] h = run (d + 1) md_268 755 [vr a0, vr a1, vr a2, vr a3, vi x4, v5, v6] [vi 0] h := (run_step _ _ _ _ _ _).trans rfl
set_option maxRecDepth 8000 in
theorem s_268_755 : run (d + 1) md_268 755 [vr a0, vr a1, vr a2, vr a3, vi x4, v5, v6] [vi z0] h = bif decide (z0 = 0) || decide (z0 = 1) then some (vi z0, h) else none := (run_step _ _ _ _ _ _).trans rfl
set_option maxRecDepth 8000 in
theorem s_268_756 : run (d + 1) md_268 756 [vr a0, vr a1, vr a2, vr a3, vi x4, v5, v6] [] h = run (d + 1) md_268 757 [vr a0, vr a1, vr a2, vr a3, vi x4, v5, v6] [vr a1] h := (run_step _ _ _ _ _ _).trans rfl
set_option maxRecDepth 8000 in
theorem s_268_757 : run (d + 1) md_268 757 [vr a0, vr a1, vr a2, vr a3, vi x4, v5, v6] [vr b0] h = run (d + 1) md_268 758 [vr a0, vr a1, vr a2, vr a3, vi x4, v5, v6] [vr a0, vr b0] h := (run_step _ _ _ _ _ _).trans rfl
set_option maxRecDepth 8000 in
theorem s_268_758 : run (d + 1) md_268 758 [vr a0, vr a1, vr a2, vr a3, vi x4, v5, v6] [vr b1, vr b0] h = run (d + 1) md_268 760 [vr a0, vr a1, vr a2, vr a3, vi x4, v5, v6] [vi x4, vr b1, vr b0] h := (run_step _ _ _ _ _ _).trans rfl
set_option maxRecDepth 8000 in
theorem s_268_760 : run (d + 1) md_268 760 [vr a0, vr a1, vr a2, vr a3, vi x4, v5, v6] [vi z2, vr b1, vr b0] h = run (d + 1) md_268 761 [vr a0, vr a1, vr a2, vr a3, vi x4, v5, v6] [vi 1, vi z2, vr b1, vr b0] h := (run_step _ _ _ _ _ _).trans rfl
set_option maxRecDepth 8000 in
theorem s_268_761 : run (d + 1) md_268 761 [vr a0, vr a1, vr a2, vr a3, vi x4, v5, v6] [vi z3, vi z2, vr b1, vr b0] h = run (d + 1) md_268 762 [vr a0, vr a1, vr a2, vr a3, vi x4, v5, v6] [vi (i_add z2 z3), vr b1, vr b0] h := (run_step _ _ _ _ _ _).trans rfl
set_option maxRecDepth 8000 in
theorem s_268_762 : run (d + 1) md_268 762 [vr a0, vr a1, vr a2, vr a3, vi x4, v5, v6] [vi z2, vr b1, vr b0] h = bif (isK h b1 11 || isK h b1 21) && inb h b1 z2 then run (d + 1) md_268 763 [vr a0, vr a1, vr a2, vr a3, vi x4, v5, v6] [vi (h_mi h b1 (z2 : Int).toNat), vr b0] h else none := (run_step _ _ _ _ _ _).trans rfl
set_option maxRecDepth 8000 in
theorem s_268_763 : run (d + 1) md_268 763 [vr a0, vr a1, vr a2, vr a3, vi x4, v5, v6] [vi z1, vr b0] h = run (d + 1) md_268 764 [vr a0, vr a1, vr a2, vr a3, vi x4, v5, v6] [vr a0, vi z1, vr b0] h := (run_step _ _ _ _ _ _).trans rfl
set_option maxRecDepth 8000 in
theorem s_268_764 : run (d + 1) md_268 764 [vr a0, vr a1, vr a2, vr a3, vi x4, v5, v6] [vr b2, vi z1, vr b0] h = run (d + 1) md_268 766 [vr a0, vr a1, vr a2, vr a3, vi x4, v5, v6] [vi x4, vr b2, vi z1, vr b0] h := (run_step _ _ _ _ _ _).trans rfl
set_option maxRecDepth 8000 in
theorem s_268_766 : run (d + 1) md_268 766 [vr a0, vr a1, vr a2, vr a3, vi x4, v5, v6] [vi z3, vr b2, vi z1, vr b0] h = run (d + 1) md_268 767 [vr a0, vr a1, vr a2, vr a3, vi x4, v5, v6] [vi 2, vi z3, vr b2, vi z1, vr b0] h := (run_step _ _ _ _ _ _).trans rfl
set_option maxRecDepth 8000 in
theorem s_268_767 : run (d + 1) md_268 767 [vr a0, vr a1, vr a2, vr a3, vi x4, v5, v6] [vi z4, vi z3, vr b2, vi z1, vr b0] h = run (d + 1) md_268 768 [vr a0, vr a1, vr a2, vr a3, vi x4, v5, v6] [vi (i_add z3 z4), vr b2, vi z1, vr b0] h := (run_step _ _ _ _ _ _).trans rfl
set_option maxRecDepth 8000 in
theorem s_268_768 : run (d + 1) md_268 768 [vr a0, vr a1, vr a2, vr a3, vi x4, v5, v6] [vi z3, vr b2, vi z1, vr b0] h = bif (isK h b2 11 || isK h b2 21) && inb h b2 z3 then run (d + 1) md_268 769 [vr a0, vr a1, vr a2, vr a3, vi x4, v5, v6] [vi (h_mi h b2 (z3 : Int).toNat), vi z1, vr b0] h else none := (run_step _ _ _ _ _ _).trans rfl
set_option maxRecDepth 20000 in
set_option maxRecDepth 8000 in
theorem s_268_769 : run (d + 1) md_268 769 [vr a0, vr a1, vr a2, vr a3, vi x4, v5, v6] [vi z2, vi z1, vr b0] h = bif isK h b0 8 then bI (ev d 124 [vr b0, vi z1, vi z2] h) fun r1 h1 => run (d + 1) md_268 772 [vr a0, vr a1, vr a2, vr a3, vi x4, v5, v6] [vi r1] h1 else none := (run_step _ _ _ _ _ _).trans rfl
set_option maxRecDepth 8000 in
theorem s_268_772 : run (d + 1) md_268 772 [vr a0, vr a1, vr a2, vr a3, vi x4, v5, v6] [vi z0] h = run (d + 1) md_268 773 [vr a0, vr a1, vr a2, vr a3, vi x4, v5, v6] [vr a2, vi z0] h := (run_step _ _ _ _ _ _).trans rfl
set_option maxRecDepth 8000 in
theorem s_268_773 : run (d + 1) md_268 773 [vr a0, vr a1, vr a2, vr a3, vi x4, v5, v6] [vr b1, vi z0] h = run (d + 1) md_268 774 [vr a0, vr a1, vr a2, vr a3, vi x4, v5, v6] [vr a0, vr b1, vi z0] h := (run_step _ _ _ _ _ _).trans rfl
set_option maxRecDepth 8000 in
theorem s_268_774 : run (d + 1) md_268 774 [vr a0, vr a1, vr a2, vr a3, vi x4, v5, v6] [vr b2, vr b1, vi z0] h = run (d + 1) md_268 776 [vr a0, vr a1, vr a2, vr a3, vi x4, v5, v6] [vi x4, vr b2, vr b1, vi z0] h := (run_step _ _ _ _ _ _).trans rfl
set_option maxRecDepth 8000 in
theorem s_268_776 : run (d + 1) md_268 776 [vr a0, vr a1, vr a2, vr a3, vi x4, v5, v6] [vi z3, vr b2, vr b1, vi z0] h = run (d + 1) md_268 777 [vr a0, vr a1, vr a2, vr a3, vi x4, v5, v6] [vi 1, vi z3, vr b2, vr b1, vi z0] h := (run_step _ _ _ _ _ _).trans rfl
set_option maxRecDepth 8000 in
theorem s_268_777 : run (d + 1) md_268 777 [vr a0, vr a1, vr a2, vr a3, vi x4, v5, v6] [vi z4, vi z3, vr b2, vr b1, vi z0] h = run (d + 1) md_268 778 [vr a0, vr a1, vr a2, vr a3, vi x4, v5, v6] [vi (i_add z3 z4), vr b2, vr b1, vi z0] h := (run_step _ _ _ _ _ _).trans rfl
set_option maxRecDepth 8000 in
theorem s_268_778 : run (d + 1) md_268 778 [vr a0, vr a1, vr a2, vr a3, vi x4, v5, v6] [vi z3, vr b2, vr b1, vi z0] h = bif (isK h b2 11 || isK h b2 21) && inb h b2 z3 then run (d + 1) md_268 779 [vr a0, vr a1, vr a2, vr a3, vi x4, v5, v6] [vi (h_mi h b2 (z3 : Int).toNat), vr b1, vi z0] h else none := (run_step _ _ _ _ _ _).trans rfl
set_option maxRecDepth 8000 in
theorem s_268_779 : run (d + 1) md_268 779 [vr a0, vr a1, vr a2, vr a3, vi x4, v5, v6] [vi z2, vr b1, vi z0] h = run (d + 1) md_268 780 [vr a0, vr a1, vr a2, vr a3, vi x4, v5, v6] [vr a0, vi z2, vr b1, vi z0] h := (run_step _ _ _ _ _ _).trans rfl
set_option maxRecDepth 8000 in
theorem s_268_780 : run (d + 1) md_268 780 [vr a0, vr a1, vr a2, vr a3, vi x4, v5, v6] [vr b3, vi z2, vr b1, vi z0] h = run (d + 1) md_268 782 [vr a0, vr a1, vr a2, vr a3, vi x4, v5, v6] [vi x4, vr b3, vi z2, vr b1, vi z0] h := (run_step _ _ _ _ _ _).trans rfl
set_option maxRecDepth 8000 in
theorem s_268_782 : run (d + 1) md_268 782 [vr a0, vr a1, vr a2, vr a3, vi x4, v5, v6] [vi z4, vr b3, vi z2, vr b1, vi z0] h = run (d + 1) md_268 783 [vr a0, vr a1, vr a2, vr a3, vi x4, v5, v6] [vi 2, vi z4, vr b3, vi z2, vr b1, vi z0] h := (run_step _ _ _ _ _ _).trans rfl
set_option maxRecDepth 8000 in
theorem s_268_783 : run (d + 1) md_268 783 [vr a0, vr a1, vr a2, vr a3, vi x4, v5, v6] [vi z5, vi z4, vr b3, vi z2, vr b1, vi z0] h = run (d + 1) md_268 784 [vr a0, vr a1, vr a2, vr a3, vi x4, v5, v6] [vi (i_add z4 z5), vr b3, vi z2, vr b1, vi z0] h := (run_step _ _ _ _ _ _).trans rfl
set_option maxRecDepth 8000 in
theorem s_268_784 : run (d + 1) md_268 784 [vr a0, vr a1, vr a2, vr a3, vi x4, v5, v6] [vi z4, vr b3, vi z2, vr b1, vi z0] h = bif (isK h b3 11 || isK h b3 21) && inb h b3 z4 then run (d + 1) md_268 785 [vr a0, vr a1, vr a2, vr a3, vi x4, v5, v6] [vi (h_mi h b3 (z4 : Int).toNat), vi z2, vr b1, vi z0] h else none := (run_step _ _ _ _ _ _).trans rfl
set_option maxRecDepth 20000 in
set_option maxRecDepth 8000 in
theorem s_268_785 : run (d + 1) md_268 785 [vr a0, vr a1, vr a2, vr a3, vi x4, v5, v6] [vi z3, vi z2, vr b1, vi z0] h = bif isK h b1 9 then bI (ev d 226 [vr b1, vi z2, vi z3] h) fun r1 h1 => run (d + 1) md_268 788 [vr a0, vr a1, vr a2, vr a3, vi x4, v5, v6] [vi r1, vi z0] h1 else none := (run_step _ _ _ _ _ _).trans rfl
set_option maxRecDepth 8000 in
theorem s_268_788 : run (d + 1) md_268 788 [vr a0, vr a1, vr a2, vr a3, vi x4, v5, v6] [vi z1, vi z0] h = bif decide (z0 = z1) then run (d + 1) md_268 1498 [vr a0, vr a1, vr a2, vr a3, vi x4, v5, v6] [] h else run (d + 1) md_268 791 [vr a0, vr a1, vr a2, vr a3, vi x4, v5, v6] [] h := (run_step _ _ _ _ _ _).trans rfl
set_option maxRecDepth 8000 in
theorem s_268_791 : run (d + 1) md_268 791 [vr a0, vr a1, vr a2, vr a3, vi x4, v5, v6] [] h = run (d + 1) md_268 792 [vr a0, vr a1, vr a2, vr a3, vi x4, v5, v6] [vi 0] h := (run_step _ _ _ _ _ _).trans rfl
set_option maxRecDepth 8000 in
theorem s_268_792 : run (d + 1) md_268 792 [vr a0, vr a1, vr a2, vr a3, vi x4, v5, v6] [vi z0] h = bif decide (z0 = 0) || decide (z0 = 1) then some (vi z0, h) else none := (run_step _ _ _ _ _ _).trans rfl
set_option maxRecDepth 8000 in
theorem s_268_793 : run (d + 1) md_268 793 [vr a0, vr a1, vr a2, vr a3, vi x4, v5, v6] [] h = run (d + 1) md_268 794 [vr a0, vr a1, vr a2, vr a3, vi x4, v5, v6] [vr a1] h := (run_step _ _ _ _ _ _).trans rfl
set_option maxRecDepth 8000 in
theorem s_268_794 : run (d + 1) md_268 794 [vr a0, vr a1, vr a2, vr a3, vi x4, v5, v6] [vr b0] h = run (d + 1) md_268 795 [vr a0, vr a1, vr a2, vr a3, vi x4, v5, v6] [vr a0, vr b0] h := (run_step _ _ _ _ _ _).trans rfl
set_option maxRecDepth 8000 in
theorem s_268_795 : run (d + 1) md_268 795 [vr a0, vr a1, vr a2, vr a3, vi x4, v5, v6] [vr b1, vr b0] h = run (d + 1) md_268 797 [vr a0, vr a1, vr a2, vr a3, vi x4, v5, v6] [vi x4, vr b1, vr b0] h := (run_step _ _ _ _ _ _).trans rfl
set_option maxRecDepth 8000 in
theorem s_268_797 : run (d + 1) md_268 797 [vr a0, vr a1, vr a2, vr a3, vi x4, v5, v6] [vi z2, vr b1, vr b0] h = run (d + 1) md_268 798 [vr a0, vr a1, vr a2, vr a3, vi x4, v5, v6] [vi 1, vi z2, vr b1, vr b0] h := (run_step _ _ _ _ _ _).trans rfl
set_option maxRecDepth 8000 in
theorem s_268_798 : run (d + 1) md_268 798 [vr a0, vr a1, vr a2, vr a3, vi x4, v5, v6] [vi z3, vi z2, vr b1, vr b0] h = run (d + 1) md_268 799 [vr a0, vr a1, vr a2, vr a3, vi x4, v5, v6] [vi (i_add z2 z3), vr b1, vr b0] h := (run_step _ _ _ _ _ _).trans rfl
set_option maxRecDepth 8000 in
theorem s_268_799 : run (d + 1) md_268 799 [vr a0, vr a1, vr a2, vr a3, vi x4, v5, v6] [vi z2, vr b1, vr b0] h = bif (isK h b1 11 || isK h b1 21) && inb h b1 z2 then run (d + 1) md_268 800 [vr a0, vr a1, vr a2, vr a3, vi x4, v5, v6] [vi (h_mi h b1 (z2 : Int).toNat), vr b0] h else none := (run_step _ _ _ _ _ _).trans rfl
set_option maxRecDepth 8000 in
theorem s_268_800 : run (d + 1) md_268 800 [vr a0, vr a1, vr a2, vr a3, vi x4, v5, v6] [vi z1, vr b0] h = run (d + 1) md_268 801 [vr a0, vr a1, vr a2, vr a3, vi x4, v5, v6] [vr a0, vi z1, vr b0] h := (run_step _ _ _ _ _ _).trans rfl
set_option maxRecDepth 8000 in
theorem s_268_801 : run (d + 1) md_268 801 [vr a0, vr a1, vr a2, vr a3, vi x4, v5, v6] [vr b2, vi z1, vr b0] h = run (d + 1) md_268 803 [vr a0, vr a1, vr a2, vr a3, vi x4, v5, v6] [vi x4, vr b2, vi z1, vr b0] h := (run_step _ _ _ _ _ _).trans rfl
set_option maxRecDepth 8000 in
theorem s_268_803 : run (d + 1) md_268 803 [vr a0, vr a1, vr a2, vr a3, vi x4, v5, v6] [vi z3, vr b2, vi z1, vr b0] h = run (d + 1) md_268 804 [vr a0, vr a1, vr a2, vr a3, vi x4, v5, v6] [vi 2, vi z3, vr b2, vi z1, vr b0] h := (run_step _ _ _ _ _ _).trans rfl
set_option maxRecDepth 8000 in
theorem s_268_804 : run (d + 1) md_268 804 [vr a0, vr a1, vr a2, vr a3, vi x4, v5, v6] [vi z4, vi z3, vr b2, vi z1, vr b0] h = run (d + 1) md_268 805 [vr a0, vr a1, vr a2, vr a3, vi x4, v5, v6] [vi (i_add z3 z4), vr b2, vi z1, vr b0] h := (run_step _ _ _ _ _ _).trans rfl
set_option maxRecDepth 8000 in
theorem s_268_805 : run (d + 1) md_268 805 [vr a0, vr a1, vr a2, vr a3, vi x4, v5, v6] [vi z3, vr b2, vi z1, vr b0] h = bif (isK h b2 11 || isK h b2 21) && inb h b2 z3 then run (d + 1) md_268 806 [vr a0, vr a1, vr a2, vr a3, vi x4, v5, v6] [vi (h_mi h b2 (z3 : Int).toNat), vi z1, vr b0] h else none := (run_step _ _ _ _ _ _).trans rfl
set_option maxRecDepth 20000 in
set_option maxRecDepth 8000 in
theorem s_268_806 : run (d + 1) md_268 806 [vr a0, vr a1, vr a2, vr a3, vi x4, v5, v6] [vi z2, vi z1, vr b0] h = bif isK h b0 8 then bI (ev d 125 [vr b0, vi z1, vi z2] h) fun r1 h1 => run (d + 1) md_268 809 [vr a0, vr a1, vr a2, vr a3, vi x4, v5, v6] [vi r1] h1 else none := (run_step _ _ _ _ _ _).trans rfl
set_option maxRecDepth 8000 in
theorem s_268_809 : run (d + 1) md_268 809 [vr a0, vr a1, vr a2, vr a3, vi x4, v5, v6] [vi z0] h = run (d + 1) md_268 810 [vr a0, vr a1, vr a2, vr a3, vi x4, v5, v6] [vr a2, vi z0] h := (run_step _ _ _ _ _ _).trans rfl
set_option maxRecDepth 8000 in
theorem s_268_810 : run (d + 1) md_268 810 [vr a0, vr a1, vr a2, vr a3, vi x4, v5, v6] [vr b1, vi z0] h = run (d + 1) md_268 811 [vr a0, vr a1, vr a2, vr a3, vi x4, v5, v6] [vr a0, vr b1, vi z0] h := (run_step _ _ _ _ _ _).trans rfl
set_option maxRecDepth 8000 in
theorem s_268_811 : run (d + 1) md_268 811 [vr a0, vr a1, vr a2, vr a3, vi x4, v5, v6] [vr b2, vr b1, vi z0] h = run (d + 1) md_268 813 [vr a0, vr a1, vr a2, vr a3, vi x4, v5, v6] [vi x4, vr b2, vr b1, vi z0] h := (run_step _ _ _ _ _ _).trans rfl
set_option maxRecDepth 8000 in
theorem s_268_813 : run (d + 1) md_268 813 [vr a0, vr a1, vr a2, vr a3, vi x4, v5, v6] [vi z3, vr b2, vr b1, vi z0] h = run (d + 1) md_268 814 [vr a0, vr a1, vr a2, vr a3, vi x4, v5, v6] [vi 1, vi z3, vr b2, vr b1, vi z0] h := (run_step _ _ _ _ _ _).trans rfl
set_option maxRecDepth 8000 in
theorem s_268_814 : run (d + 1) md_268 814 [vr a0, vr a1, vr a2, vr a3, vi x4, v5, v6] [vi z4, vi z3, vr b2, vr b1, vi z0] h = run (d + 1) md_268 815 [vr a0, vr a1, vr a2, vr a3, vi x4, v5, v6] [vi (i_add z3 z4), vr b2, vr b1, vi z0] h := (run_step _ _ _ _ _ _).trans rfl
set_option maxRecDepth 8000 in
theorem s_268_815 : run (d + 1) md_268 815 [vr a0, vr a1, vr a2, vr a3, vi x4, v5, v6] [vi z3, vr b2, vr b1, vi z0] h = bif (isK h b2 11 || isK h b2 21) && inb h b2 z3 then run (d + 1) md_268 816 [vr a0, vr a1, vr a2, vr a3, vi x4, v5, v6] [vi (h_mi h b2 (z3 : Int).toNat), vr b1, vi z0] h else none := (run_step _ _ _ _ _ _).trans rfl
set_option maxRecDepth 8000 in
theorem s_268_816 : run (d + 1) md_268 816 [vr a0, vr a1, vr a2, vr a3, vi x4, v5, v6] [vi z2, vr b1, vi z0] h = run (d + 1) md_268 817 [vr a0, vr a1, vr a2, vr a3, vi x4, v5, v6] [vr a0, vi z2, vr b1, vi z0] h := (run_step _ _ _ _ _ _).trans rfl
set_option maxRecDepth 8000 in
theorem s_268_817 : run (d + 1) md_268 817 [vr a0, vr a1, vr a2, vr a3, vi x4, v5, v6] [vr b3, vi z2, vr b1, vi z0] h = run (d + 1) md_268 819 [vr a0, vr a1, vr a2, vr a3, vi x4, v5, v6] [vi x4, vr b3, vi z2, vr b1, vi z0] h := (run_step _ _ _ _ _ _).trans rfl
set_option maxRecDepth 8000 in
theorem s_268_819 : run (d + 1) md_268 819 [vr a0, vr a1, vr a2, vr a3, vi x4, v5, v6] [vi z4, vr b3, vi z2, vr b1, vi z0] h = run (d + 1) md_268 820 [vr a0, vr a1, vr a2, vr a3, vi x4, v5, v6] [vi 2, vi z4, vr b3, vi z2, vr b1, vi z0] h := (run_step _ _ _ _ _ _).trans rfl
set_option maxRecDepth 8000 in
theorem s_268_820 : run (d + 1) md_268 820 [vr a0, vr a1, vr a2, vr a3, vi x4, v5, v6] [vi z5, vi z4, vr b3, vi z2, vr b1, vi z0] h = run (d + 1) md_268 821 [vr a0, vr a1, vr a2, vr a3, vi x4, v5, v6] [vi (i_add z4 z5), vr b3, vi z2, vr b1, vi z0] h := (run_step _ _ _ _ _ _).trans rfl
set_option maxRecDepth 8000 in
theorem s_268_821 : run (d + 1) md_268 821 [vr a0, vr a1, vr a2, vr a3, vi x4, v5, v6] [vi z4, vr b3, vi z2, vr b1, vi z0] h = bif (isK h b3 11 || isK h b3 21) && inb h b3 z4 then run (d + 1) md_268 822 [vr a0, vr a1, vr a2, vr a3, vi x4, v5, v6] [vi (h_mi h b3 (z4 : Int).toNat), vi z2, vr b1, vi z0] h else none := (run_step _ _ _ _ _ _).trans rfl
set_option maxRecDepth 20000 in
set_option maxRecDepth 8000 in
theorem s_268_822 : run (d + 1) md_268 822 [vr a0, vr a1, vr a2, vr a3, vi x4, v5, v6] [vi z3, vi z2, vr b1, vi z0] h = bif isK h b1 9 then bI (ev d 229 [vr b1, vi z2, vi z3] h) fun r1 h1 => run (d + 1) md_268 825 [vr a0, vr a1, vr a2, vr a3, vi x4, v5, v6] [vi r1, vi z0] h1 else none := (run_step _ _ _ _ _ _).trans rfl
set_option maxRecDepth 8000 in
theorem s_268_825 : run (d + 1) md_268 825 [vr a0, vr a1, vr a2, vr a3, vi x4, v5, v6] [vi z1, vi z0] h = bif decide (z0 = z1) then run (d + 1) md_268 1498 [vr a0, vr a1, vr a2, vr a3, vi x4, v5, v6] [] h else run (d + 1) md_268 828 [vr a0, vr a1, vr a2, vr a3, vi x4, v5, v6] [] h := (run_step _ _ _ _ _ _).trans rfl
set_option maxRecDepth 8000 in
theorem s_268_828 : run (d + 1) md_268 828 [vr a0, vr a1, vr a2, vr a3, vi x4, v5, v6] [] h = run (d + 1) md_268 829 [vr a0, vr a1, vr a2, vr a3, vi x4, v5, v6] [vi 0] h := (run_step _ _ _ _ _ _).trans rfl
set_option maxRecDepth 8000 in
theorem s_268_829 : run (d + 1) md_268 829 [vr a0, vr a1, vr a2, vr a3, vi x4, v5, v6] [vi z0] h = bif decide (z0 = 0) || decide (z0 = 1) then some (vi z0, h) else none := (run_step _ _ _ _ _ _).trans rfl
set_option maxRecDepth 8000 in
theorem s_268_830 : run (d + 1) md_268 830 [vr a0, vr a1, vr a2, vr a3, vi x4, v5, v6] [] h = run (d + 1) md_268 831 [vr a0, vr a1, vr a2, vr a3, vi x4, v5, v6] [vr a1] h := (run_step _ _ _ _ _ _).trans rfl
set_option maxRecDepth 8000 in
theorem s_268_831 : run (d + 1) md_268 831 [vr a0, vr a1, vr a2, vr a3, vi x4, v5, v6] [vr b0] h = run (d + 1) md_268 832 [vr a0, vr a1, vr a2, vr a3, vi x4, v5, v6] [vr a0, vr b0] h := (run_step _ _ _ _ _ _).trans rfl
set_option maxRecDepth 8000 in
theorem s_268_832 : run (d + 1) md_268 832 [vr a0, vr a1, vr a2, vr a3, vi x4, v5, v6] [vr b1, vr b0] h = run (d + 1) md_268 834 [vr a0, vr a1, vr a2, vr a3, vi x4, v5, v6] [vi x4, vr b1, vr b0] h := (run_step _ _ _ _ _ _).trans rfl
set_option maxRecDepth 8000 in
theorem s_268_834 : run (d + 1) md_268 834 [vr a0, vr a1, vr a2, vr a3, vi x4, v5, v6] [vi z2, vr b1, vr b0] h = run (d + 1) md_268 835 [vr a0, vr a1, vr a2, vr a3, vi x4, v5, v6] [vi 1, vi z2, vr b1, vr b0] h := (run_step _ _ _ _ _ _).trans rfl
set_option maxRecDepth 8000 in
theorem s_268_835 : run (d + 1) md_268 835 [vr a0, vr a1, vr a2, vr a3, vi x4, v5, v6] [vi z3, vi z2, vr b1, vr b0] h = run (d + 1) md_268 836 [vr a0, vr a1, vr a2, vr a3, vi x4, v5, v6] [vi (i_add z2 z3), vr b1, vr b0] h := (run_step _ _ _ _ _ _).trans rfl
set_option maxRecDepth 8000 in
theorem s_268_836 : run (d + 1) md_268 836 [vr a0, vr a1, vr a2, vr a3, vi x4, v5, v6] [vi z2, vr b1, vr b0] h = bif (isK h b1 11 || isK h b1 21) && inb h b1 z2 then run (d + 1) md_268 837 [vr a0, vr a1, vr a2, vr a3, vi x4, v5, v6] [vi (h_mi h b1 (z2 : Int).toNat), vr b0] h else none := (run_step _ _ _ _ _ _).trans rfl
set_option maxRecDepth 8000 in
theorem s_268_837 : run (d + 1) md_268 837 [vr a0, vr a1, vr a2, vr a3, vi x4, v5, v6] [vi z1, vr b0] h = run (d + 1) md_268 838 [vr a0, vr a1, vr a2, vr a3, vi x4, v5, v6] [vr a0, vi z1, vr b0] h := (run_step _ _ _ _ _ _).trans rfl
set_option maxRecDepth 8000 in
theorem s_268_838 : run (d + 1) md_268 838 [vr a0, vr a1, vr a2, vr a3, vi x4, v5, v6] [vr b2, vi z1, vr b0] h = run (d + 1) md_268 840 [vr a0, vr a1, vr a2, vr a3, vi x4, v5, v6] [vi x4, vr b2, vi z1, vr b0] h := (run_step _ _ _ _ _ _).trans rfl
set_option maxRecDepth 8000 in
theorem s_268_840 : run (d + 1) md_268 840 [vr a0, vr a1, vr a2, vr a3, vi x4, v5, v6] [vi z3, vr b2, vi z1, vr b0] h = run (d + 1) md_268 841 [vr a0, vr a1, vr a2, vr a3, vi x4, v5, v6] [vi 2, vi z3, vr b2, vi z1, vr b0] h := (run_step _ _ _ _ _ _).trans rfl
set_option maxRecDepth 8000 in
theorem s_268_841 : run (d + 1) md_268 841 [vr a0, vr a1, vr a2, vr a3, vi x4, v5, v6] [vi z4, vi z3, vr b2, vi z1, vr b0] h = run (d + 1) md_268 842 [vr a0, vr a1, vr a2, vr a3, vi x4, v5, v6] [vi (i_add z3 z4), vr b2, vi z1, vr b0] h := (run_step _ _ _ _ _ _).trans rfl
set_option maxRecDepth 8000 in
theorem s_268_842 : run (d + 1) md_268 842 [vr a0, vr a1, vr a2, vr a3, vi x4, v5, v6] [vi z3, vr b2, vi z1, vr b0] h = bif (isK h b2 11 || isK h b2 21) && inb h b2 z3 then run (d + 1) md_268 843 [vr a0, vr a1, vr a2, vr a3, vi x4, v5, v6] [vi (h_mi h b2 (z3 : Int).toNat), vi z1, vr b0] h else none := (run_step _ _ _ _ _ _).trans rfl
set_option maxRecDepth 8000 in
theorem s_268_843 : run (d + 1) md_268 843 [vr a0, vr a1, vr a2, vr a3, vi x4, v5, v6] [vi z2, vi z1, vr b0] h = run (d + 1) md_268 844 [vr a0, vr a1, vr a2, vr a3, vi x4, v5, v6] [vr a0, vi z2, vi z1, vr b0] h := (run_step _ _ _ _ _ _).trans rfl
set_option maxRecDepth 8000 in
theorem s_268_844 : run (d + 1) md_268 844 [vr a0, vr a1, vr a2, vr a3, vi x4, v5, v6] [vr b3, vi z2, vi z1, vr b0] h = run (d + 1) md_268 846 [vr a0, vr a1, vr a2, vr a3, vi x4, v5, v6] [vi x4, vr b3, vi z2, vi z1, vr b0] h := (run_step _ _ _ _ _ _).trans rfl
set_option maxRecDepth 8000 in
theorem s_268_846 : run (d + 1) md_268 846 [vr a0, vr a1, vr a2, vr a3, vi x4, v5, v6] [vi z4, vr b3, vi z2, vi z1, vr b0] h = run (d + 1) md_268 847 [vr a0, vr a1, vr a2, vr a3, vi x4, v5, v6] [vi 3, vi z4, vr b3, vi z2, vi z1, vr b0] h := (run_step _ _ _ _ _ _).trans rfl
set_option maxRecDepth 8000 in
theorem s_268_847 : run (d + 1) md_268 847 [vr a0, vr a1, vr a2, vr a3, vi x4, v5, v6] [vi z5, vi z4, vr b3, vi z2, vi z1, vr b0] h = run (d + 1) md_268 848 [vr a0, vr a1, vr a2, vr a3, vi x4, v5, v6] [vi (i_add z4 z5), vr b3, vi z2, vi z1, vr b0] h := (run_step _ _ _ _ _ _).trans rfl
set_option maxRecDepth 8000 in
theorem s_268_848 : run (d + 1) md_268 848 [vr a0, vr a1, vr a2, vr a3, vi x4, v5, v6] [vi z4, vr b3, vi z2, vi z1, vr b0] h = bif (isK h b3 11 || isK h b3 21) && inb h b3 z4 then run (d + 1) md_268 849 [vr a0, vr a1, vr a2, vr a3, vi x4, v5, v6] [vi (h_mi h b3 (z4 : Int).toNat), vi z2, vi z1, vr b0] h else none := (run_step _ _ _ _ _ _).trans rfl
set_option maxRecDepth 8000 in
theorem s_268_849 : run (d + 1) md_268 849 [vr a0, vr a1, vr a2, vr a3, vi x4, v5, v6] [vi z3, vi z2, vi z1, vr b0] h = run (d + 1) md_268 850 [vr a0, vr a1, vr a2, vr a3, vi x4, v5, v6] [vr a0, vi z3, vi z2, vi z1, vr b0] h := (run_step _ _ _ _ _ _).trans rfl
set_option maxRecDepth 8000 in
theorem s_268_850 : run (d + 1) md_268 850 [vr a0, vr a1, vr a2, vr a3, vi x4, v5, v6] [vr b4, vi z3, vi z2, vi z1, vr b0] h = run (d + 1) md_268 852 [vr a0, vr a1, vr a2, vr a3, vi x4, v5, v6] [vi x4, vr b4, vi z3, vi z2, vi z1, vr b0] h := (run_step _ _ _ _ _ _).trans rfl
set_option maxRecDepth 8000 in
theorem s_268_852 : run (d + 1) md_268 852 [vr a0, vr a1, vr a2, vr a3, vi x4, v5, v6] [vi z5, vr b4, vi z3, vi z2, vi z1, vr b0] h = run (d + 1) md_268 853 [vr a0, vr a1, vr a2, vr a3, vi x4, v5, v6] [vi 4, vi z5, vr b4, vi z3, vi z2, vi z1, vr b0] h := (run_step _ _ _ _ _ _).trans rfl
set_option maxRecDepth 8000 in
theorem s_268_853 : run (d + 1) md_268 853 [vr a0, vr a1, vr a2, vr a3, vi x4, v5, v6] [vi z6, vi z5, vr b4, vi z3, vi z2, vi z1, vr b0] h = run (d + 1) md_268 854 [vr a0, vr a1, vr a2, vr a3, vi x4, v5, v6] [vi (i_add z5 z6), vr b4, vi z3, vi z2, vi z1, vr b0] h := (run_step _ _ _ _ _ _).trans rfl
set_option maxRecDepth 8000 in
theorem s_268_854 : run (d + 1) md_268 854 [vr a0, vr a1, vr a2, vr a3, vi x4, v5, v6] [vi z5, vr b4, vi z3, vi z2, vi z1, vr b0] h = bif (isK h b4 11 || isK h b4 21) && inb h b4 z5 then run (d + 1) md_268 855 [vr a0, vr a1, vr a2, vr a3, vi x4, v5, v6] [vi (h_mi h b4 (z5 : Int).toNat), vi z3, vi z2, vi z1, vr b0] h else none := (run_step _ _ _ _ _ _).trans rfl
set_option maxRecDepth 20000 in
set_option maxRecDepth 8000 in
theorem s_268_855 : run (d + 1) md_268 855 [vr a0, vr a1, vr a2, vr a3, vi x4, v5, v6] [vi z4, vi z3, vi z2, vi z1, vr b0] h = bif isK h b0 8 then bI (ev d 126 [vr b0, vi z1, vi z2, vi z3, vi z4] h) fun r1 h1 => run (d + 1) md_268 858 [vr a0, vr a1, vr a2, vr a3, vi x4, v5, v6] [vi r1] h1 else none := (run_step _ _ _ _ _ _).trans rfl
set_option maxRecDepth 8000 in
theorem s_268_858 : run (d + 1) md_268 858 [vr a0, vr a1, vr a2, vr a3, vi x4, v5, v6] [vi z0] h = run (d + 1) md_268 859 [vr a0, vr a1, vr a2, vr a3, vi x4, v5, v6] [vr a2, vi z0] h := (run_step _ _ _ _ _ _).trans rfl
set_option maxRecDepth 8000 in
theorem s_268_859 : run (d + 1) md_268 859 [vr a0, vr a1, vr a2, vr a3, vi x4, v5, v6] [vr b1, vi z0] h = run (d + 1) md_268 860 [vr a0, vr a1, vr a2, vr a3, vi x4, v5, v6] [vr a0, vr b1, vi z0] h := (run_step _ _ _ _ _ _).trans rfl
set_option maxRecDepth 8000 in
theorem s_268_860 : run (d + 1) md_268 860 [vr a0, vr a1, vr a2, vr a3, vi x4, v5, v6] [vr b2, vr b1, vi z0] h = run (d + 1) md_268 862 [vr a0, vr a1, vr a2, vr a3, vi x4, v5, v6] [vi x4, vr b2, vr b1, vi z0] h := (run_step _ _ _ _ _ _).trans rfl
set_option maxRecDepth 8000 in
theorem s_268_862 : run (d + 1) md_268 862 [vr a0, vr a1, vr a2, vr a3, vi x4, v5, v6] [vi z3, vr b2, vr b1, vi z0] h = run (d + 1) md_268 863 [vr a0, vr a1, vr a2, vr a3, vi x4, v5, v6] [vi 1, vi z3, vr b2, vr b1, vi z0] h := (run_step _ _ _ _ _ _).trans rfl
set_option maxRecDepth 8000 in
theorem s_268_863 : run (d + 1) md_268 863 [vr a0, vr a1, vr a2, vr a3, vi x4, v5, v6] [vi z4, vi z3, vr b2, vr b1, vi z0] h = run (d + 1) md_268 864 [vr a0, vr a1, vr a2, vr a3, vi x4, v5, v6] [vi (i_add z3 z4), vr b2, vr b1, vi z0] h := (run_step _ _ _ _ _ _).trans rfl
set_option maxRecDepth 8000 in
theorem s_268_864 : run (d + 1) md_268 864 [vr a0, vr a1, vr a2, vr a3, vi x4, v5, v6] [vi z3, vr b2, vr b1, vi z0] h = bif (isK h b2 11 || isK h b2 21) && inb h b2 z3 then run (d + 1) md_268 865 [vr a0, vr a1, vr a2, vr a3, vi x4, v5, v6] [vi (h_mi h b2 (z3 : Int).toNat), vr b1, vi z0] h else none := (run_step _ _ _ _ _ _).trans rfl
set_option maxRecDepth 8000 in
theorem s_268_865 : run (d + 1) md_268 865 [vr a0, vr a1, vr a2, vr a3, vi x4, v5, v6] [vi z2, vr b1, vi z0] h = run (d + 1) md_268 866 [vr a0, vr a1, vr a2, vr a3, vi x4, v5, v6] [vr a0, vi z2, vr b1, vi z0] h := (run_step _ _ _ _ _ _).trans rfl
set_option maxRecDepth 8000 in
theorem s_268_866 : run (d + 1) md_268 866 [vr a0, vr a1, vr a2, vr a3, vi x4, v5, v6] [vr b3, vi z2, vr b1, vi z0] h = run (d + 1) md_268 868 [vr a0, vr a1, vr a2, vr a3, vi x4, v5, v6] [vi x4, vr b3, vi z2, vr b1, vi z0] h := (run_step _ _ _ _ _ _).trans rfl
set_option maxRecDepth 8000 in
theorem s_268_868 : run (d + 1) md_268 868 [vr a0, vr a1, vr a2, vr a3, vi x4, v5, v6] [vi z4, vr b3, vi z2, vr b1, vi z0] h = run (d + 1) md_268 869 [vr a0, vr a1, vr a2, vr a3, vi x4, v5, v6] [vi 2, vi z4, vr b3, vi z2, vr b1, vi z0] h := (run_step _ _ _ _ _ _).trans rfl
set_option maxRecDepth 8000 in
theorem s_268_869 : run (d + 1) md_268 869 [vr a0, vr a1, vr a2, vr a3, vi x4, v5, v6] [vi z5, vi z4, vr b3, vi z2, vr b1, vi z0] h = run (d + 1) md_268 870 [vr a0, vr a1, vr a2, vr a3, vi x4, v5, v6] [vi (i_add z4 z5), vr b3, vi z2, vr b1, vi z0] h := (run_step _ _ _ _ _ _).trans rfl
set_option maxRecDepth 8000 in
theorem s_268_870 : run (d + 1) md_268 870 [vr a0, vr a1, vr a2, vr a3, vi x4, v5, v6] [vi z4, vr b3, vi z2, vr b1, vi z0] h = bif (isK h b3 11 || isK h b3 21) && inb h b3 z4 then run (d + 1) md_268 871 [vr a0, vr a1, vr a2, vr a3, vi x4, v5, v6] [vi (h_mi h b3 (z4 : Int).toNat), vi z2, vr b1, vi z0] h else none := (run_step _ _ _ _ _ _).trans rfl
set_option maxRecDepth 8000 in
theorem s_268_871 : run (d + 1) md_268 871 [vr a0, vr a1, vr a2, vr a3, vi x4, v5, v6] [vi z3, vi z2, vr b1, vi z0] h = run (d + 1) md_268 872 [vr a0, vr a1, vr a2, vr a3, vi x4, v5, v6] [vr a0, vi z3, vi z2, vr b1, vi z0] h := (run_step _ _ _ _ _ _).trans rfl
set_option maxRecDepth 8000 in
theorem s_268_872 : run (d + 1) md_268 872 [vr a0, vr a1, vr a2, vr a3, vi x4, v5, v6] [vr b4, vi z3, vi z2, vr b1, vi z0] h = run (d + 1) md_268 874 [vr a0, vr a1, vr a2, vr a3, vi x4, v5, v6] [vi x4, vr b4, vi z3, vi z2, vr b1, vi z0] h := (run_step _ _ _ _ _ _).trans rfl
set_option maxRecDepth 8000 in
theorem s_268_874 : run (d + 1) md_268 874 [vr a0, vr a1, vr a2, vr a3, vi x4, v5, v6] [vi z5, vr b4, vi z3, vi z2, vr b1, vi z0] h = run (d + 1) md_268 875 [vr a0, vr a1, vr a2, vr a3, vi x4, v5, v6] [vi 3, vi z5, vr b4, vi z3, vi z2, vr b1, vi z0] h := (run_step _ _ _ _ _ _).trans rfl
set_option maxRecDepth 8000 in
theorem s_268_875 : run (d + 1) md_268 875 [vr a0, vr a1, vr a2, vr a3, vi x4, v5, v6] [vi z6, vi z5, vr b4, vi z3, vi z2, vr b1, vi z0] h = run (d + 1) md_268 876 [vr a0, vr a1, vr a2, vr a3, vi x4, v5, v6] [vi (i_add z5 z6), vr b4, vi z3, vi z2, vr b1, vi z0] h := (run_step _ _ _ _ _ _).trans rfl
set_option maxRecDepth 8000 in
theorem s_268_876 : run (d + 1) md_268 876 [vr a0, vr a1, vr a2, vr a3, vi x4, v5, v6] [vi z5, vr b4, vi z3, vi z2, vr b1, vi z0] h = bif (isK h b4 11 || isK h b4 21) && inb h b4 z5 then run (d + 1) md_268 877 [vr a0, vr a1, vr a2, vr a3, vi x4, v5, v6] [vi (h_mi h b4 (z5 : Int).toNat), vi z3, vi z2, vr b1, vi z0] h else none := (run_step _ _ _ _ _ _).trans rfl
set_option maxRecDepth 8000 in
theorem s_268_877 : run (d + 1) md_268 877 [vr a0, vr a1, vr a2, vr a3, vi x4, v5, v6] [vi z4, vi z3, vi z2, vr b1, vi z0] h = run (d + 1) md_268 878 [vr a0, vr a1, vr a2, vr a3, vi x4, v5, v6] [vr a0, vi z4, vi z3, vi z2, vr b1, vi z0] h := (run_step _ _ _ _ _ _).trans rfl
set_option maxRecDepth 8000 in
theorem s_268_878 : run (d + 1) md_268 878 [vr a0, vr a1, vr a2, vr a3, vi x4, v5, v6] [vr b5, vi z4, vi z3, vi z2, vr b1, vi z0] h = run (d + 1) md_268 880 [vr a0, vr a1, vr a2, vr a3, vi x4, v5, v6] [vi x4, vr b5, vi z4, vi z3, vi z2, vr b1, vi z0] h := (run_step _ _ _ _ _ _).trans rfl
set_option maxRecDepth 8000 in
theorem s_268_880 : run (d + 1) md_268 880 [vr a0, vr a1, vr a2, vr a3, vi x4, v5, v6] [vi z6, vr b5, vi z4, vi z3, vi z2, vr b1, vi z0] h = run (d + 1) md_268 881 [vr a0, vr a1, vr a2, vr a3, vi x4, v5, v6] [vi 4, vi z6, vr b5, vi z4, vi z3, vi z2, vr b1, vi z0] h := (run_step _ _ _ _ _ _).trans rfl
set_option maxRecDepth 8000 in
theorem s_268_881 : run (d + 1) md_268 881 [vr a0, vr a1, vr a2, vr a3, vi x4, v5, v6] [vi z7, vi z6, vr b5, vi z4, vi z3, vi z2, vr b1, vi z0] h = run (d + 1) md_268 882 [vr a0, vr a1, vr a2, vr a3, vi x4, v5, v6] [vi (i_add z6 z7), vr b5, vi z4, vi z3, vi z2, vr b1, vi z0] h := (run_step _ _ _ _ _ _).trans rfl
set_option maxRecDepth 8000 in
theorem s_268_882 : run (d + 1) md_268 882 [vr a0, vr a1, vr a2, vr a3, vi x4, v5, v6] [vi z6, vr b5, vi z4, vi z3, vi z2, vr b1, vi z0] h = bif (isK h b5 11 || isK h b5 21) && inb h b5 z6 then run (d + 1) md_268 883 [vr a0, vr a1, vr a2, vr a3, vi x4, v5, v6] [vi (h_mi h b5 (z6 : Int).toNat), vi z4, vi z3, vi z2, vr b1, vi z0] h else none := (run_step _ _ _ _ _ _).trans rfl
set_option maxRecDepth 20000 in
set_option maxRecDepth 8000 in
theorem s_268_883 : run (d + 1) md_268 883 [vr a0, vr a1, vr a2, vr a3, vi x4, v5, v6] [vi z5, vi z4, vi z3, vi z2, vr b1, vi z0] h = bif isK h b1 9 then bI (ev d 234 [vr b1, vi z2, vi z3, vi z4, vi z5] h) fun r1 h1 => run (d + 1) md_268 886 [vr a0, vr a1, vr a2, vr a3, vi x4, v5, v6] [vi r1, vi z0] h1 else none := (run_step _ _ _ _ _ _).trans rfl
set_option maxRecDepth 8000 in
theorem s_268_886 : run (d + 1) md_268 886 [vr a0, vr a1, vr a2, vr a3, vi x4, v5, v6] [vi z1, vi z0] h = bif decide (z0 = z1) then run (d + 1) md_268 1498 [vr a0, vr a1, vr a2, vr a3, vi x4, v5, v6] [] h else run (d + 1) md_268 889 [vr a0, vr a1, vr a2, vr a3, vi x4, v5, v6] [] h := (run_step _ _ _ _ _ _).trans rfl
set_option maxRecDepth 8000 in
theorem s_268_889 : run (d + 1) md_268 889 [vr a0, vr a1, vr a2, vr a3, vi x4, v5, v6] [] h = run (d + 1) md_268 890 [vr a0, vr a1, vr a2, vr a3, vi x4, v5, v6] [vi 0] h := (run_step _ _ _ _ _ _).trans rfl
set_option maxRecDepth 8000 in
theorem s_268_890 : run (d + 1) md_268 890 [vr a0, vr a1, vr a2, vr a3, vi x4, v5, v6] [vi z0] h = bif decide (z0 = 0) || decide (z0 = 1) then some (vi z0, h) else none := (run_step _ _ _ _ _ _).trans rfl
set_option maxRecDepth 8000 in
theorem s_268_891 : run (d + 1) md_268 891 [vr a0, vr a1, vr a2, vr a3, vi x4, v5, v6] [] h = run (d + 1) md_268 892 [vr a0, vr a1, vr a2, vr a3, vi x4, v5, v6] [vr a1] h := (run_step _ _ _ _ _ _).trans rfl
set_option maxRecDepth 8000 in
theorem s_268_892 : run (d + 1) md_268 892 [vr a0, vr a1, vr a2, vr a3, vi x4, v5, v6] [vr b0] h = run (d + 1) md_268 893 [vr a0, vr a1, vr a2, vr a3, vi x4, v5, v6] [vr a0, vr b0] h := (run_step _ _ _ _ _ _).trans rfl
set_option maxRecDepth 8000 in
theorem s_268_893 : run (d + 1) md_268 893 [vr a0, vr a1, vr a2, vr a3, vi x4, v5, v6] [vr b1, vr b0] h = run (d + 1) md_268 895 [vr a0, vr a1, vr a2, vr a3, vi x4, v5, v6] [vi x4, vr b1, vr b0] h := (run_step _ _ _ _ _ _).trans rfl
set_option maxRecDepth 8000 in
theorem s_268_895 : run (d + 1) md_268 895 [vr a0, vr a1, vr a2, vr a3, vi x4, v5, v6] [vi z2, vr b1, vr b0] h = run (d + 1) md_268 896 [vr a0, vr a1, vr a2, vr a3, vi x4, v5, v6] [vi 1, vi z2, vr b1, vr b0] h := (run_step _ _ _ _ _ _).trans rfl
set_option maxRecDepth 8000 in
theorem s_268_896 : run (d + 1) md_268 896 [vr a0, vr a1, vr a2, vr a3, vi x4, v5, v6] [vi z3, vi z2, vr b1, vr b0] h = run (d + 1) md_268 897 [vr a0, vr a1, vr a2, vr a3, vi x4, v5, v6] [vi (i_add z2 z3), vr b1, vr b0] h := (run_step _ _ _ _ _ _).trans rfl
set_option maxRecDepth 8000 in
theorem s_268_897 : run (d + 1) md_268 897 [vr a0, vr a1, vr a2, vr a3, vi x4, v5, v6] [vi z2, vr b1, vr b0] h = bif (isK h b1 11 || isK h b1 21) && inb h b1 z2 then run (d + 1) md_268 898 [vr a0, vr a1, vr a2, vr a3, vi x4, v5, v6] [vi (h_mi h b1 (z2 : Int).toNat), vr b0] h else none := (run_step _ _ _ _ _ _).trans rfl
set_option maxRecDepth 8000 in
theorem s_268_898 : run (d + 1) md_268 898 [vr a0, vr a1, vr a2, vr a3, vi x4, v5, v6] [vi z1, vr b0] h = run (d + 1) md_268 899 [vr a0, vr a1, vr a2, vr a3, vi x4, v5, v6] [vr a0, vi z1, vr b0] h := (run_step _ _ _ _ _ _).trans rfl
set_option maxRecDepth 8000 in
theorem s_268_899 : run (d + 1) md_268 899 [vr a0, vr a1, vr a2, vr a3, vi x4, v5, v6] [vr b2, vi z1, vr b0] h = run (d + 1) md_268 901 [vr a0, vr a1, vr a2, vr a3, vi x4, v5, v6] [vi x4, vr b2, vi z1, vr b0] h := (run_step _ _ _ _ _ _).trans rfl
set_option maxRecDepth 8000 in
theorem s_268_901 : run (d + 1) md_268 901 [vr a0, vr a1, vr a2, vr a3, vi x4, v5, v6] [vi z3, vr b2, vi z1, vr b0] h = run (d + 1) md_268 902 [vr a0, vr a1, vr a2, vr a3, vi x4, v5, v6] [vi 2, vi z3, vr b2, vi z1, vr b0] h := (run_step _ _ _ _ _ _).trans rfl
set_option maxRecDepth 8000 in
theorem s_268_902 : run (d + 1) md_268 902 [vr a0, vr a1, vr a2, vr a3, vi x4, v5, v6] [vi z4, vi z3, vr b2, vi z1, vr b0] h = run (d + 1) md_268 903 [vr a0, vr a1, vr a2, vr a3, vi x4, v5, v6] [vi (i_add z3 z4), vr b2, vi z1, vr b0] h := (run_step _ _ _ _ _ _).trans rfl
set_option maxRecDepth 8000 in
theorem s_268_903 : run (d + 1) md_268 903 [vr a0, vr a1, vr a2, vr a3, vi x4, v5, v6] [vi z3, vr b2, vi z1, vr b0] h = bif (isK h b2 11 || isK h b2 21) && inb h b2 z3 then run (d + 1) md_268 904 [vr a0, vr a1, vr a2, vr a3, vi x4, v5, v6] [vi (h_mi h b2 (z3 : Int).toNat), vi z1, vr b0] h else none := (run_step _ _ _ _ _ _).trans rfl
set_option maxRecDepth 20000 in
set_option maxRecDepth 8000 in
theorem s_268_904 : run (d + 1) md_268 904 [vr a0, vr a1, vr a2, vr a3, vi x4, v5, v6] [vi z2, vi z1, vr b0] h = bif isK h b0 8 then bI (ev d 127 [vr b0, vi z1, vi z2] h) fun r1 h1 => run (d + 1) md_268 907 [vr a0, vr a1, vr a2, vr a3, vi x4, v5, v6] [vi r1] h1 else none := (run_step _ _ _ _ _ _).trans rfl
set_option maxRecDepth 8000 in
theorem s_268_907 : run (d + 1) md_268 907 [vr a0, vr a1, vr a2, vr a3, vi x4, v5, v6] [vi z0] h = run (d + 1) md_268 908 [vr a0, vr a1, vr a2, vr a3, vi x4, v5, v6] [vr a2, vi z0] h := (run_step _ _ _ _ _ _).trans rfl
set_option maxRecDepth 8000 in
theorem s_268_908 : run (d + 1) md_268 908 [vr a0, vr a1, vr a2, vr a3, vi x4, v5, v6] [vr b1, vi z0] h = run (d + 1) md_268 909 [vr a0, vr a1, vr a2, vr a3, vi x4, v5, v6] [vr a0, vr b1, vi z0] h := (run_step _ _ _ _ _ _).trans rfl
set_option maxRecDepth 8000 in
theorem s_268_909 : run (d + 1) md_268 909 [vr a0, vr a1, vr a2, vr a3, vi x4, v5, v6] [vr b2, vr b1, vi z0] h = run (d + 1) md_268 911 [vr a0, vr a1, vr a2, vr a3, vi x4, v5, v6] [vi x4, vr b2, vr b1, vi z0] h := (run_step _ _ _ _ _ _).trans rfl
set_option maxRecDepth 8000 in
theorem s_268_911 : run (d + 1) md_268 911 [vr a0, vr a1, vr a2, vr a3, vi x4, v5, v6] [vi z3, vr b2, vr b1, vi z0] h = run (d + 1) md_268 912 [vr a0, vr a1, vr a2, vr a3, vi x4, v5, v6] [vi 1, vi z3, vr b2, vr b1, vi z0] h := (run_step _ _ _ _ _ _).trans rfl
set_option maxRecDepth 8000 in
theorem s_268_912 : run (d + 1) md_268 912 [vr a0, vr a1, vr a2, vr a3, vi x4, v5, v6] [vi z4, vi z3, vr b2, vr b1, vi z0] h = run (d + 1) md_268 913 [vr a0, vr a1, vr a2, vr a3, vi x4, v5, v6] [vi (i_add z3 z4), vr b2, vr b1, vi z0] h := (run_step _ _ _ _ _ _).trans rfl
set_option maxRecDepth 8000 in
theorem s_268_913 : run (d + 1) md_268 913 [vr a0, vr a1, vr a2, vr a3, vi x4, v5, v6] [vi z3, vr b2, vr b1, vi z0] h = bif (isK h b2 11 || isK h b2 21) && inb h b2 z3 then run (d + 1) md_268 914 [vr a0, vr a1, vr a2, vr a3, vi x4, v5, v6] [vi (h_mi h b2 (z3 : Int).toNat), vr b1, vi z0] h else none := (run_step _ _ _ _ _ _).trans rfl
set_option maxRecDepth 8000 in
theorem s_268_914 : run (d + 1) md_268 914 [vr a0, vr a1, vr a2, vr a3, vi x4, v5, v6] [vi z2, vr b1, vi z0] h = run (d + 1) md_268 915 [vr a0, vr a1, vr a2, vr a3, vi x4, v5, v6] [vr a0, vi z2, vr b1, vi z0] h := (run_step _ _ _ _ _ _).trans rfl
set_option maxRecDepth 8000 in
theorem s_268_915 : run (d + 1) md_268 915 [vr a0, vr a1, vr a2, vr a3, vi x4, v5, v6] [vr b3, vi z2, vr b1, vi z0] h = run (d + 1) md_268 917 [vr a0, vr a1, vr a2, vr a3, vi x4, v5, v6] [vi x4, vr b3, vi z2, vr b1, vi z0] h := (run_step _ _ _ _ _ _).trans rfl
set_option maxRecDepth 8000 in
theorem s_268_917 : run (d + 1) md_268 917 [vr a0, vr a1, vr a2, vr a3, vi x4, v5, v6] [vi z4, vr b3, vi z2, vr b1, vi z0] h = run (d + 1) md_268 918 [vr a0, vr a1, vr a2, vr a3, vi x4, v5, v6] [vi 2, vi z4, vr b3, vi z2, vr b1, vi z0] h := (run_step _ _ _ _ _ _).trans rfl
set_option maxRecDepth 8000 in
theorem s_268_918 : run (d + 1) md_268 918 [vr a0, vr a1, vr a2, vr a3, vi x4, v5, v6] [vi z5, vi z4, vr b3, vi z2, vr b1, vi z0] h = run (d + 1) md_268 919 [vr a0, vr a1, vr a2, vr a3, vi x4, v5, v6] [vi (i_add z4 z5), vr b3, vi z2, vr b1, vi z0] h := (run_step _ _ _ _ _ _).trans rfl
set_option maxRecDepth 8000 in
theorem s_268_919 : run (d + 1) md_268 919 [vr a0, vr a1, vr a2, vr a3, vi x4, v5, v6] [vi z4, vr b3, vi z2, vr b1, vi z0] h = bif (isK h b3 11 || isK h b3 21) && inb h b3 z4 then run (d + 1) md_268 920 [vr a0, vr a1, vr a2, vr a3, vi x4, v5, v6] [vi (h_mi h b3 (z4 : Int).toNat), vi z2, vr b1, vi z0] h else none := (run_step _ _ _ _ _ _).trans rfl
set_option maxRecDepth 20000 in
set_option maxRecDepth 8000 in
theorem s_268_920 : run (d + 1) md_268 920 [vr a0, vr a1, vr a2, vr a3, vi x4, v5, v6] [vi z3, vi z2, vr b1, vi z0] h = bif isK h b1 9 then bI (ev d 231 [vr b1, vi z2, vi z3] h) fun r1 h1 => run (d + 1) md_268 923 [vr a0, vr a1, vr a2, vr a3, vi x4, v5, v6] [vi r1, vi z0] h1 else none := (run_step _ _ _ _ _ _).trans rfl
set_option maxRecDepth 8000 in
theorem s_268_923 : run (d + 1) md_268 923 [vr a0, vr a1, vr a2, vr a3, vi x4, v5, v6] [vi z1, vi z0] h = bif decide (z0 = z1) then run (d + 1) md_268 1498 [vr a0, vr a1, vr a2, vr a3, vi x4, v5, v6] [] h else run (d + 1) md_268 926 [vr a0, vr a1, vr a2, vr a3, vi x4, v5, v6] [] h := (run_step _ _ _ _ _ _).trans rfl
set_option maxRecDepth 8000 in
theorem s_268_926 : run (d + 1) md_268 926 [vr a0, vr a1, vr a2, vr a3, vi x4, v5, v6] [] h = run (d + 1) md_268 927 [vr a0, vr a1, vr a2, vr a3, vi x4, v5, v6] [vi 0] h := (run_step _ _ _ _ _ _).trans rfl
set_option maxRecDepth 8000 in
theorem s_268_927 : run (d + 1) md_268 927 [vr a0, vr a1, vr a2, vr a3, vi x4, v5, v6] [vi z0] h = bif decide (z0 = 0) || decide (z0 = 1) then some (vi z0, h) else none := (run_step _ _ _ _ _ _).trans rfl
set_option maxRecDepth 8000 in
theorem s_268_928 : run (d + 1) md_268 928 [vr a0, vr a1, vr a2, vr a3, vi x4, v5, v6] [] h = run (d + 1) md_268 929 [vr a0, vr a1, vr a2, vr a3, vi x4, v5, v6] [vr a1] h := (run_step _ _ _ _ _ _).trans rfl
set_option maxRecDepth 8000 in
theorem s_268_929 : run (d + 1) md_268 929 [vr a0, vr a1, vr a2, vr a3, vi x4, v5, v6] [vr b0] h = run (d + 1) md_268 930 [vr a0, vr a1, vr a2, vr a3, vi x4, v5, v6] [vr a0, vr b0] h := (run_step _ _ _ _ _ _).trans rfl
set_option maxRecDepth 8000 in
theorem s_268_930 : run (d + 1) md_268 930 [vr a0, vr a1, vr a2, vr a3, vi x4, v5, v6] [vr b1, vr b0] h = run (d + 1) md_268 932 [vr a0, vr a1, vr a2, vr a3, vi x4, v5, v6] [vi x4, vr b1, vr b0] h := (run_step _ _ _ _ _ _).trans rfl
set_option maxRecDepth 8000 in
theorem s_268_932 : run (d + 1) md_268 932 [vr a0, vr a1, vr a2, vr a3, vi x4, v5, v6] [vi z2, vr b1, vr b0] h = run (d + 1) md_268 933 [vr a0, vr a1, vr a2, vr a3, vi x4, v5, v6] [vi 1, vi z2, vr b1, vr b0] h := (run_step _ _ _ _ _ _).trans rfl
set_option maxRecDepth 8000 in
theorem s_268_933 : run (d + 1) md_268 933 [vr a0, vr a1, vr a2, vr a3, vi x4, v5, v6] [vi z3, vi z2, vr b1, vr b0] h = run (d + 1) md_268 934 [vr a0, vr a1, vr a2, vr a3, vi x4, v5, v6] [vi (i_add z2 z3), vr b1, vr b0] h := (run_step _ _ _ _ _ _).trans rfl
set_option maxRecDepth 8000 in
theorem s_268_934 : run (d + 1) md_268 934 [vr a0, vr a1, vr a2, vr a3, vi x4, v5, v6] [vi z2, vr b1, vr b0] h = bif (isK h b1 11 || isK h b1 21) && inb h b1 z2 then run (d + 1) md_268 935 [vr a0, vr a1, vr a2, vr a3, vi x4, v5, v6] [vi (h_mi h b1 (z2 : Int).toNat), vr b0] h else none := (run_step _ _ _ _ _ _).trans rfl
set_option maxRecDepth 8000 in
theorem s_268_935 : run (d + 1) md_268 935 [vr a0, vr a1, vr a2, vr a3, vi x4, v5, v6] [vi z1, vr b0] h = run (d + 1) md_268 936 [vr a0, vr a1, vr a2, vr a3, vi x4, v5, v6] [vr a0, vi z1, vr b0] h := (run_step _ _ _ _ _ _).trans rfl
set_option maxRecDepth 8000 in
theorem s_268_936 : run (d + 1) md_268 936 [vr a0, vr a1, vr a2, vr a3, vi x4, v5, v6] [vr b2, vi z1, vr b0] h = run (d + 1) md_268 938 [vr a0, vr a1, vr a2, vr a3, vi x4, v5, v6] [vi x4, vr b2, vi z1, vr b0] h := (run_step _ _ _ _ _ _).trans rfl
set_option maxRecDepth 8000 in
theorem s_268_938 : run (d + 1) md_268 938 [vr a0, vr a1, vr a2, vr a3, vi x4, v5, v6] [vi z3, vr b2, vi z1, vr b0] h = run (d + 1) md_268 939 [vr a0, vr a1, vr a2, vr a3, vi x4, v5, v6] [vi 2, vi z3, vr b2, vi z1, vr b0] h := (run_step _ _ _ _ _ _).trans rfl
set_option maxRecDepth 8000 in
theorem s_268_939 : run (d + 1) md_268 939 [vr a0, vr a1, vr a2, vr a3, vi x4, v5, v6] [vi z4, vi z3, vr b2, vi z1, vr b0] h = run (d + 1) md_268 940 [vr a0, vr a1, vr a2, vr a3, vi x4, v5, v6] [vi (i_add z3 z4), vr b2, vi z1, vr b0] h := (run_step _ _ _ _ _ _).trans rfl
set_option maxRecDepth 8000 in
theorem s_268_940 : run (d + 1) md_268 940 [vr a0, vr a1, vr a2, vr a3, vi x4, v5, v6] [vi z3, vr b2, vi z1, vr b0] h = bif (isK h b2 11 || isK h b2 21) && inb h b2 z3 then run (d + 1) md_268 941 [vr a0, vr a1, vr a2, vr a3, vi x4, v5, v6] [vi (h_mi h b2 (z3 : Int).toNat), vi z1, vr b0] h else none := (run_step _ _ _ _ _ _).trans rfl
set_option maxRecDepth 8000 in
theorem s_268_941 : run (d + 1) md_268 941 [vr a0, vr a1, vr a2, vr a3, vi x4, v5, v6] [vi z2, vi z1, vr b0] h = run (d + 1) md_268 942 [vr a0, vr a1, vr a2, vr a3, vi x4, v5, v6] [vr a3, vi z2, vi z1, vr b0] h := (run_step _ _ _ _ _ _).trans rfl
set_option maxRecDepth 20000 in
set_option maxRecDepth 8000 in
theorem s_268_942 : run (d + 1) md_268 942 [vr a0, vr a1, vr a2, vr a3, vi x4, v5, v6] [vr b3, vi z2, vi z1, vr b0] h = bI (ev d 266 [vr b0, vi z1, vi z2, vr b3] h) fun r1 h1 => run (d + 1) md_268 945 [vr a0, vr a1, vr a2, vr a3, vi x4, v5, v6] [vi r1] h1 := (run_step _ _ _ _ _ _).trans rfl
set_option maxRecDepth 8000 in
theorem s_268_945 : run (d + 1) md_268 945 [vr a0, vr a1, vr a2, vr a3, vi x4, v5, v6] [vi z0] h = run (d + 1) md_268 947 [vr a0, vr a1, vr a2, vr a3, vi x4, vi z0, v6] [] h := (run_step _ _ _ _ _ _).trans rfl
set_option maxRecDepth 8000 in
theorem s_268_947 : run (d + 1) md_268 947 [vr a0, vr a1, vr a2, vr a3, vi x4, vi x5, v6] [] h = run (d + 1) md_268 948 [vr a0, vr a1, vr a2, vr a3, vi x4, vi x5, v6] [vr a2] h := (run_step _ _ _ _ _ _).trans rfl
set_option maxRecDepth 8000 in
theorem s_268_948 : run (d + 1) md_268 948 [vr a0, vr a1, vr a2, vr a3, vi x4, vi x5, v6] [vr b0] h = run (d + 1) md_268 949 [vr a0, vr a1, vr a2, vr a3, vi x4, vi x5, v6] [vr a0, vr b0] h := (run_step _ _ _ _ _ _).trans rfl
set_option maxRecDepth 8000 in
theorem s_268_949 : run (d + 1) md_268 949 [vr a0, vr a1, vr a2, vr a3, vi x4, vi x5, v6] [vr b1, vr b0] h = run (d + 1) md_268 951 [vr a0, vr a1, vr a2, vr a3, vi x4, vi x5, v6] [vi x4, vr b1, vr b0] h := (run_step _ _ _ _ _ _).trans rfl
set_option maxRecDepth 8000 in
theorem s_268_951 : run (d + 1) md_268 951 [vr a0, vr a1, vr a2, vr a3, vi x4, vi x5, v6] [vi z2, vr b1, vr b0] h = run (d + 1) md_268 952 [vr a0, vr a1, vr a2, vr a3, vi x4, vi x5, v6] [vi 1, vi z2, vr b1, vr b0] h := (run_step _ _ _ _ _ _).trans rfl
set_option maxRecDepth 8000 in
theorem s_268_952 : run (d + 1) md_268 952 [vr a0, vr a1, vr a2, vr a3, vi x4, vi x5, v6] [vi z3, vi z2, vr b1, vr b0] h = run (d + 1) md_268 953 [vr a0, vr a1, vr a2, vr a3, vi x4, vi x5, v6] [vi (i_add z2 z3), vr b1, vr b0] h := (run_step _ _ _ _ _ _).trans rfl
set_option maxRecDepth 8000 in
theorem s_268_953 : run (d + 1) md_268 953 [vr a0, vr a1, vr a2, vr a3, vi x4, vi x5, v6] [vi z2, vr b1, vr b0] h = bif (isK h b1 11 || isK h b1 21) && inb h b1 z2 then run (d + 1) md_268 954 [vr a0, vr a1, vr a2, vr a3, vi x4, vi x5, v6] [vi (h_mi h b1 (z2 : Int).toNat), vr b0] h else none := (run_step _ _ _ _ _ _).trans rfl
set_option maxRecDepth 8000 in
theorem s_268_954 : run (d + 1) md_268 954 [vr a0, vr a1, vr a2, vr a3, vi x4, vi x5, v6] [vi z1, vr b0] h = run (d + 1) md_268 955 [vr a0, vr a1, vr a2, vr a3, vi x4, vi x5, v6] [vr a0, vi z1, vr b0] h := (run_step _ _ _ _ _ _).trans rfl
set_option maxRecDepth 8000 in
theorem s_268_955 : run (d + 1) md_268 955 [vr a0, vr a1, vr a2, vr a3, vi x4, vi x5, v6] [vr b2, vi z1, vr b0] h = run (d + 1) md_268 957 [vr a0, vr a1, vr a2, vr a3, vi x4, vi x5, v6] [vi x4, vr b2, vi z1, vr b0] h := (run_step _ _ _ _ _ _).trans rfl
set_option maxRecDepth 8000 in
theorem s_268_957 : run (d + 1) md_268 957 [vr a0, vr a1, vr a2, vr a3, vi x4, vi x5, v6] [vi z3, vr b2, vi z1, vr b0] h = run (d + 1) md_268 958 [vr a0, vr a1, vr a2, vr a3, vi x4, vi x5, v6] [vi 2, vi z3, vr b2, vi z1, vr b0] h := (run_step _ _ _ _ _ _).trans rfl
set_option maxRecDepth 8000 in
theorem s_268_958 : run (d + 1) md_268 958 [vr a0, vr a1, vr a2, vr a3, vi x4, vi x5, v6] [vi z4, vi z3, vr b2, vi z1, vr b0] h = run (d + 1) md_268 959 [vr a0, vr a1, vr a2, vr a3, vi x4, vi x5, v6] [vi (i_add z3 z4), vr b2, vi z1, vr b0] h := (run_step _ _ _ _ _ _).trans rfl
set_option maxRecDepth 8000 in
theorem s_268_959 : run (d + 1) md_268 959 [vr a0, vr a1, vr a2, vr a3, vi x4, vi x5, v6] [vi z3, vr b2, vi z1, vr b0] h = bif (isK h b2 11 || isK h b2 21) && inb h b2 z3 then run (d + 1) md_268 960 [vr a0, vr a1, vr a2, vr a3, vi x4, vi x5, v6] [vi (h_mi h b2 (z3 : Int).toNat), vi z1, vr b0] h else none := (run_step _ _ _ _ _ _).trans rfl
set_option maxRecDepth 20000 in
set_option maxRecDepth 8000 in
theorem s_268_960 : run (d + 1) md_268 960 [vr a0, vr a1, vr a2, vr a3, vi x4, vi x5, v6] [vi z2, vi z1, vr b0] h = bif isK h b0 9 then bI (ev d 232 [vr b0, vi z1, vi z2] h) fun r1 h1 => run (d + 1) md_268 963 [vr a0, vr a1, vr a2, vr a3, vi x4, vi x5, v6] [vi r1] h1 else none := (run_step _ _ _ _ _ _).trans rfl
set_option maxRecDepth 8000 in
theorem s_268_963 : run (d + 1) md_268 963 [vr a0, vr a1, vr a2, vr a3, vi x4, vi x5, v6] [vi z0] h = run (d + 1) md_268 965 [vr a0, vr a1, vr a2, vr a3, vi x4, vi x5, vi z0] [] h := (run_step _ _ _ _ _ _).trans rfl
set_option maxRecDepth 8000 in
theorem s_268_965 : run (d + 1) md_268 965 [vr a0, vr a1, vr a2, vr a3, vi x4, vi x5, vi x6] [] h = run (d + 1) md_268 966 [vr a0, vr a1, vr a2, vr a3, vi x4, vi x5, vi x6] [vr a2] h := (run_step _ _ _ _ _ _).trans rfl
set_option maxRecDepth 20000 in
set_option maxRecDepth 8000 in
theorem s_268_966 : run (d + 1) md_268 966 [vr a0, vr a1, vr a2, vr a3, vi x4, vi x5, vi x6] [vr b0] h = bif isK h b0 9 then bI (ev d 147 [vr b0] h) fun r1 h1 => run (d + 1) md_268 969 [vr a0, vr a1, vr a2, vr a3, vi x4, vi x5, vi x6] [vi r1] h1 else none := (run_step _ _ _ _ _ _).trans rfl
set_option maxRecDepth 8000 in
theorem s_268_969 : run (d + 1) md_268 969 [vr a0, vr a1, vr a2, vr a3, vi x4, vi x5, vi x6] [vi z0] h = run (d + 1) md_268 971 [vr a0, vr a1, vr a2, vr a3, vi x4, vi x5, vi x6] [vi x5, vi z0] h := (run_step _ _ _ _ _ _).trans rfl
set_option maxRecDepth 8000 in
theorem s_268_971 : run (d + 1) md_268 971 [vr a0, vr a1, vr a2, vr a3, vi x4, vi x5, vi x6] [vi z1, vi z0] h = bif decide (z0 = z1) then run (d + 1) md_268 976 [vr a0, vr a1, vr a2, vr a3, vi x4, vi x5, vi x6] [] h else run (d + 1) md_268 974 [vr a0, vr a1, vr a2, vr a3, vi x4, vi x5, vi x6] [] h := (run_step _ _ _ _ _ _).trans rfl
set_option maxRecDepth 8000 in
theorem s_268_974 : run (d + 1) md_268 974 [vr a0, vr a1, vr a2, vr a3, vi x4, vi x5, vi x6] [] h = run (d + 1) md_268 975 [vr a0, vr a1, vr a2, vr a3, vi x4, vi x5, vi x6] [vi 0] h := (run_step _ _ _ _ _ _).trans rfl
set_option maxRecDepth 8000 in
theorem s_268_975 : run (d + 1) md_268 975 [vr a0, vr a1, vr a2, vr a3, vi x4, vi x5, vi x6] [vi z0] h = bif decide (z0 = 0) || decide (z0 = 1) then some (vi z0, h) else none := (run_step _ _ _ _ _ _).trans rfl
set_option maxRecDepth 8000 in
theorem s_268_976 : run (d + 1) md_268 976 [vr a0, vr a1, vr a2, vr a3, vi x4, vi x5, vi x6] [] h = run (d + 1) md_268 978 [vr a0, vr a1, vr a2, vr a3, vi x4, vi x5, vi x6] [vi x5] h := (run_step _ _ _ _ _ _).trans rfl
set_option maxRecDepth 8000 in
theorem s_268_978 : run (d + 1) md_268 978 [vr a0, vr a1, vr a2, vr a3, vi x4, vi x5, vi x6] [vi z0] h = bif decide (z0 ≠ 0) then run (d + 1) md_268 993 [vr a0, vr a1, vr a2, vr a3, vi x4, vi x5, vi x6] [] h else run (d + 1) md_268 981 [vr a0, vr a1, vr a2, vr a3, vi x4, vi x5, vi x6] [] h := (run_step _ _ _ _ _ _).trans rfl
set_option maxRecDepth 8000 in
theorem s_268_981 : run (d + 1) md_268 981 [vr a0, vr a1, vr a2, vr a3, vi x4, vi x5, vi x6] [] h = run (d + 1) md_268 982 [vr a0, vr a1, vr a2, vr a3, vi x4, vi x5, vi x6] [vr a3] h := (run_step _ _ _ _ _ _).trans rfl
set_option maxRecDepth 8000 in
theorem s_268_982 : run (d + 1) md_268 982 [vr a0, vr a1, vr a2, vr a3, vi x4, vi x5, vi x6] [vr b0] h = run (d + 1) md_268 983 [vr a0, vr a1, vr a2, vr a3, vi x4, vi x5, vi x6] [vi 0, vr b0] h := (run_step _ _ _ _ _ _).trans rfl
set_option maxRecDepth 8000 in
theorem s_268_983 : run (d + 1) md_268 983 [vr a0, vr a1, vr a2, vr a3, vi x4, vi x5, vi x6] [vi z1, vr b0] h = bif isK h b0 12 && inb h b0 z1 then run (d + 1) md_268 984 [vr a0, vr a1, vr a2, vr a3, vi x4, vi x5, vi x6] [vl (h_ml h b0 (z1 : Int).toNat)] h else none := (run_step _ _ _ _ _ _).trans rfl
set_option maxRecDepth 8000 in
theorem s_268_984 : run (d + 1) md_268 984 [vr a0, vr a1, vr a2, vr a3, vi x4, vi x5, vi x6] [vl w0] h = run (d + 1) md_268 986 [vr a0, vr a1, vr a2, vr a3, vi x4, vi x5, vi x6] [vi x6, vl w0] h := (run_step _ _ _ _ _ _).trans rfl
set_option maxRecDepth 8000 in
theorem s_268_986 : run (d + 1) md_268 986 [vr a0, vr a1, vr a2, vr a3, vi x4, vi x5, vi x6] [vi z1, vl w0] h = run (d + 1) md_268 987 [vr a0, vr a1, vr a2, vr a3, vi x4, vi x5, vi x6] [vl z1, vl w0] h := (run_step _ _ _ _ _ _).trans rfl
set_option maxRecDepth 8000 in
theorem s_268_987 : run (d + 1) md_268 987 [vr a0, vr a1, vr a2, vr a3, vi x4, vi x5, vi x6] [vl w1, vl w0] h = run (d + 1) md_268 988 [vr a0, vr a1, vr a2, vr a3, vi x4, vi x5, vi x6] [vi (l_cmp w0 w1)] h := (run_step _ _ _ _ _ _).trans rfl
set_option maxRecDepth 8000 in
theorem s_268_988 : run (d + 1) md_268 988 [vr a0, vr a1, vr a2, vr a3, vi x4, vi x5, vi x6] [vi z0] h = bif decide (z0 = 0) then run (d + 1) md_268 993 [vr a0, vr a1, vr a2, vr a3, vi x4, vi x5, vi x6] [] h else run (d + 1) md_268 991 [vr a0, vr a1, vr a2, vr a3, vi x4, vi x5, vi x6] [] h := (run_step _ _ _ _ _ _).trans rfl
set_option maxRecDepth 8000 in
theorem s_268_991 : run (d + 1) md_268 991 [vr a0, vr a1, vr a2, vr a3, vi x4, vi x5, vi x6] [] h = run (d + 1) md_268 992 [vr a0, vr a1, vr a2, vr a3, vi x4, vi x5, vi x6] [vi 0] h := (run_step _ _ _ _ _ _).trans rfl
set_option maxRecDepth 8000 in
theorem s_268_992 : run (d + 1) md_268 992 [vr a0, vr a1, vr a2, vr a3, vi x4, vi x5, vi x6] [vi z0] h = bif decide (z0 = 0) || decide (z0 = 1) then some (vi z0, h) else none := (run_step _ _ _ _ _ _).trans rfl
set_option maxRecDepth 8000 in
theorem s_268_993 : run (d + 1) md_268 993 [vr a0, vr a1, vr a2, vr a3, vi x4, vi x5, vi x6] [] h = run (d + 1) md_268 1498 [vr a0, vr a1, vr a2, vr a3, vi x4, vi x5, vi x6] [] h := (run_step _ _ _ _ _ _).trans rfl
set_option maxRecDepth 8000 in
theorem s_268_996 : run (d + 1) md_268 996 [vr a0, vr a1, vr a2, vr a3, vi x4, v5, v6] [] h = run (d + 1) md_268 997 [vr a0, vr a1, vr a2, vr a3, vi x4, v5, v6] [vr a1] h := (run_step _ _ _ _ _ _).trans rfl
set_option maxRecDepth 8000 in
theorem s_268_997 : run (d + 1) md_268 997 [vr a0, vr a1, vr a2, vr a3, vi x4, v5, v6] [vr b0] h = run (d + 1) md_268 998 [vr a0, vr a1, vr a2, vr a3, vi x4, v5, v6] [vr a0, vr b0] h := (run_step _ _ _ _ _ _).trans rfl
set_option maxRecDepth 8000 in
theorem s_268_998 : run (d + 1) md_268 998 [vr a0, vr a1, vr a2, vr a3, vi x4, v5, v6] [vr b1, vr b0] h = run (d + 1) md_268 1000 [vr a0, vr a1, vr a2, vr a3, vi x4, v5, v6] [vi x4, vr b1, vr b0] h := (run_step _ _ _ _ _ _).trans rfl
set_option maxRecDepth 8000 in
theorem s_268_1000 : run (d + 1) md_268 1000 [vr a0, vr a1, vr a2, vr a3, vi x4, v5, v6] [vi z2, vr b1, vr b0] h = run (d + 1) md_268 1001 [vr a0, vr a1, vr a2, vr a3, vi x4, v5, v6] [vi 1, vi z2, vr b1, vr b0] h := (run_step _ _ _ _ _ _).trans rfl
set_option maxRecDepth 8000 in
theorem s_268_1001 : run (d + 1) md_268 1001 [vr a0, vr a1, vr a2, vr a3, vi x4, v5, v6] [vi z3, vi z2, vr b1, vr b0] h = run (d + 1) md_268 1002 [vr a0, vr a1, vr a2, vr a3, vi x4, v5, v6] [vi (i_add z2 z3), vr b1, vr b0] h := (run_step _ _ _ _ _ _).trans rfl
set_option maxRecDepth 8000 in
theorem s_268_1002 : run (d + 1) md_268 1002 [vr a0, vr a1, vr a2, vr a3, vi x4, v5, v6] [vi z2, vr b1, vr b0] h = bif (isK h b1 11 || isK h b1 21) && inb h b1 z2 then run (d + 1) md_268 1003 [vr a0, vr a1, vr a2, vr a3, vi x4, v5, v6] [vi (h_mi h b1 (z2 : Int).toNat), vr b0] h else none := (run_step _ _ _ _ _ _).trans rfl
set_option maxRecDepth 8000 in
theorem s_268_1003 : run (d + 1) md_268 1003 [vr a0, vr a1, vr a2, vr a3, vi x4, v5, v6] [vi z1, vr b0] h = run (d + 1) md_268 1004 [vr a0, vr a1, vr a2, vr a3, vi x4, v5, v6] [vr a0, vi z1, vr b0] h := (run_step _ _ _ _ _ _).trans rfl
set_option maxRecDepth 8000 in
theorem s_268_1004 : run (d + 1) md_268 1004 [vr a0, vr a1, vr a2, vr a3, vi x4, v5, v6] [vr b2, vi z1, vr b0] h = run (d + 1) md_268 1006 [vr a0, vr a1, vr a2, vr a3, vi x4, v5, v6] [vi x4, vr b2, vi z1, vr b0] h := (run_step _ _ _ _ _ _).trans rfl
set_option maxRecDepth 8000 in
theorem s_268_1006 : run (d + 1) md_268 1006 [vr a0, vr a1, vr a2, vr a3, vi x4, v5, v6] [vi z3, vr b2, vi z1, vr b0] h = run (d + 1) md_268 1007 [vr a0, vr a1, vr a2, vr a3, vi x4, v5, v6] [vi 2, vi z3, vr b2, vi z1, vr b0] h := (run_step _ _ _ _ _ _).trans rfl
set_option maxRecDepth 8000 in
theorem s_268_1007 : run (d + 1) md_268 1007 [vr a0, vr a1, vr a2, vr a3, vi x4, v5, v6] [vi z4, vi z3, vr b2, vi z1, vr b0] h = run (d + 1) md_268 1008 [vr a0, vr a1, vr a2, vr a3, vi x4, v5, v6] [vi (i_add z3 z4), vr b2, vi z1, vr b0] h := (run_step _ _ _ _ _ _).trans rfl
set_option maxRecDepth 8000 in
theorem s_268_1008 : run (d + 1) md_268 1008 [vr a0, vr a1, vr a2, vr a3, vi x4, v5, v6] [vi z3, vr b2, vi z1, vr b0] h = bif (isK h b2 11 || isK h b2 21) && inb h b2 z3 then run (d + 1) md_268 1009 [vr a0, vr a1, vr a2, vr a3, vi x4, v5, v6] [vi (h_mi h b2 (z3 : Int).toNat), vi z1, vr b0] h else none := (run_step _ _ _ _ _ _).trans rfl
set_option maxRecDepth 20000 in
set_option maxRecDepth 8000 in
theorem s_268_1009 : run (d + 1) md_268 1009 [vr a0, vr a1, vr a2, vr a3, vi x4, v5, v6] [vi z2, vi z1, vr b0] h = bif isK h b0 8 then bI (ev d 129 [vr b0, vi z1, vi z2] h) fun r1 h1 => run (d + 1) md_268 1012 [vr a0, vr a1, vr a2, vr a3, vi x4, v5, v6] [vi r1] h1 else none := (run_step _ _ _ _ _ _).trans rfl
set_option maxRecDepth 8000 in
theorem s_268_1012 : run (d + 1) md_268 1012 [vr a0, vr a1, vr a2, vr a3, vi x4, v5, v6] [vi z0] h = run (d + 1) md_268 1013 [vr a0, vr a1, vr a2, vr a3, vi x4, v5, v6] [vr a2, vi z0] h := (run_step _ _ _ _ _ _).trans rfl
set_option maxRecDepth 8000 in
theorem s_268_1013 : run (d + 1) md_268 1013 [vr a0, vr a1, vr a2, vr a3, vi x4, v5, v6] [vr b1, vi z0] h = run (d + 1) md_268 1014 [vr a0, vr a1, vr a2, vr a3, vi x4, v5, v6] [vr a0, vr b1, vi z0] h := (run_step _ _ _ _ _ _).trans rfl
set_option maxRecDepth 8000 in
theorem s_268_1014 : run (d + 1) md_268 1014 [vr a0, vr a1, vr a2, vr a3, vi x4, v5, v6] [vr b2, vr b1, vi z0] h = run (d + 1) md_268 1016 [vr a0, vr a1, vr a2, vr a3, vi x4, v5, v6] [vi x4, vr b2, vr b1, vi z0] h := (run_step _ _ _ _ _ _).trans rfl
set_option maxRecDepth 8000 in
theorem s_268_1016 : run (d + 1) md_268 1016 [vr a0, vr a1, vr a2, vr a3, vi x4, v5, v6] [vi z3, vr b2, vr b1, vi z0] h = run (d + 1) md_268 1017 [vr a0, vr a1, vr a2, vr a3, vi x4, v5, v6] [vi 1, vi z3, vr b2, vr b1, vi z0] h := (run_step _ _ _ _ _ _).trans rfl
set_option maxRecDepth 8000 in
theorem s_268_1017 : run (d + 1) md_268 1017 [vr a0, vr a1, vr a2, vr a3, vi x4, v5, v6] [vi z4, vi z3, vr b2, vr b1, vi z0] h = run (d + 1) md_268 1018 [vr a0, vr a1, vr a2, vr a3, vi x4, v5, v6] [vi (i_add z3 z4), vr b2, vr b1, vi z0] h := (run_step _ _ _ _ _ _).trans rfl
set_option maxRecDepth 8000 in
theorem s_268_1018 : run (d + 1) md_268 1018 [vr a0, vr a1, vr a2, vr a3, vi x4, v5, v6] [vi z3, vr b2, vr b1, vi z0] h = bif (isK h b2 11 || isK h b2 21) && inb h b2 z3 then run (d + 1) md_268 1019 [vr a0, vr a1, vr a2, vr a3, vi x4, v5, v6] [vi (h_mi h b2 (z3 : Int).toNat), vr b1, vi z0] h else none := (run_step _ _ _ _ _ _).trans rfl
set_option maxRecDepth 8000 in
theorem s_268_1019 : run (d + 1) md_268 1019 [vr a0, vr a1, vr a2, vr a3, vi x4, v5, v6] [vi z2, vr b1, vi z0] h = run (d + 1) md_268 1020 [vr a0, vr a1, vr a2, vr a3, vi x4, v5, v6] [vr a0, vi z2, vr b1, vi z0] h := (run_step _ _ _ _ _ _).trans rfl
set_option maxRecDepth 8000 in
theorem s_268_1020 : run (d + 1) md_268 1020 [vr a0, vr a1, vr a2, vr a3, vi x4, v5, v6] [vr b3, vi z2, vr b1, vi z0] h = run (d + 1) md_268 1022 [vr a0, vr a1, vr a2, vr a3, vi x4, v5, v6] [vi x4, vr b3, vi z2, vr b1, vi z0] h := (run_step _ _ _ _ _ _).trans rfl
set_option maxRecDepth 8000 in
theorem s_268_1022 : run (d + 1) md_268 1022 [vr a0, vr a1, vr a2, vr a3, vi x4, v5, v6] [vi z4, vr b3, vi z2, vr b1, vi z0] h = run (d + 1) md_268 1023 [vr a0, vr a1, vr a2, vr a3, vi x4, v5, v6] [vi 2, vi z4, vr b3, vi z2, vr b1, vi z0] h := (run_step _ _ _ _ _ _).trans rfl
set_option maxRecDepth 8000 in
theorem s_268_1023 : run (d + 1) md_268 1023 [vr a0, vr a1, vr a2, vr a3, vi x4, v5, v6] [vi z5, vi z4, vr b3, vi z2, vr b1, vi z0] h = run (d + 1) md_268 1024 [vr a0, vr a1, vr a2, vr a3, vi x4, v5, v6] [vi (i_add z4 z5), vr b3, vi z2, vr b1, vi z0] h := (run_step _ _ _ _ _ _).trans rfl
set_option maxRecDepth 8000 in
theorem s_268_1024 : run (d + 1) md_268 1024 [vr a0, vr a1, vr a2, vr a3, vi x4, v5, v6] [vi z4, vr b3, vi z2, vr b1, vi z0] h = bif (isK h b3 11 || isK h b3 21) && inb h b3 z4 then run (d + 1) md_268 1025 [vr a0, vr a1, vr a2, vr a3, vi x4, v5, v6] [vi (h_mi h b3 (z4 : Int).toNat), vi z2, vr b1, vi z0] h else none := (run_step _ _ _ _ _ _).trans rfl
set_option maxRecDepth 20000 in
set_option maxRecDepth 8000 in
theorem s_268_1025 : run (d + 1) md_268 1025 [vr a0, vr a1, vr a2, vr a3, vi x4, v5, v6] [vi z3, vi z2, vr b1, vi z0] h = bif isK h b1 9 then bI (ev d 236 [vr b1, vi z2, vi z3] h) fun r1 h1 => run (d + 1) md_268 1028 [vr a0, vr a1, vr a2, vr a3, vi x4, v5, v6] [vi r1, vi z0] h1 else none := (run_step _ _ _ _ _ _).trans rfl
set_option maxRecDepth 8000 in
theorem s_268_1028 : run (d + 1) md_268 1028 [vr a0, vr a1, vr a2, vr a3, vi x4, v5, v6] [vi z1, vi z0] h = bif decide (z0 = z1) then run (d + 1) md_268 1498 [vr a0, vr a1, vr a2, vr a3, vi x4, v5, v6] [] h else run (d + 1) md_268 1031 [vr a0, vr a1, vr a2, vr a3, vi x4, v5, v6] [] h := (run_step _ _ _ _ _ _).trans rfl
set_option maxRecDepth 8000 in
theorem s_268_1031 : run (d + 1) md_268 1031 [vr a0, vr a1, vr a2, vr a3, vi x4, v5, v6] [] h = run (d + 1) md_268 1032 [vr a0, vr a1, vr a2, vr a3, vi x4, v5, v6] [vi 0] h := (run_step _ _ _ _ _ _).trans rfl
set_option maxRecDepth 8000 in
theorem s_268_1032 : run (d + 1) md_268 1032 [vr a0, vr a1, vr a2, vr a3, vi x4, v5, v6] [vi z0] h = bif decide (z0 = 0) || decide (z0 = 1) then some (vi z0, h) else none := (run_step _ _ _ _ _ _).trans rfl
set_option maxRecDepth 8000 in
theorem s_268_1033 : run (d + 1) md_268 1033 [vr a0, vr a1, vr a2, vr a3, vi x4, v5, v6] [] h = run (d + 1) md_268 1034 [vr a0, vr a1, vr a2, vr a3, vi x4, v5, v6] [vr a1] h := (run_step _ _ _ _ _ _).trans rfl
set_option maxRecDepth 8000 in
theorem s_268_1034 : run (d + 1) md_268 1034 [vr a0, vr a1, vr a2, vr a3, vi x4, v5, v6] [vr b0] h = run (d + 1) md_268 1035 [vr a0, vr a1, vr a2, vr a3, vi x4, v5, v6] [vr a0, vr b0] h := (run_step _ _ _ _ _ _).trans rfl
set_option maxRecDepth 8000 in
theorem s_268_1035 : run (d + 1) md_268 1035 [vr a0, vr a1, vr a2, vr a3, vi x4, v5, v6] [vr b1, vr b0] h = run (d + 1) md_268 1037 [vr a0, vr a1, vr a2, vr a3, vi x4, v5, v6] [vi x4, vr b1, vr b0] h := (run_step _ _ _ _ _ _).trans rfl
set_option maxRecDepth 8000 in
theorem s_268_1037 : run (d + 1) md_268 1037 [vr a0, vr a1, vr a2, vr a3, vi x4, v5, v6] [vi z2, vr b1, vr b0] h = run (d + 1) md_268 1038 [vr a0, vr a1, vr a2, vr a3, vi x4, v5, v6] [vi 1, vi z2, vr b1, vr b0] h := (run_step _ _ _ _ _ _).trans rfl
set_option maxRecDepth 8000 in
theorem s_268_1038 : run (d + 1) md_268 1038 [vr a0, vr a1, vr a2, vr a3, vi x4, v5, v6] [vi z3, vi z2, vr b1, vr b0] h = run (d + 1) md_268 1039 [vr a0, vr a1, vr a2, vr a3, vi x4, v5, v6] [vi (i_add z2 z3), vr b1, vr b0] h := (run_step _ _ _ _ _ _).trans rfl
set_option maxRecDepth 8000 in
theorem s_268_1039 : run (d + 1) md_268 1039 [vr a0, vr a1, vr a2, vr a3, vi x4, v5, v6] [vi z2, vr b1, vr b0] h = bif (isK h b1 11 || isK h b1 21) && inb h b1 z2 then run (d + 1) md_268 1040 [vr a0, vr a1, vr a2, vr a3, vi x4, v5, v6] [vi (h_mi h b1 (z2 : Int).toNat), vr b0] h else none := (run_step _ _ _ _ _ _).trans rfl
set_option maxRecDepth 8000 in
theorem s_268_1040 : run (d + 1) md_268 1040 [vr a0, vr a1, vr a2, vr a3, vi x4, v5, v6] [vi z1, vr b0] h = run (d + 1) md_268 1041 [vr a0, vr a1, vr a2, vr a3, vi x4, v5, v6] [vr a0, vi z1, vr b0] h := (run_step _ _ _ _ _ _).trans rfl
set_option maxRecDepth 8000 in
theorem s_268_1041 : run (d + 1) md_268 1041 [vr a0, vr a1, vr a2, vr a3, vi x4, v5, v6] [vr b2, vi z1, vr b0] h = run (d + 1) md_268 1043 [vr a0, vr a1, vr a2, vr a3, vi x4, v5, v6] [vi x4, vr b2, vi z1, vr b0] h := (run_step _ _ _ _ _ _).trans rfl
set_option maxRecDepth 8000 in
theorem s_268_1043 : run (d + 1) md_268 1043 [vr a0, vr a1, vr a2, vr a3, vi x4, v5, v6] [vi z3, vr b2, vi z1, vr b0] h = run (d + 1) md_268 1044 [vr a0, vr a1, vr a2, vr a3, vi x4, v5, v6] [vi 2, vi z3, vr b2, vi z1, vr b0] h := (run_step _ _ _ _ _ _).trans rfl
set_option maxRecDepth 8000 in
theorem s_268_1044 : run (d + 1) md_268 1044 [vr a0, vr a1, vr a2, vr a3, vi x4, v5, v6] [vi z4, vi z3, vr b2, vi z1, vr b0] h = run (d + 1) md_268 1045 [vr a0, vr a1, vr a2, vr a3, vi x4, v5, v6] [vi (i_add z3 z4), vr b2, vi z1, vr b0] h := (run_step _ _ _ _ _ _).trans rfl
set_option maxRecDepth 8000 in
theorem s_268_1045 : run (d + 1) md_268 1045 [vr a0, vr a1, vr a2, vr a3, vi x4, v5, v6] [vi z3, vr b2, vi z1, vr b0] h = bif (isK h b2 11 || isK h b2 21) && inb h b2 z3 then run (d + 1) md_268 1046 [vr a0, vr a1, vr a2, vr a3, vi x4, v5, v6] [vi (h_mi h b2 (z3 : Int).toNat), vi z1, vr b0] h else none := (run_step _ _ _ _ _ _).trans rfl
set_option maxRecDepth 8000 in
theorem s_268_1046 : run (d + 1) md_268 1046 [vr a0, vr a1, vr a2, vr a3, vi x4, v5, v6] [vi z2, vi z1, vr b0] h = run (d + 1) md_268 1047 [vr a0, vr a1, vr a2, vr a3, vi x4, v5, v6] [vr a0, vi z2, vi z1, vr b0] h := (run_step _ _ _ _ _ _).trans rfl
set_option maxRecDepth 8000 in
theorem s_268_1047 : run (d + 1) md_268 1047 [vr a0, vr a1, vr a2, vr a3, vi x4, v5, v6] [vr b3, vi z2, vi z1, vr b0] h = run (d + 1) md_268 1049 [vr a0, vr a1, vr a2, vr a3, vi x4, v5, v6] [vi x4, vr b3, vi z2, vi z1, vr b0] h := (run_step _ _ _ _ _ _).trans rfl
set_option maxRecDepth 8000 in
theorem s_268_1049 : run (d + 1) md_268 1049 [vr a0, vr a1, vr a2, vr a3, vi x4, v5, v6] [vi z4, vr b3, vi z2, vi z1, vr b0] h = run (d + 1) md_268 1050 [vr a0, vr a1, vr a2, vr a3, vi x4, v5, v6] [vi 3, vi z4, vr b3, vi z2, vi z1, vr b0] h := (run_step _ _ _ _ _ _).trans rfl
set_option maxRecDepth 8000 in
theorem s_268_1050 : run (d + 1) md_268 1050 [vr a0, vr a1, vr a2, vr a3, vi x4, v5, v6] [vi z5, vi z4, vr b3, vi z2, vi z1, vr b0] h = run (d + 1) md_268 1051 [vr a0, vr a1, vr a2, vr a3, vi x4, v5, v6] [vi (i_add z4 z5), vr b3, vi z2, vi z1, vr b0] h := (run_step _ _ _ _ _ _).trans rfl
set_option maxRecDepth 8000 in
theorem s_268_1051 : run (d + 1) md_268 1051 [vr a0, vr a1, vr a2, vr a3, vi x4, v5, v6] [vi z4, vr b3, vi z2, vi z1, vr b0] h = bif (isK h b3 11 || isK h b3 21) && inb h b3 z4 then run (d + 1) md_268 1052 [vr a0, vr a1, vr a2, vr a3, vi x4, v5, v6] [vi (h_mi h b3 (z4 : Int).toNat), vi z2, vi z1, vr b0] h else none := (run_step _ _ _ _ _ _).trans rfl
set_option maxRecDepth 20000 in
set_option maxRecDepth 8000 in
theorem s_268_1052 : run (d + 1) md_268 1052 [vr a0, vr a1, vr a2, vr a3, vi x4, v5, v6] [vi z3, vi z2, vi z1, vr b0] h = bif isK h b0 8 then bI (ev d 130 [vr b0, vi z1, vi z2, vi z3] h) fun r1 h1 => run (d + 1) md_268 1055 [vr a0, vr a1, vr a2, vr a3, vi x4, v5, v6] [vi r1] h1 else none := (run_step _ _ _ _ _ _).trans rfl
set_option maxRecDepth 8000 in
theorem s_268_1055 : run (d + 1) md_268 1055 [vr a0, vr a1, vr a2, vr a3, vi x4, v5, v6] [vi z0] h = run (d + 1) md_268 1056 [vr a0, vr a1, vr a2, vr a3, vi x4, v5, v6] [vr a2, vi z0] h := (run_step _ _ _ _ _ _).trans rfl
set_option maxRecDepth 8000 in
theorem s_268_1056 : run (d + 1) md_268 1056 [vr a0, vr a1, vr a2, vr a3, vi x4, v5, v6] [vr b1, vi z0] h = run (d + 1) md_268 1057 [vr a0, vr a1, vr a2, vr a3, vi x4, v5, v6] [vr a0, vr b1, vi z0] h := (run_step _ _ _ _ _ _).trans rfl
set_option maxRecDepth 8000 in
theorem s_268_1057 : run (d + 1) md_268 1057 [vr a0, vr a1, vr a2, vr a3, vi x4, v5, v6] [vr b2, vr b1, vi z0] h = run (d + 1) md_268 1059 [vr a0, vr a1, vr a2, vr a3, vi x4, v5, v6] [vi x4, vr b2, vr b1, vi z0] h := (run_step _ _ _ _ _ _).trans rfl
set_option maxRecDepth 8000 in
theorem s_268_1059 : run (d + 1) md_268 1059 [vr a0, vr a1, vr a2, vr a3, vi x4, v5, v6] [vi z3, vr b2, vr b1, vi z0] h = run (d + 1) md_268 1060 [vr a0, vr a1, vr a2, vr a3, vi x4, v5, v6] [vi 1, vi z3, vr b2, vr b1, vi z0] h := (run_step _ _ _ _ _ _).trans rfl
set_option maxRecDepth 8000 in
theorem s_268_1060 : run (d + 1) md_268 1060 [vr a0, vr a1, vr a2, vr a3, vi x4, v5, v6] [vi z4, vi z3, vr b2, vr b1, vi z0] h = run (d + 1) md_268 1061 [vr a0, vr a1, vr a2, vr a3, vi x4, v5, v6] [vi (i_add z3 z4), vr b2, vr b1, vi z0] h := (run_step _ _ _ _ _ _).trans rfl
set_option maxRecDepth 8000 in
theorem s_268_1061 : run (d + 1) md_268 1061 [vr a0, vr a1, vr a2, vr a3, vi x4, v5, v6] [vi z3, vr b2, vr b1, vi z0] h = bif (isK h b2 11 || isK h b2 21) && inb h b2 z3 then run (d + 1) md_268 1062 [vr a0, vr a1, vr a2, vr a3, vi x4, v5, v6] [vi (h_mi h b2 (z3 : Int).toNat), vr b1, vi z0] h else none := (run_step _ _ _ _ _ _).trans rfl
set_option maxRecDepth 8000 in
theorem s_268_1062 : run (d + 1) md_268 1062 [vr a0, vr a1, vr a2, vr a3, vi x4, v5, v6] [vi z2, vr b1, vi z0] h = run (d + 1) md_268 1063 [vr a0, vr a1, vr a2, vr a3, vi x4, v5, v6] [vr a0, vi z2, vr b1, vi z0] h := (run_step _ _ _ _ _ _).trans rfl
set_option maxRecDepth 8000 in
theorem s_268_1063 : run (d + 1) md_268 1063 [vr a0, vr a1, vr a2, vr a3, vi x4, v5, v6] [vr b3, vi z2, vr b1, vi z0] h = run (d + 1) md_268 1065 [vr a0, vr a1, vr a2, vr a3, vi x4, v5, v6] [vi x4, vr b3, vi z2, vr b1, vi z0] h := (run_step _ _ _ _ _ _).trans rfl
set_option maxRecDepth 8000 in
theorem s_268_1065 : run (d + 1) md_268 1065 [vr a0, vr a1, vr a2, vr a3, vi x4, v5, v6] [vi z4, vr b3, vi z2, vr b1, vi z0] h = run (d + 1) md_268 1066 [vr a0, vr a1, vr a2, vr a3, vi x4, v5, v6] [vi 2, vi z4, vr b3, vi z2, vr b1, vi z0] h := (run_step _ _ _ _ _ _).trans rfl
set_option maxRecDepth 8000 in
theorem s_268_1066 : run (d + 1) md_268 1066 [vr a0, vr a1, vr a2, vr a3, vi x4, v5, v6] [vi z5, vi z4, vr b3, vi z2, vr b1, vi z0] h = run (d + 1) md_268 1067 [vr a0, vr a1, vr a2, vr a3, vi x4, v5, v6] [vi (i_add z4 z5), vr b3, vi z2, vr b1, vi z0] h := (run_step _ _ _ _ _ _).trans rfl
set_option maxRecDepth 8000 in
theorem s_268_1067 : run (d + 1) md_268 1067 [vr a0, vr a1, vr a2, vr a3, vi x4, v5, v6] [vi z4, vr b3, vi z2, vr b1, vi z0] h = bif (isK h b3 11 || isK h b3 21) && inb h b3 z4 then run (d + 1) md_268 1068 [vr a0, vr a1, vr a2, vr a3, vi x4, v5, v6] [vi (h_mi h b3 (z4 : Int).toNat), vi z2, vr b1, vi z0] h else none := (run_step _ _ _ _ _ _).trans rfl
set_option maxRecDepth 8000 in
theorem s_268_1068 : run (d + 1) md_268 1068 [vr a0, vr a1, vr a2, vr a3, vi x4, v5, v6] [vi z3, vi z2, vr b1, vi z0] h = run (d + 1) md_268 1069 [vr a0, vr a1, vr a2, vr a3, vi x4, v5, v6] [vr a0, vi z3, vi z2, vr b1, vi z0] h := (run_step _ _ _ _ _ _).trans rfl
set_option maxRecDepth 8000 in
theorem s_268_1069 : run (d + 1) md_268 1069 [vr a0, vr a1, vr a2, vr a3, vi x4, v5, v6] [vr b4, vi z3, vi z2, vr b1, vi z0] h = run (d + 1) md_268 1071 [vr a0, vr a1, vr a2, vr a3, vi x4, v5, v6] [vi x4, vr b4, vi z3, vi z2, vr b1, vi z0] h := (run_step _ _ _ _ _ _).trans rfl
set_option maxRecDepth 8000 in
theorem s_268_1071 : run (d + 1) md_268 1071 [vr a0, vr a1, vr a2, vr a3, vi x4, v5, v6] [vi z5, vr b4, vi z3, vi z2, vr b1, vi z0] h = run (d + 1) md_268 1072 [vr a0, vr a1, vr a2, vr a3, vi x4, v5, v6] [vi 3, vi z5, vr b4, vi z3, vi z2, vr b1, vi z0] h := (run_step _ _ _ _ _ _).trans rfl
set_option maxRecDepth 8000 in
theorem s_268_1072 : run (d + 1) md_268 1072 [vr a0, vr a1, vr a2, vr a3, vi x4, v5, v6] [vi z6, vi z5, vr b4, vi z3, vi z2, vr b1, vi z0] h = run (d + 1) md_268 1073 [vr a0, vr a1, vr a2, vr a3, vi x4, v5, v6] [vi (i_add z5 z6), vr b4, vi z3, vi z2, vr b1, vi z0] h := (run_step _ _ _ _ _ _).trans rfl
set_option maxRecDepth 8000 in
theorem s_268_1073 : run (d + 1) md_268 1073 [vr a0, vr a1, vr a2, vr a3, vi x4, v5, v6] [vi z5, vr b4, vi z3, vi z2, vr b1, vi z0] h = bif (isK h b4 11 || isK h b4 21) && inb h b4 z5 then run (d + 1) md_268 1074 [vr a0, vr a1, vr a2, vr a3, vi x4, v5, v6] [vi (h_mi h b4 (z5 : Int).toNat), vi z3, vi z2, vr b1, vi z0] h else none := (run_step _ _ _ _ _ _).trans rfl
set_option maxRecDepth 20000 in
set_option maxRecDepth 8000 in
theorem s_268_1074 : run (d + 1) md_268 1074 [vr a0, vr a1, vr a2, vr a3, vi x4, v5, v6] [vi z4, vi z3, vi z2, vr b1, vi z0] h = bif isK h b1 9 then bI (ev d 237 [vr b1, vi z2, vi z3, vi z4] h) fun r1 h1 => run (d + 1) md_268 1077 [vr a0, vr a1, vr a2, vr a3, vi x4, v5, v6] [vi r1, vi z0] h1 else none := (run_step _ _ _ _ _ _).trans rfl
set_option maxRecDepth 8000 in
theorem s_268_1077 : run (d + 1) md_268 1077 [vr a0, vr a1, vr a2, vr a3, vi x4, v5, v6] [vi z1, vi z0] h = bif decide (z0 = z1) then run (d + 1) md_268 1498 [vr a0, vr a1, vr a2, vr a3, vi x4, v5, v6] [] h else run (d + 1) md_268 1080 [vr a0, vr a1, vr a2, vr a3, vi x4, v5, v6] [] h := (run_step _ _ _ _ _ _).trans rfl
set_option maxRecDepth 8000 in
theorem s_268_1080 : run (d + 1) md_268 1080 [vr a0, vr a1, vr a2, vr a3, vi x4, v5, v6] [] h = run (d + 1) md_268 1081 [vr a0, vr a1, vr a2, vr a3, vi x4, v5, v6] [vi 0] h := (run_step _ _ _ _ _ _).trans rfl
set_option maxRecDepth 8000 in
theorem s_268_1081 : run (d + 1) md_268 1081 [vr a0, vr a1, vr a2, vr a3, vi x4, v5, v6] [vi z0] h = bif decide (z0 = 0) || decide (z0 = 1) then some (vi z0, h) else none := (run_step _ _ _ _ _ _).trans rfl
set_option maxRecDepth 8000 in
theorem s_268_1082 : run (d + 1) md_268 1082 [vr a0, vr a1, vr a2, vr a3, vi x4, v5, v6] [] h = run (d + 1) md_268 1083 [vr a0, vr a1, vr a2, vr a3, vi x4, v5, v6] [vr a1] h := (run_step _ _ _ _ _ _).trans rfl
set_option maxRecDepth 8000 in
theorem s_268_1083 : run (d + 1) md_268 1083 [vr a0, vr a1, vr a2, vr a3, vi x4, v5, v6] [vr b0] h = run (d + 1) md_268 1084 [vr a0, vr a1, vr a2, vr a3, vi x4, v5, v6] [vr a0, vr b0] h := (run_step _ _ _ _ _ _).trans rfl
set_option maxRecDepth 8000 in
theorem s_268_1084 : run (d + 1) md_268 1084 [vr a0, vr a1, vr a2, vr a3, vi x4, v5, v6] [vr b1, vr b0] h = run (d + 1) md_268 1086 [vr a0, vr a1, vr a2, vr a3, vi x4, v5, v6] [vi x4, vr b1, vr b0] h := (run_step _ _ _ _ _ _).trans rfl
set_option maxRecDepth 8000 in
theorem s_268_1086 : run (d + 1) md_268 1086 [vr a0, vr a1, vr a2, vr a3, vi x4, v5, v6] [vi z2, vr b1, vr b0] h = run (d + 1) md_268 1087 [vr a0, vr a1, vr a2, vr a3, vi x4, v5, v6] [vi 1, vi z2, vr b1, vr b0] h := (run_step _ _ _ _ _ _).trans rfl
set_option maxRecDepth 8000 in
theorem s_268_1087 : run (d + 1) md_268 1087 [vr a0, vr a1, vr a2, vr a3, vi x4, v5, v6] [vi z3, vi z2, vr b1, vr b0] h = run (d + 1) md_268 1088 [vr a0, vr a1, vr a2, vr a3, vi x4, v5, v6] [vi (i_add z2 z3), vr b1, vr b0] h := (run_step _ _ _ _ _ _).trans rfl
set_option maxRecDepth 8000 in
theorem s_268_1088 : run (d + 1) md_268 1088 [vr a0, vr a1, vr a2, vr a3, vi x4, v5, v6] [vi z2, vr b1, vr b0] h = bif (isK h b1 11 || isK h b1 21) && inb h b1 z2 then run (d + 1) md_268 1089 [vr a0, vr a1, vr a2, vr a3, vi x4, v5, v6] [vi (h_mi h b1 (z2 : Int).toNat), vr b0] h else none := (run_step _ _ _ _ _ _).trans rfl
set_option maxRecDepth 20000 in
set_option maxRecDepth 8000 in
theorem s_268_1089 : run (d + 1) md_268 1089 [vr a0, vr a1, vr a2, vr a3, vi x4, v5, v6] [vi z1, vr b0] h = bif isK h b0 8 then bI (ev d 131 [vr b0, vi z1] h) fun r1 h1 => run (d + 1) md_268 1092 [vr a0, vr a1, vr a2, vr a3, vi x4, v5, v6] [vi r1] h1 else none := (run_step _ _ _ _ _ _).trans rfl
set_option maxRecDepth 8000 in
theorem s_268_1092 : run (d + 1) md_268 1092 [vr a0, vr a1, vr a2, vr a3, vi x4, v5, v6] [vi z0] h = run (d + 1) md_268 1093 [vr a0, vr a1, vr a2, vr a3, vi x4, v5, v6] [vr a2, vi z0] h := (run_step _ _ _ _ _ _).trans rfl
set_option maxRecDepth 8000 in
theorem s_268_1093 : run (d + 1) md_268 1093 [vr a0, vr a1, vr a2, vr a3, vi x4, v5, v6] [vr b1, vi z0] h = run (d + 1) md_268 1094 [vr a0, vr a1, vr a2, vr a3, vi x4, v5, v6] [vr a0, vr b1, vi z0] h := (run_step _ _ _ _ _ _).trans rfl
set_option maxRecDepth 8000 in
theorem s_268_1094 : run (d + 1) md_268 1094 [vr a0, vr a1, vr a2, vr a3, vi x4, v5, v6] [vr b2, vr b1, vi z0] h = run (d + 1) md_268 1096 [vr a0, vr a1, vr a2, vr a3, vi x4, v5, v6] [vi x4, vr b2, vr b1, vi z0] h := (run_step _ _ _ _ _ _).trans rfl
set_option maxRecDepth 8000 in
theorem s_268_1096 : run (d + 1) md_268 1096 [vr a0, vr a1, vr a2, vr a3, vi x4, v5, v6] [vi z3, vr b2, vr b1, vi z0] h = run (d + 1) md_268 1097 [vr a0, vr a1, vr a2, vr a3, vi x4, v5, v6] [vi 1, vi z3, vr b2, vr b1, vi z0] h := (run_step _ _ _ _ _ _).trans rfl
set_option maxRecDepth 8000 in
theorem s_268_1097 : run (d + 1) md_268 1097 [vr a0, vr a1, vr a2, vr a3, vi x4, v5, v6] [vi z4, vi z3, vr b2, vr b1, vi z0] h = run (d + 1) md_268 1098 [vr a0, vr a1, vr a2, vr a3, vi x4, v5, v6] [vi (i_add z3 z4), vr b2, vr b1, vi z0] h := (run_step _ _ _ _ _ _).trans rfl
set_option maxRecDepth 8000 in
theorem s_268_1098 : run (d + 1) md_268 1098 [vr a0, vr a1, vr a2, vr a3, vi x4, v5, v6] [vi z3, vr b2, vr b1, vi z0] h = bif (isK h b2 11 || isK h b2 21) && inb h b2 z3 then run (d + 1) md_268 1099 [vr a0, vr a1, vr a2, vr a3, vi x4, v5, v6] [vi (h_mi h b2 (z3 : Int).toNat), vr b1, vi z0] h else none := (run_step _ _ _ _ _ _).trans rfl
set_option maxRecDepth 20000 in
set_option maxRecDepth 8000 in
theorem s_268_1099 : run (d + 1) md_268 1099 [vr a0, vr a1, vr a2, vr a3, vi x4, v5, v6] [vi z2, vr b1, vi z0] h = bif isK h b1 9 then bI (ev d 239 [vr b1, vi z2] h) fun r1 h1 => run (d + 1) md_268 1102 [vr a0, vr a1, vr a2, vr a3, vi x4, v5, v6] [vi r1, vi z0] h1 else none := (run_step _ _ _ _ _ _).trans rfl
set_option maxRecDepth 8000 in
theorem s_268_1102 : run (d + 1) md_268 1102 [vr a0, vr a1, vr a2, vr a3, vi x4, v5, v6] [vi z1, vi z0] h = bif decide (z0 = z1) then run (d + 1) md_268 1498 [vr a0, vr a1, vr a2, vr a3, vi x4, v5, v6] [] h else run (d + 1) md_268 1105 [vr a0, vr a1, vr a2, vr a3, vi x4, v5, v6] [] h := (run_step _ _ _ _ _ _).trans rfl
set_option maxRecDepth 8000 in
theorem s_268_1105 : run (d + 1) md_268 1105 [vr a0, vr a1, vr a2, vr a3, vi x4, v5, v6] [] h = run (d + 1) md_268 1106 [vr a0, vr a1, vr a2, vr a3, vi x4, v5, v6] [vi 0] h := (run_step _ _ _ _ _ _).trans rfl
set_option maxRecDepth 8000 in
theorem s_268_1106 : run (d + 1) md_268 1106 [vr a0, vr a1, vr a2, vr a3, vi x4, v5, v6] [vi z0] h = bif decide (z0 = 0) || decide (z0 = 1) then some (vi z0, h) else none := (run_step _ _ _ _ _ _).trans rfl
set_option maxRecDepth 8000 in
theorem s_268_1107 : run (d + 1) md_268 1107 [vr a0, vr a1, vr a2, vr a3, vi x4, v5, v6] [] h = run (d + 1) md_268 1108 [vr a0, vr a1, vr a2, vr a3, vi x4, v5, v6] [vr a1] h := (run_step _ _ _ _ _ _).trans rfl
set_option maxRecDepth 8000 in
theorem s_268_1108 : run (d + 1) md_268 1108 [vr a0, vr a1, vr a2, vr a3, vi x4, v5, v6] [vr b0] h = run (d + 1) md_268 1109 [vr a0, vr a1, vr a2, vr a3, vi x4, v5, v6] [vr a0, vr b0] h := (run_step _ _ _ _ _ _).trans rfl
set_option maxRecDepth 8000 in
theorem s_268_1109 : run (d + 1) md_268 1109 [vr a0, vr a1, vr a2, vr a3, vi x4, v5, v6] [vr b1, vr b0] h = run (d + 1) md_268 1111 [vr a0, vr a1, vr a2, vr a3, vi x4, v5, v6] [vi x4, vr b1, vr b0] h := (run_step _ _ _ _ _ _).trans rfl
set_option maxRecDepth 8000 in
theorem s_268_1111 : run (d + 1) md_268 1111 [vr a0, vr a1, vr a2, vr a3, vi x4, v5, v6] [vi z2, vr b1, vr b0] h = run (d + 1) md_268 1112 [vr a0, vr a1, vr a2, vr a3, vi x4, v5, v6] [vi 1, vi z2, vr b1, vr b0] h := (run_step _ _ _ _ _ _).trans rfl
set_option maxRecDepth 8000 in
theorem s_268_1112 : run (d + 1) md_268 1112 [vr a0, vr a1, vr a2, vr a3, vi x4, v5, v6] [vi z3, vi z2, vr b1, vr b0] h = run (d + 1) md_268 1113 [vr a0, vr a1, vr a2, vr a3, vi x4, v5, v6] [vi (i_add z2 z3), vr b1, vr b0] h := (run_step _ _ _ _ _ _).trans rfl
set_option maxRecDepth 8000 in
theorem s_268_1113 : run (d + 1) md_268 1113 [vr a0, vr a1, vr a2, vr a3, vi x4, v5, v6] [vi z2, vr b1, vr b0] h = bif (isK h b1 11 || isK h b1 21) && inb h b1 z2 then run (d + 1) md_268 1114 [vr a0, vr a1, vr a2, vr a3, vi x4, v5, v6] [vi (h_mi h b1 (z2 : Int).toNat), vr b0] h else none := (run_step _ _ _ _ _ _).trans rfl
set_option maxRecDepth 8000 in
theorem s_268_1114 : run (d + 1) md_268 1114 [vr a0, vr a1, vr a2, vr a3, vi x4, v5, v6] [vi z1, vr b0] h = run (d + 1) md_268 1115 [vr a0, vr a1, vr a2, vr a3, vi x4, v5, v6] [vr a0, vi z1, vr b0] h := (run_step _ _ _ _ _ _).trans rfl
set_option maxRecDepth 8000 in
theorem s_268_1115 : run (d + 1) md_268 1115 [vr a0, vr a1, vr a2, vr a3, vi x4, v5, v6] [vr b2, vi z1, vr b0] h = run (d + 1) md_268 1117 [vr a0, vr a1, vr a2, vr a3, vi x4, v5, v6] [vi x4, vr b2, vi z1, vr b0] h := (run_step _ _ _ _ _ _).trans rfl
set_option maxRecDepth 8000 in
theorem s_268_1117 : run (d + 1) md_268 1117 [vr a0, vr a1, vr a2, vr a3, vi x4, v5, v6] [vi z3, vr b2, vi z1, vr b0] h = run (d + 1) md_268 1118 [vr a0, vr a1, vr a2, vr a3, vi x4, v5, v6] [vi 2, vi z3, vr b2, vi z1, vr b0] h := (run_step _ _ _ _ _ _).trans rfl
set_option maxRecDepth 8000 in
theorem s_268_1118 : run (d + 1) md_268 1118 [vr a0, vr a1, vr a2, vr a3, vi x4, v5, v6] [vi z4, vi z3, vr b2, vi z1, vr b0] h = run (d + 1) md_268 1119 [vr a0, vr a1, vr a2, vr a3, vi x4, v5, v6] [vi (i_add z3 z4), vr b2, vi z1, vr b0] h := (run_step _ _ _ _ _ _).trans rfl
set_option maxRecDepth 8000 in
theorem s_268_1119 : run (d + 1) md_268 1119 [vr a0, vr a1, vr a2, vr a3, vi x4, v5, v6] [vi z3, vr b2, vi z1, vr b0] h = bif (isK h b2 11 || isK h b2 21) && inb h b2 z3 then run (d + 1) md_268 1120 [vr a0, vr a1, vr a2, vr a3, vi x4, v5, v6] [vi (h_mi h b2 (z3 : Int).toNat), vi z1, vr b0] h else none := (run_step _ _ _ _ _ _).trans rfl
set_option maxRecDepth 20000 in
set_option maxRecDepth 8000 in
theorem s_268_1120 : run (d + 1) md_268 1120 [vr a0, vr a1, vr a2, vr a3, vi x4, v5, v6] [vi z2, vi z1, vr b0] h = bif isK h b0 8 then bI (ev d 132 [vr b0, vi z1, vi z2] h) fun r1 h1 => run (d + 1) md_268 1123 [vr a0, vr a1, vr a2, vr a3, vi x4, v5, v6] [vi r1] h1 else none := (run_step _ _ _ _ _ _).trans rfl
set_option maxRecDepth 8000 in
theorem s_268_1123 : run (d + 1) md_268 1123 [vr a0, vr a1, vr a2, vr a3, vi x4, v5, v6] [vi z0] h = run (d + 1) md_268 1124 [vr a0, vr a1, vr a2, vr a3, vi x4, v5, v6] [vr a2, vi z0] h := (run_step _ _ _ _ _ _).trans rfl
set_option maxRecDepth 8000 in
theorem s_268_1124 : run (d + 1) md_268 1124 [vr a0, vr a1, vr a2, vr a3, vi x4, v5, v6] [vr b1, vi z0] h = run (d + 1) md_268 1125 [vr a0, vr a1, vr a2, vr a3, vi x4, v5, v6] [vr a0, vr b1, vi z0] h := (run_step _ _ _ _ _ _).trans rfl
set_option maxRecDepth 8000 in
theorem s_268_1125 : run (d + 1) md_268 1125 [vr a0, vr a1, vr a2, vr a3, vi x4, v5, v6] [vr b2, vr b1, vi z0] h = run (d + 1) md_268 1127 [vr a0, vr a1, vr a2, vr a3, vi x4, v5, v6] [vi x4, vr b2, vr b1, vi z0] h := (run_step _ _ _ _ _ _).trans rfl
set_option maxRecDepth 8000 in
theorem s_268_1127 : run (d + 1) md_268 1127 [vr a0, vr a1, vr a2, vr a3, vi x4, v5, v6] [vi z3, vr b2, vr b1, vi z0] h = run (d + 1) md_268 1128 [vr a0, vr a1, vr a2, vr a3, vi x4, v5, v6] [vi 1, vi z3, vr b2, vr b1, vi z0] h := (run_step _ _ _ _ _ _).trans rfl
set_option maxRecDepth 8000 in
theorem s_268_1128 : run (d + 1) md_268 1128 [vr a0, vr a1, vr a2, vr a3, vi x4, v5, v6] [vi z4, vi z3, vr b2, vr b1, vi z0] h = run (d + 1) md_268 1129 [vr a0, vr a1, vr a2, vr a3, vi x4, v5, v6] [vi (i_add z3 z4), vr b2, vr b1, vi z0] h := (run_step _ _ _ _ _ _).trans rfl
set_option maxRecDepth 8000 in
theorem s_268_1129 : run (d + 1) md_268 1129 [vr a0, vr a1, vr a2, vr a3, vi x4, v5, v6] [vi z3, vr b2, vr b1, vi z0] h = bif (isK h b2 11 || isK h b2 21) && inb h b2 z3 then run (d + 1) md_268 1130 [vr a0, vr a1, vr a2, vr a3, vi x4, v5, v6] [vi (h_mi h b2 (z3 : Int).toNat), vr b1, vi z0] h else none := (run_step _ _ _ _ _ _).trans rfl
set_option maxRecDepth 8000 in
theorem s_268_1130 : run (d + 1) md_268 1130 [vr a0, vr a1, vr a2, vr a3, vi x4, v5, v6] [vi z2, vr b1, vi z0] h = run (d + 1) md_268 1131 [vr a0, vr a1, vr a2, vr a3, vi x4, v5, v6] [vr a0, vi z2, vr b1, vi z0] h := (run_step _ _ _ _ _ _).trans rfl
set_option maxRecDepth 8000 in
theorem s_268_1131 : run (d + 1) md_268 1131 [vr a0, vr a1, vr a2, vr a3, vi x4, v5, v6] [vr b3, vi z2, vr b1, vi z0] h = run (d + 1) md_268 1133 [vr a0, vr a1, vr a2, vr a3, vi x4, v5, v6] [vi x4, vr b3, vi z2, vr b1, vi z0] h := (run_step _ _ _ _ _ _).trans rfl
set_option maxRecDepth 8000 in
theorem s_268_1133 : run (d + 1) md_268 1133 [vr a0, vr a1, vr a2, vr a3, vi x4, v5, v6] [vi z4, vr b3, vi z2, vr b1, vi z0] h = run (d + 1) md_268 1134 [vr a0, vr a1, vr a2, vr a3, vi x4, v5, v6] [vi 2, vi z4, vr b3, vi z2, vr b1, vi z0] h := (run_step _ _ _ _ _ _).trans rfl
set_option maxRecDepth 8000 in
theorem s_268_1134 : run (d + 1) md_268 1134 [vr a0, vr a1, vr a2, vr a3, vi x4, v5, v6] [vi z5, vi z4, vr b3, vi z2, vr b1, vi z0] h = run (d + 1) md_268 1135 [vr a0, vr a1, vr a2, vr a3, vi x4, v5, v6] [vi (i_add z4 z5), vr b3, vi z2, vr b1, vi z0] h := (run_step _ _ _ _ _ _).trans rfl
set_option maxRecDepth 8000 in
theorem s_268_1135 : run (d + 1) md_268 1135 [vr a0, vr a1, vr a2, vr a3, vi x4, v5, v6] [vi z4, vr b3, vi z2, vr b1, vi z0] h = bif (isK h b3 11 || isK h b3 21) && inb h b3 z4 then run (d + 1) md_268 1136 [vr a0, vr a1, vr a2, vr a3, vi x4, v5, v6] [vi (h_mi h b3 (z4 : Int).toNat), vi z2, vr b1, vi z0] h else none := (run_step _ _ _ _ _ _).trans rfl
set_option maxRecDepth 20000 in
set_option maxRecDepth 8000 in
theorem s_268_1136 : run (d + 1) md_268 1136 [vr a0, vr a1, vr a2, vr a3, vi x4, v5, v6] [vi z3, vi z2, vr b1, vi z0] h = bif isK h b1 9 then bI (ev d 240 [vr b1, vi z2, vi z3] h) fun r1 h1 => run (d + 1) md_268 1139 [vr a0, vr a1, vr a2, vr a3, vi x4, v5, v6] [vi r1, vi z0] h1 else none := (run_step _ _ _ _ _ _).trans rfl
set_option maxRecDepth 8000 in
theorem s_268_1139 : run (d + 1) md_268 1139 [vr a0, vr a1, vr a2, vr a3, vi x4, v5, v6] [vi z1, vi z0] h = bif decide (z0 = z1) then run (d + 1) md_268 1498 [vr a0, vr a1, vr a2, vr a3, vi x4, v5, v6] [] h else run (d + 1) md_268 1142 [vr a0, vr a1, vr a2, vr a3, vi x4, v5, v6] [] h := (run_step _ _ _ _ _ _).trans rfl
set_option maxRecDepth 8000 in
theorem s_268_1142 : run (d + 1) md_268 1142 [vr a0, vr a1, vr a2, vr a3, vi x4, v5, v6] [] h = run (d + 1) md_268 1143 [vr a0, vr a1, vr a2, vr a3, vi x4, v5, v6] [vi 0] h := (run_step _ _ _ _ _ _).trans rfl
set_option maxRecDepth 8000 in
theorem s_268_1143 : run (d + 1) md_268 1143 [vr a0, vr a1, vr a2, vr a3, vi x4, v5, v6] [vi z0] h = bif decide (z0 = 0) || decide (z0 = 1) then some (vi z0, h) else none := (run_step _ _ _ _ _ _).trans rfl
set_option maxRecDepth 8000 in
theorem s_268_1144 : run (d + 1) md_268 1144 [vr a0, vr a1, vr a2, vr a3, vi x4, v5, v6] [] h = run (d + 1) md_268 1145 [vr a0, vr a1, vr a2, vr a3, vi x4, v5, v6] [vr a1] h := (run_step _ _ _ _ _ _).trans rfl
set_option maxRecDepth 20000 in
set_option maxRecDepth 8000 in
theorem s_268_1145 : run (d + 1) md_268 1145 [vr a0, vr a1, vr a2, vr a3, vi x4, v5, v6] [vr b0] h = bif isK h b0 8 then bI (ev d 133 [vr b0] h) fun r1 h1 => run (d + 1) md_268 1148 [vr a0, vr a1, vr a2, vr a3, vi x4, v5, v6] [vi r1] h1 else none := (run_step _ _ _ _ _ _).trans rfl
set_option maxRecDepth 8000 in
theorem s_268_1148 : run (d + 1) md_268 1148 [vr a0, vr a1, vr a2, vr a3, vi x4, v5, v6] [vi z0] h = run (d + 1) md_268 1149 [vr a0, vr a1, vr a2, vr a3, vi x4, v5, v6] [vr a2, vi z0] h := (run_step _ _ _ _ _ _).trans rfl
set_option maxRecDepth 20000 in
set_option maxRecDepth 8000 in
theorem s_268_1149 : run (d + 1) md_268 1149 [vr a0, vr a1, vr a2, vr a3, vi x4, v5, v6] [vr b1, vi z0] h = bif isK h b1 9 then bI (ev d 241 [vr b1] h) fun r1 h1 => run (d + 1) md_268 1152 [vr a0, vr a1, vr a2, vr a3, vi x4, v5, v6] [vi r1, vi z0] h1 else none := (run_step _ _ _ _ _ _).trans rfl
set_option maxRecDepth 8000 in
theorem s_268_1152 : run (d + 1) md_268 1152 [vr a0, vr a1, vr a2, vr a3, vi x4, v5, v6] [vi z1, vi z0] h = bif decide (z0 = z1) then run (d + 1) md_268 1498 [vr a0, vr a1, vr a2, vr a3, vi x4, v5, v6] [] h else run (d + 1) md_268 1155 [vr a0, vr a1, vr a2, vr a3, vi x4, v5, v6] [] h := (run_step _ _ _ _ _ _).trans rfl
set_option maxRecDepth 8000 in
theorem s_268_1155 : run (d + 1) md_268 1155 [vr a0, vr a1, vr a2, vr a3, vi x4, v5, v6] [] h = run (d + 1) md_268 1156 [vr a0, vr a1, vr a2, vr a3, vi x4, v5, v6] [vi 0] h := (run_step _ _ _ _ _ _).trans rfl
set_option maxRecDepth 8000 in
theorem s_268_1156 : run (d + 1) md_268 1156 [vr a0, vr a1, vr a2, vr a3, vi x4, v5, v6] [vi z0] h = bif decide (z0 = 0) || decide (z0 = 1) then some (vi z0, h) else none := (run_step _ _ _ _ _ _).trans rfl
set_option maxRecDepth 8000 in
theorem s_268_1157 : run (d + 1) md_268 1157 [vr a0, vr a1, vr a2, vr a3, vi x4, v5, v6] [] h = run (d + 1) md_268 1158 [vr a0, vr a1, vr a2, vr a3, vi x4, v5, v6] [vr a1] h := (run_step _ _ _ _ _ _).trans rfl
set_option maxRecDepth 8000 in
theorem s_268_1158 : run (d + 1) md_268 1158 [vr a0, vr a1, vr a2, vr a3, vi x4, v5, v6] [vr b0] h = run (d + 1) md_268 1159 [vr a0, vr a1, vr a2, vr a3, vi x4, v5, v6] [vr a0, vr b0] h := (run_step _ _ _ _ _ _).trans rfl
set_option maxRecDepth 8000 in
theorem s_268_1159 : run (d + 1) md_268 1159 [vr a0, vr a1, vr a2, vr a3, vi x4, v5, v6] [vr b1, vr b0] h = run (d + 1) md_268 1161 [vr a0, vr a1, vr a2, vr a3, vi x4, v5, v6] [vi x4, vr b1, vr b0] h := (run_step _ _ _ _ _ _).trans rfl
set_option maxRecDepth 8000 in
theorem s_268_1161 : run (d + 1) md_268 1161 [vr a0, vr a1, vr a2, vr a3, vi x4, v5, v6] [vi z2, vr b1, vr b0] h = run (d + 1) md_268 1162 [vr a0, vr a1, vr a2, vr a3, vi x4, v5, v6] [vi 1, vi z2, vr b1, vr b0] h := (run_step _ _ _ _ _ _).trans rfl
set_option maxRecDepth 8000 in
theorem s_268_1162 : run (d + 1) md_268 1162 [vr a0, vr a1, vr a2, vr a3, vi x4, v5, v6] [vi z3, vi z2, vr b1, vr b0] h = run (d + 1) md_268 1163 [vr a0, vr a1, vr a2, vr a3, vi x4, v5, v6] [vi (i_add z2 z3), vr b1, vr b0] h := (run_step _ _ _ _ _ _).trans rfl
set_option maxRecDepth 8000 in
theorem s_268_1163 : run (d + 1) md_268 1163 [vr a0, vr a1, vr a2, vr a3, vi x4, v5, v6] [vi z2, vr b1, vr b0] h = bif (isK h b1 11 || isK h b1 21) && inb h b1 z2 then run (d + 1) md_268 1164 [vr a0, vr a1, vr a2, vr a3, vi x4, v5, v6] [vi (h_mi h b1 (z2 : Int).toNat), vr b0] h else none := (run_step _ _ _ _ _ _).trans rfl
set_option maxRecDepth 8000 in
theorem s_268_1164 : run (d + 1) md_268 1164 [vr a0, vr a1, vr a2, vr a3, vi x4, v5, v6] [vi z1, vr b0] h = run (d + 1) md_268 1165 [vr a0, vr a1, vr a2, vr a3, vi x4, v5, v6] [vr a0, vi z1, vr b0] h := (run_step _ _ _ _ _ _).trans rfl
set_option maxRecDepth 8000 in
theorem s_268_1165 : run (d + 1) md_268 1165 [vr a0, vr a1, vr a2, vr a3, vi x4, v5, v6] [vr b2, vi z1, vr b0] h = run (d + 1) md_268 1167 [vr a0, vr a1, vr a2, vr a3, vi x4, v5, v6] [vi x4, vr b2, vi z1, vr b0] h := (run_step _ _ _ _ _ _).trans rfl
set_option maxRecDepth 8000 in
theorem s_268_1167 : run (d + 1) md_268 1167 [vr a0, vr a1, vr a2, vr a3, vi x4, v5, v6] [vi z3, vr b2, vi z1, vr b0] h = run (d + 1) md_268 1168 [vr a0, vr a1, vr a2, vr a3, vi x4, v5, v6] [vi 2, vi z3, vr b2, vi z1, vr b0] h := (run_step _ _ _ _ _ _).trans rfl
set_option maxRecDepth 8000 in
theorem s_268_1168 : run (d + 1) md_268 1168 [vr a0, vr a1, vr a2, vr a3, vi x4, v5, v6] [vi z4, vi z3, vr b2, vi z1, vr b0] h = run (d + 1) md_268 1169 [vr a0, vr a1, vr a2, vr a3, vi x4, v5, v6] [vi (i_add z3 z4), vr b2, vi z1, vr b0] h := (run_step _ _ _ _ _ _).trans rfl
set_option maxRecDepth 8000 in
theorem s_268_1169 : run (d + 1) md_268 1169 [vr a0, vr a1, vr a2, vr a3, vi x4, v5, v6] [vi z3, vr b2, vi z1, vr b0] h = bif (isK h b2 11 || isK h b2 21) && inb h b2 z3 then run (d + 1) md_268 1170 [vr a0, vr a1, vr a2, vr a3, vi x4, v5, v6] [vi (h_mi h b2 (z3 : Int).toNat), vi z1, vr b0] h else none := (run_step _ _ _ _ _ _).trans rfl
set_option maxRecDepth 8000 in
theorem s_268_1170 : run (d + 1) md_268 1170 [vr a0, vr a1, vr a2, vr a3, vi x4, v5, v6] [vi z2, vi z1, vr b0] h = run (d + 1) md_268 1171 [vr a0, vr a1, vr a2, vr a3, vi x4, v5, v6] [vr a0, vi z2, vi z1, vr b0] h := (run_step _ _ _ _ _ _).trans rfl
set_option maxRecDepth 8000 in
theorem s_268_1171 : run (d + 1) md_268 1171 [vr a0, vr a1, vr a2, vr a3, vi x4, v5, v6] [vr b3, vi z2, vi z1, vr b0] h = run (d + 1) md_268 1173 [vr a0, vr a1, vr a2, vr a3, vi x4, v5, v6] [vi x4, vr b3, vi z2, vi z1, vr b0] h := (run_step _ _ _ _ _ _).trans rfl
set_option maxRecDepth 8000 in
theorem s_268_1173 : run (d + 1) md_268 1173 [vr a0, vr a1, vr a2, vr a3, vi x4, v5, v6] [vi z4, vr b3, vi z2, vi z1, vr b0] h = run (d + 1) md_268 1174 [vr a0, vr a1, vr a2, vr a3, vi x4, v5, v6] [vi 3, vi z4, vr b3, vi z2, vi z1, vr b0] h := (run_step _ _ _ _ _ _).trans rfl
set_option maxRecDepth 8000 in
theorem s_268_1174 : run (d + 1) md_268 1174 [vr a0, vr a1, vr a2, vr a3, vi x4, v5, v6] [vi z5, vi z4, vr b3, vi z2, vi z1, vr b0] h = run (d + 1) md_268 1175 [vr a0, vr a1, vr a2, vr a3, vi x4, v5, v6] [vi (i_add z4 z5), vr b3, vi z2, vi z1, vr b0] h := (run_step _ _ _ _ _ _).trans rfl
set_option maxRecDepth 8000 in
theorem s_268_1175 : run (d + 1) md_268 1175 [vr a0, vr a1, vr a2, vr a3, vi x4, v5, v6] [vi z4, vr b3, vi z2, vi z1, vr b0] h = bif (isK h b3 11 || isK h b3 21) && inb h b3 z4 then run (d + 1) md_268 1176 [vr a0, vr a1, vr a2, vr a3, vi x4, v5, v6] [vi (h_mi h b3 (z4 : Int).toNat), vi z2, vi z1, vr b0] h else none := (run_step _ _ _ _ _ _).trans rfl
set_option maxRecDepth 20000 in
set_option maxRecDepth 8000 in
theorem s_268_1176 : run (d + 1) md_268 1176 [vr a0, vr a1, vr a2, vr a3, vi x4, v5, v6] [vi z3, vi z2, vi z1, vr b0] h = bif isK h b0 8 then bI (ev d 134 [vr b0, vi z1, vi z2, vi z3] h) fun r1 h1 => run (d + 1) md_268 1179 [vr a0, vr a1, vr a2, vr a3, vi x4, v5, v6] [vi r1] h1 else none := (run_step _ _ _ _ _ _).trans rfl
set_option maxRecDepth 8000 in
theorem s_268_1179 : run (d + 1) md_268 1179 [vr a0, vr a1, vr a2, vr a3, vi x4, v5, v6] [vi z0] h = run (d + 1) md_268 1180 [vr a0, vr a1, vr a2, vr a3, vi x4, v5, v6] [vr a2, vi z0] h := (run_step _ _ _ _ _ _).trans rfl
set_option maxRecDepth 8000 in
theorem s_268_1180 : run (d + 1) md_268 1180 [vr a0, vr a1, vr a2, vr a3, vi x4, v5, v6] [vr b1, vi z0] h = run (d + 1) md_268 1181 [vr a0, vr a1, vr a2, vr a3, vi x4, v5, v6] [vr a0, vr b1, vi z0] h := (run_step _ _ _ _ _ _).trans rfl
set_option maxRecDepth 8000 in
theorem s_268_1181 : run (d + 1) md_268 1181 [vr a0, vr a1, vr a2, vr a3, vi x4, v5, v6] [vr b2, vr b1, vi z0] h = run (d + 1) md_268 1183 [vr a0, vr a1, vr a2, vr a3, vi x4, v5, v6] [vi x4, vr b2, vr b1, vi z0] h := (run_step _ _ _ _ _ _).trans rfl
set_option maxRecDepth 8000 in
theorem s_268_1183 : run (d + 1) md_268 1183 [vr a0, vr a1, vr a2, vr a3, vi x4, v5, v6] [vi z3, vr b2, vr b1, vi z0] h = run (d + 1) md_268 1184 [vr a0, vr a1, vr a2, vr a3, vi x4, v5, v6] [vi 1, vi z3, vr b2, vr b1, vi z0] h := (run_step _ _ _ _ _ _).trans rfl
set_option maxRecDepth 8000 in
theorem s_268_1184 : run (d + 1) md_268 1184 [vr a0, vr a1, vr a2, vr a3, vi x4, v5, v6] [vi z4, vi z3, vr b2, vr b1, vi z0] h = run (d + 1) md_268 1185 [vr a0, vr a1, vr a2, vr a3, vi x4, v5, v6] [vi (i_add z3 z4), vr b2, vr b1, vi z0] h := (run_step _ _ _ _ _ _).trans rfl
set_option maxRecDepth 8000 in
theorem s_268_1185 : run (d + 1) md_268 1185 [vr a0, vr a1, vr a2, vr a3, vi x4, v5, v6] [vi z3, vr b2, vr b1, vi z0] h = bif (isK h b2 11 || isK h b2 21) && inb h b2 z3 then run (d + 1) md_268 1186 [vr a0, vr a1, vr a2, vr a3, vi x4, v5, v6] [vi (h_mi h b2 (z3 : Int).toNat), vr b1, vi z0] h else none := (run_step _ _ _ _ _ _).trans rfl
set_option maxRecDepth 8000 in
theorem s_268_1186 : run (d + 1) md_268 1186 [vr a0, vr a1, vr a2, vr a3, vi x4, v5, v6] [vi z2, vr b1, vi z0] h = run (d + 1) md_268 1187 [vr a0, vr a1, vr a2, vr a3, vi x4, v5, v6] [vr a0, vi z2, vr b1, vi z0] h := (run_step _ _ _ _ _ _).trans rfl
set_option maxRecDepth 8000 in
theorem s_268_1187 : run (d + 1) md_268 1187 [vr a0, vr a1, vr a2, vr a3, vi x4, v5, v6] [vr b3, vi z2, vr b1, vi z0] h = run (d + 1) md_268 1189 [vr a0, vr a1, vr a2, vr a3, vi x4, v5, v6] [vi x4, vr b3, vi z2, vr b1, vi z0] h := (run_step _ _ _ _ _ _).trans rfl
set_option maxRecDepth 8000 in
theorem s_268_1189 : run (d + 1) md_268 1189 [vr a0, vr a1, vr a2, vr a3, vi x4, v5, v6] [vi z4, vr b3, vi z2, vr b1, vi z0] h = run (d + 1) md_268 1190 [vr a0, vr a1, vr a2, vr a3, vi x4, v5, v6] [vi 2, vi z4, vr b3, vi z2, vr b1, vi z0] h := (run_step _ _ _ _ _ _).trans rfl
set_option maxRecDepth 8000 in
theorem s_268_1190 : run (d + 1) md_268 1190 [vr a0, vr a1, vr a2, vr a3, vi x4, v5, v6] [vi z5, vi z4, vr b3, vi z2, vr b1, vi z0] h = run (d + 1) md_268 1191 [vr a0, vr a1, vr a2, vr a3, vi x4, v5, v6] [vi (i_add z4 z5), vr b3, vi z2, vr b1, vi z0] h := (run_step _ _ _ _ _ _).trans rfl
set_option maxRecDepth 8000 in
theorem s_268_1191 : run (d + 1) md_268 1191 [vr a0, vr a1, vr a2, vr a3, vi x4, v5, v6] [vi z4, vr b3, vi z2, vr b1, vi z0] h = bif (isK h b3 11 || isK h b3 21) && inb h b3 z4 then run (d + 1) md_268 1192 [vr a0, vr a1, vr a2, vr a3, vi x4, v5, v6] [vi (h_mi h b3 (z4 : Int).toNat), vi z2, vr b1, vi z0] h else none := (run_step _ _ _ _ _ _).trans rfl
set_option maxRecDepth 8000 in
theorem s_268_1192 : run (d + 1) md_268 1192 [vr a0, vr a1, vr a2, vr a3, vi x4, v5, v6] [vi z3, vi z2, vr b1, vi z0] h = run (d + 1) md_268 1193 [vr a0, vr a1, vr a2, vr a3, vi x4, v5, v6] [vr a0, vi z3, vi z2, vr b1, vi z0] h := (run_step _ _ _ _ _ _).trans rfl
set_option maxRecDepth 8000 in
theorem s_268_1193 : run (d + 1) md_268 1193 [vr a0, vr a1, vr a2, vr a3, vi x4, v5, v6] [vr b4, vi z3, vi z2, vr b1, vi z0] h = run (d + 1) md_268 1195 [vr a0, vr a1, vr a2, vr a3, vi x4, v5, v6] [vi x4, vr b4, vi z3, vi z2, vr b1, vi z0] h := (run_step _ _ _ _ _ _).trans rfl
set_option maxRecDepth 8000 in
theorem s_268_1195 : run (d + 1) md_268 1195 [vr a0, vr a1, vr a2, vr a3, vi x4, v5, v6] [vi z5, vr b4, vi z3, vi z2, vr b1, vi z0] h = run (d + 1) md_268 1196 [vr a0, vr a1, vr a2, vr a3, vi x4, v5, v6] [vi 3, vi z5, vr b4, vi z3, vi z2, vr b1, vi z0] h := (run_step _ _ _ _ _ _).trans rfl
set_option maxRecDepth 8000 in
theorem s_268_1196 : run (d + 1) md_268 1196 [vr a0, vr a1, vr a2, vr a3, vi x4, v5, v6] [vi z6, vi z5, vr b4, vi z3, vi z2, vr b1, vi z0] h = run (d + 1) md_268 1197 [vr a0, vr a1, vr a2, vr a3, vi x4, v5, v6] [vi (i_add z5 z6), vr b4, vi z3, vi z2, vr b1, vi z0] h := (run_step _ _ _ _ _ _).trans rfl
set_option maxRecDepth 8000 in
theorem s_268_1197 : run (d + 1) md_268 1197 [vr a0, vr a1, vr a2, vr a3, vi x4, v5, v6] [vi z5, vr b4, vi z3, vi z2, vr b1, vi z0] h = bif (isK h b4 11 || isK h b4 21) && inb h b4 z5 then run (d + 1) md_268 1198 [vr a0, vr a1, vr a2, vr a3, vi x4, v5, v6] [vi (h_mi h b4 (z5 : Int).toNat), vi z3, vi z2, vr b1, vi z0] h else none := (run_step _ _ _ _ _ _).trans rfl
set_option maxRecDepth 20000 in
set_option maxRecDepth 8000 in
theorem s_268_1198 : run (d + 1) md_268 1198 [vr a0, vr a1, vr a2, vr a3, vi x4, v5, v6] [vi z4, vi z3, vi z2, vr b1, vi z0] h = bif isK h b1 9 then bI (ev d 242 [vr b1, vi z2, vi z3, vi z4] h) fun r1 h1 => run (d + 1) md_268 1201 [vr a0, vr a1, vr a2, vr a3, vi x4, v5, v6] [vi r1, vi z0] h1 else none := (run_step _ _ _ _ _ _).trans rfl
set_option maxRecDepth 8000 in
theorem s_268_1201 : run (d + 1) md_268 1201 [vr a0, vr a1, vr a2, vr a3, vi x4, v5, v6] [vi z1, vi z0] h = bif decide (z0 = z1) then run (d + 1) md_268 1498 [vr a0, vr a1, vr a2, vr a3, vi x4, v5, v6] [] h else run (d + 1) md_268 1204 [vr a0, vr a1, vr a2, vr a3, vi x4, v5, v6] [] h := (run_step _ _ _ _ _ _).trans rfl
set_option maxRecDepth 8000 in
theorem s_268_1204 : run (d + 1) md_268 1204 [vr a0, vr a1, vr a2, vr a3, vi x4, v5, v6] [] h = run (d + 1) md_268 1205 [vr a0, vr a1, vr a2, vr a3, vi x4, v5, v6] [vi 0] h := (run_step _ _ _ _ _ _).trans rfl
set_option maxRecDepth 8000 in
theorem s_268_1205 : run (d + 1) md_268 1205 [vr a0, vr a1, vr a2, vr a3, vi x4, v5, v6] [vi z0] h = bif decide (z0 = 0) || decide (z0 = 1) then some (vi z0, h) else none := (run_step _ _ _ _ _ _).trans rfl
set_option maxRecDepth 8000 in
theorem s_268_1206 : run (d + 1) md_268 1206 [vr a0, vr a1, vr a2, vr a3, vi x4, v5, v6] [] h = run (d + 1) md_268 1207 [vr a0, vr a1, vr a2, vr a3, vi x4, v5, v6] [vr a1] h := (run_step _ _ _ _ _ _).trans rfl
set_option maxRecDepth 8000 in
theorem s_268_1207 : run (d + 1) md_268 1207 [vr a0, vr a1, vr a2, vr a3, vi x4, v5, v6] [vr b0] h = run (d + 1) md_268 1208 [vr a0, vr a1, vr a2, vr a3, vi x4, v5, v6] [vr a0, vr b0] h := (run_step _ _ _ _ _ _).trans rfl
set_option maxRecDepth 8000 in
theorem s_268_1208 : run (d + 1) md_268 1208 [vr a0, vr a1, vr a2, vr a3, vi x4, v5, v6] [vr b1, vr b0] h = run (d + 1) md_268 1210 [vr a0, vr a1, vr a2, vr a3, vi x4, v5, v6] [vi x4, vr b1, vr b0] h := (run_step _ _ _ _ _ _).trans rfl
set_option maxRecDepth 8000 in
theorem s_268_1210 : run (d + 1) md_268 1210 [vr a0, vr a1, vr a2, vr a3, vi x4, v5, v6] [vi z2, vr b1, vr b0] h = run (d + 1) md_268 1211 [vr a0, vr a1, vr a2, vr a3, vi x4, v5, v6] [vi 1, vi z2, vr b1, vr b0] h := (run_step _ _ _ _ _ _).trans rfl
set_option maxRecDepth 8000 in
theorem s_268_1211 : run (d + 1) md_268 1211 [vr a0, vr a1, vr a2, vr a3, vi x4, v5, v6] [vi z3, vi z2, vr b1, vr b0] h = run (d + 1) md_268 1212 [vr a0, vr a1, vr a2, vr a3, vi x4, v5, v6] [vi (i_add z2 z3), vr b1, vr b0] h := (run_step _ _ _ _ _ _).trans rfl
set_option maxRecDepth 8000 in
theorem s_268_1212 : run (d + 1) md_268 1212 [vr a0, vr a1, vr a2, vr a3, vi x4, v5, v6] [vi z2, vr b1, vr b0] h = bif (isK h b1 11 || isK h b1 21) && inb h b1 z2 then run (d + 1) md_268 1213 [vr a0, vr a1, vr a2, vr a3, vi x4, v5, v6] [vi (h_mi h b1 (z2 : Int).toNat), vr b0] h else none := (run_step _ _ _ _ _ _).trans rfl
set_option maxRecDepth 8000 in
theorem s_268_1213 : run (d + 1) md_268 1213 [vr a0, vr a1, vr a2, vr a3, vi x4, v5, v6] [vi z1, vr b0] h = run (d + 1) md_268 1214 [vr a0, vr a1, vr a2, vr a3, vi x4, v5, v6] [vr a0, vi z1, vr b0] h := (run_step _ _ _ _ _ _).trans rfl
set_option maxRecDepth 8000 in
theorem s_268_1214 : run (d + 1) md_268 1214 [vr a0, vr a1, vr a2, vr a3, vi x4, v5, v6] [vr b2, vi z1, vr b0] h = run (d + 1) md_268 1216 [vr a0, vr a1, vr a2, vr a3, vi x4, v5, v6] [vi x4, vr b2, vi z1, vr b0] h := (run_step _ _ _ _ _ _).trans rfl
set_option maxRecDepth 8000 in
theorem s_268_1216 : run (d + 1) md_268 1216 [vr a0, vr a1, vr a2, vr a3, vi x4, v5, v6] [vi z3, vr b2, vi z1, vr b0] h = run (d + 1) md_268 1217 [vr a0, vr a1, vr a2, vr a3, vi x4, v5, v6] [vi 2, vi z3, vr b2, vi z1, vr b0] h := (run_step _ _ _ _ _ _).trans rfl
set_option maxRecDepth 8000 in
theorem s_268_1217 : run (d + 1) md_268 1217 [vr a0, vr a1, vr a2, vr a3, vi x4, v5, v6] [vi z4, vi z3, vr b2, vi z1, vr b0] h = run (d + 1) md_268 1218 [vr a0, vr a1, vr a2, vr a3, vi x4, v5, v6] [vi (i_add z3 z4), vr b2, vi z1, vr b0] h := (run_step _ _ _ _ _ _).trans rfl
set_option maxRecDepth 8000 in
theorem s_268_1218 : run (d + 1) md_268 1218 [vr a0, vr a1, vr a2, vr a3, vi x4, v5, v6] [vi z3, vr b2, vi z1, vr b0] h = bif (isK h b2 11 || isK h b2 21) && inb h b2 z3 then run (d + 1) md_268 1219 [vr a0, vr a1, vr a2, vr a3, vi x4, v5, v6] [vi (h_mi h b2 (z3 : Int).toNat), vi z1, vr b0] h else none := (run_step _ _ _ _ _ _).trans rfl
set_option maxRecDepth 8000 in
theorem s_268_1219 : run (d + 1) md_268 1219 [vr a0, vr a1, vr a2, vr a3, vi x4, v5, v6] [vi z2, vi z1, vr b0] h = run (d + 1) md_268 1220 [vr a0, vr a1, vr a2, vr a3, vi x4, v5, v6] [vr a0, vi z2, vi z1, vr b0] h := (run_step _ _ _ _ _ _).trans rfl
set_option maxRecDepth 8000 in
theorem s_268_1220 : run (d + 1) md_268 1220 [vr a0, vr a1, vr a2, vr a3, vi x4, v5, v6] [vr b3, vi z2, vi z1, vr b0] h = run (d + 1) md_268 1222 [vr a0, vr a1, vr a2, vr a3, vi x4, v5, v6] [vi x4, vr b3, vi z2, vi z1, vr b0] h := (run_step _ _ _ _ _ _).trans rfl
set_option maxRecDepth 8000 in
theorem s_268_1222 : run (d + 1) md_268 1222 [vr a0, vr a1, vr a2, vr a3, vi x4, v5, v6] [vi z4, vr b3, vi z2, vi z1, vr b0] h = run (d + 1) md_268 1223 [vr a0, vr a1, vr a2, vr a3, vi x4, v5, v6] [vi 3, vi z4, vr b3, vi z2, vi z1, vr b0] h := (run_step _ _ _ _ _ _).trans rfl
set_option maxRecDepth 8000 in
theorem s_268_1223 : run (d + 1) md_268 1223 [vr a0, vr a1, vr a2, vr a3, vi x4, v5, v6] [vi z5, vi z4, vr b3, vi z2, vi z1, vr b0] h = run (d + 1) md_268 1224 [vr a0, vr a1, vr a2, vr a3, vi x4, v5, v6] [vi (i_add z4 z5), vr b3, vi z2, vi z1, vr b0] h := (run_step _ _ _ _ _ _).trans rfl
set_option maxRecDepth 8000 in
theorem s_268_1224 : run (d + 1) md_268 1224 [vr a0, vr a1, vr a2, vr a3, vi x4, v5, v6] [vi z4, vr b3, vi z2, vi z1, vr b0] h = bif (isK h b3 11 || isK h b3 21) && inb h b3 z4 then run (d + 1) md_268 1225 [vr a0, vr a1, vr a2, vr a3, vi x4, v5, v6] [vi (h_mi h b3 (z4 : Int).toNat), vi z2, vi z1, vr b0] h else none := (run_step _ _ _ _ _ _).trans rfl
set_option maxRecDepth 8000 in
theorem s_268_1225 : run (d + 1) md_268 1225 [vr a0, vr a1, vr a2, vr a3, vi x4, v5, v6] [vi z3, vi z2, vi z1, vr b0] h = run (d + 1) md_268 1226 [vr a0, vr a1, vr a2, vr a3, vi x4, v5, v6] [vr a0, vi z3, vi z2, vi z1, vr b0] h := (run_step _ _ _ _ _ _).trans rfl
set_option maxRecDepth 8000 in
theorem s_268_1226 : run (d + 1) md_268 1226 [vr a0, vr a1, vr a2, vr a3, vi x4, v5, v6] [vr b4, vi z3, vi z2, vi z1, vr b0] h = run (d + 1) md_268 1228 [vr a0, vr a1, vr a2, vr a3, vi x4, v5, v6] [vi x4, vr b4, vi z3, vi z2, vi z1, vr b0] h := (run_step _ _ _ _ _ _).trans rfl
set_option maxRecDepth 8000 in
theorem s_268_1228 : run (d + 1) md_268 1228 [vr a0, vr a1, vr a2, vr a3, vi x4, v5, v6] [vi z5, vr b4, vi z3, vi z2, vi z1, vr b0] h = run (d + 1) md_268 1229 [vr a0, vr a1, vr a2, vr a3, vi x4, v5, v6] [vi 4, vi z5, vr b4, vi z3, vi z2, vi z1, vr b0] h := (run_step _ _ _ _ _ _).trans rfl
set_option maxRecDepth 8000 in
theorem s_268_1229 : run (d + 1) md_268 1229 [vr a0, vr a1, vr a2, vr a3, vi x4, v5, v6] [vi z6, vi z5, vr b4, vi z3, vi z2, vi z1, vr b0] h = run (d + 1) md_268 1230 [vr a0, vr a1, vr a2, vr a3, vi x4, v5, v6] [vi (i_add z5 z6), vr b4, vi z3, vi z2, vi z1, vr b0] h := (run_step _ _ _ _ _ _).trans rfl
set_option maxRecDepth 8000 in
theorem s_268_1230 : run (d + 1) md_268 1230 [vr a0, vr a1, vr a2, vr a3, vi x4, v5, v6] [vi z5, vr b4, vi z3, vi z2, vi z1, vr b0] h = bif (isK h b4 11 || isK h b4 21) && inb h b4 z5 then run (d + 1) md_268 1231 [vr a0, vr a1, vr a2, vr a3, vi x4, v5, v6] [vi (h_mi h b4 (z5 : Int).toNat), vi z3, vi z2, vi z1, vr b0] h else none := (run_step _ _ _ _ _ _).trans rfl
set_option maxRecDepth 8000 in
theorem s_268_1231 : run (d + 1) md_268 1231 [vr a0, vr a1, vr a2, vr a3, vi x4, v5, v6] [vi z4, vi z3, vi z2, vi z1, vr b0] h = run (d + 1) md_268 1232 [vr a0, vr a1, vr a2, vr a3, vi x4, v5, v6] [vr a0, vi z4, vi z3, vi z2, vi z1, vr b0] h := (run_step _ _ _ _ _ _).trans rfl
set_option maxRecDepth 8000 in
theorem s_268_1232 : run (d + 1) md_268 1232 [vr a0, vr a1, vr a2, vr a3, vi x4, v5, v6] [vr b5, vi z4, vi z3, vi z2, vi z1, vr b0] h = run (d + 1) md_268 1234 [vr a0, vr a1, vr a2, vr a3, vi x4, v5, v6] [vi x4, vr b5, vi z4, vi z3, vi z2, vi z1, vr b0] h := (run_step _ _ _ _ _ _).trans rfl
set_option maxRecDepth 8000 in
theorem s_268_1234 : run (d + 1) md_268 1234 [vr a0, vr a1, vr a2, vr a3, vi x4, v5, v6] [vi z6, vr b5, vi z4, vi z3, vi z2, vi z1, vr b0] h = run (d + 1) md_268 1235 [vr a0, vr a1, vr a2, vr a3, vi x4, v5, v6] [vi 5, vi z6, vr b5, vi z4, vi z3, vi z2, vi z1, vr b0] h := (run_step _ _ _ _ _ _).trans rfl
set_option maxRecDepth 8000 in
theorem s_268_1235 : run (d + 1) md_268 1235 [vr a0, vr a1, vr a2, vr a3, vi x4, v5, v6] [vi z7, vi z6, vr b5, vi z4, vi z3, vi z2, vi z1, vr b0] h = run (d + 1) md_268 1236 [vr a0, vr a1, vr a2, vr a3, vi x4, v5, v6] [vi (i_add z6 z7), vr b5, vi z4, vi z3, vi z2, vi z1, vr b0] h := (run_step _ _ _ _ _ _).trans rfl
set_option maxRecDepth 8000 in
theorem s_268_1236 : run (d + 1) md_268 1236 [vr a0, vr a1, vr a2, vr a3, vi x4, v5, v6] [vi z6, vr b5, vi z4, vi z3, vi z2, vi z1, vr b0] h = bif (isK h b5 11 || isK h b5 21) && inb h b5 z6 then run (d + 1) md_268 1237 [vr a0, vr a1, vr a2, vr a3, vi x4, v5, v6] [vi (h_mi h b5 (z6 : Int).toNat), vi z4, vi z3, vi z2, vi z1, vr b0] h else none := (run_step _ _ _ _ _ _).trans rfl
set_option maxRecDepth 20000 in
set_option maxRecDepth 8000 in
theorem s_268_1237 : run (d + 1) md_268 1237 [vr a0, vr a1, vr a2, vr a3, vi x4, v5, v6] [vi z5, vi z4, vi z3, vi z2, vi z1, vr b0] h = bif isK h b0 8 then bI (ev d 135 [vr b0, vi z1, vi z2, vi z3, vi z4, vi z5] h) fun r1 h1 => run (d + 1) md_268 1240 [vr a0, vr a1, vr a2, vr a3, vi x4, v5, v6] [vi r1] h1 else none := (run_step _ _ _ _ _ _).trans rfl
set_option maxRecDepth 8000 in
theorem s_268_1240 : run (d + 1) md_268 1240 [vr a0, vr a1, vr a2, vr a3, vi x4, v5, v6] [vi z0] h = run (d + 1) md_268 1241 [vr a0, vr a1, vr a2, vr a3, vi x4, v5, v6] [vr a2, vi z0] h := (run_step _ _ _ _ _ _).trans rfl
set_option maxRecDepth 8000 in
theorem s_268_1241 : run (d + 1) md_268 1241 [vr a0, vr a1, vr a2, vr a3, vi x4, v5, v6] [vr b1, vi z0] h = run (d + 1) md_268 1242 [vr a0, vr a1, vr a2, vr a3, vi x4, v5, v6] [vr a0, vr b1, vi z0] h := (run_step _ _ _ _ _ _).trans rfl
set_option maxRecDepth 8000 in
theorem s_268_1242 : run (d + 1) md_268 1242 [vr a0, vr a1, vr a2, vr a3, vi x4, v5, v6] [vr b2, vr b1, vi z0] h = run (d + 1) md_268 1244 [vr a0, vr a1, vr a2, vr a3, vi x4, v5, v6] [vi x4, vr b2, vr b1, vi z0] h := (run_step _ _ _ _ _ _).trans rfl
set_option maxRecDepth 8000 in
theorem s_268_1244 : run (d + 1) md_268 1244 [vr a0, vr a1, vr a2, vr a3, vi x4, v5, v6] [vi z3, vr b2, vr b1, vi z0] h = run (d + 1) md_268 1245 [vr a0, vr a1, vr a2, vr a3, vi x4, v5, v6] [vi 1, vi z3, vr b2, vr b1, vi z0] h := (run_step _ _ _ _ _ _).trans rfl
set_option maxRecDepth 8000 in
theorem s_268_1245 : run (d + 1) md_268 1245 [vr a0, vr a1, vr a2, vr a3, vi x4, v5, v6] [vi z4, vi z3, vr b2, vr b1, vi z0] h = run (d + 1) md_268 1246 [vr a0, vr a1, vr a2, vr a3, vi x4, v5, v6] [vi (i_add z3 z4), vr b2, vr b1, vi z0] h := (run_step _ _ _ _ _ _).trans rfl
set_option maxRecDepth 8000 in
theorem s_268_1246 : run (d + 1) md_268 1246 [vr a0, vr a1, vr a2, vr a3, vi x4, v5, v6] [vi z3, vr b2, vr b1, vi z0] h = bif (isK h b2 11 || isK h b2 21) && inb h b2 z3 then run (d + 1) md_268 1247 [vr a0, vr a1, vr a2, vr a3, vi x4, v5, v6] [vi (h_mi h b2 (z3 : Int).toNat), vr b1, vi z0] h else none := (run_step _ _ _ _ _ _).trans rfl
set_option maxRecDepth 8000 in
theorem s_268_1247 : run (d + 1) md_268 1247 [vr a0, vr a1, vr a2, vr a3, vi x4, v5, v6] [vi z2, vr b1, vi z0] h = run (d + 1) md_268 1248 [vr a0, vr a1, vr a2, vr a3, vi x4, v5, v6] [vr a0, vi z2, vr b1, vi z0] h := (run_step _ _ _ _ _ _).trans rfl
set_option maxRecDepth 8000 in
theorem s_268_1248 : run (d + 1) md_268 1248 [vr a0, vr a1, vr a2, vr a3, vi x4, v5, v6] [vr b3, vi z2, vr b1, vi z0] h = run (d + 1) md_268 1250 [vr a0, vr a1, vr a2, vr a3, vi x4, v5, v6] [vi x4, vr b3, vi z2, vr b1, vi z0] h := (run_step _ _ _ _ _ _).trans rfl
set_option maxRecDepth 8000 in
theorem s_268_1250 : run (d + 1) md_268 1250 [vr a0, vr a1, vr a2, vr a3, vi x4, v5, v6] [vi z4, vr b3, vi z2, vr b1, vi z0] h = run (d + 1) md_268 1251 [vr a0, vr a1, vr a2, vr a3, vi x4, v5, v6] [vi 2, vi z4, vr b3, vi z2, vr b1, vi z0] h := (run_step _ _ _ _ _ _).trans rfl
set_option maxRecDepth 8000 in
theorem s_268_1251 : run (d + 1) md_268 1251 [vr a0, vr a1, vr a2, vr a3, vi x4, v5, v6] [vi z5, vi z4, vr b3, vi z2, vr b1, vi z0] h = run (d + 1) md_268 1252 [vr a0, vr a1, vr a2, vr a3, vi x4, v5, v6] [vi (i_add z4 z5), vr b3, vi z2, vr b1, vi z0] h := (run_step _ _ _ _ _ _).trans rfl
set_option maxRecDepth 8000 in
theorem s_268_1252 : run (d + 1) md_268 1252 [vr a0, vr a1, vr a2, vr a3, vi x4, v5, v6] [vi z4, vr b3, vi z2, vr b1, vi z0] h = bif (isK h b3 11 || isK h b3 21) && inb h b3 z4 then run (d + 1) md_268 1253 [vr a0, vr a1, vr a2, vr a3, vi x4, v5, v6] [vi (h_mi h b3 (z4 : Int).toNat), vi z2, vr b1, vi z0] h else none := (run_step _ _ _ _ _ _).trans rfl
set_option maxRecDepth 8000 in
theorem s_268_1253 : run (d + 1) md_268 1253 [vr a0, vr a1, vr a2, vr a3, vi x4, v5, v6] [vi z3, vi z2, vr b1, vi z0] h = run (d + 1) md_268 1254 [vr a0, vr a1, vr a2, vr a3, vi x4, v5, v6] [vr a0, vi z3, vi z2, vr b1, vi z0] h := (run_step _ _ _ _ _ _).trans rfl
set_option maxRecDepth 8000 in
theorem s_268_1254 : run (d + 1) md_268 1254 [vr a0, vr a1, vr a2, vr a3, vi x4, v5, v6] [vr b4, vi z3, vi z2, vr b1, vi z0] h = run (d + 1) md_268 1256 [vr a0, vr a1, vr a2, vr a3, vi x4, v5, v6] [vi x4, vr b4, vi z3, vi z2, vr b1, vi z0] h := (run_step _ _ _ _ _ _).trans rfl
set_option maxRecDepth 8000 in
theorem s_268_1256 : run (d + 1) md_268 1256 [vr a0, vr a1, vr a2, vr a3, vi x4, v5, v6] [vi z5, vr b4, vi z3, vi z2, vr b1, vi z0] h = run (d + 1) md_268 1257 [vr a0, vr a1, vr a2, vr a3, vi x4, v5, v6] [vi 3, vi z5, vr b4, vi z3, vi z2, vr b1, vi z0] h := (run_step _ _ _ _ _ _).trans rfl
set_option maxRecDepth 8000 in
theorem s_268_1257 : run (d + 1) md_268 1257 [vr a0, vr a1, vr a2, vr a3, vi x4, v5, v6] [vi z6, vi z5, vr b4, vi z3, vi z2, vr b1, vi z0] h = run (d + 1) md_268 1258 [vr a0, vr a1, vr a2, vr a3, vi x4, v5, v6] [vi (i_add z5 z6), vr b4, vi z3, vi z2, vr b1, vi z0] h := (run_step _ _ _ _ _ _).trans rfl
set_option maxRecDepth 8000 in
theorem s_268_1258 : run (d + 1) md_268 1258 [vr a0, vr a1, vr a2, vr a3, vi x4, v5, v6] [vi z5, vr b4, vi z3, vi z2, vr b1, vi z0] h = bif (isK h b4 11 || isK h b4 21) && inb h b4 z5 then run (d + 1) md_268 1259 [vr a0, vr a1, vr a2, vr a3, vi x4, v5, v6] [vi (h_mi h b4 (z5 : Int).toNat), vi z3, vi z2, vr b1, vi z0] h else none := (run_step _ _ _ _ _ _).trans rfl
set_option maxRecDepth 8000 in
theorem s_268_1259 : run (d + 1) md_268 1259 [vr a0, vr a1, vr a2, vr a3, vi x4, v5, v6] [vi z4, vi z3, vi z2, vr b1, vi z0] h = run (d + 1) md_268 1260 [vr a0, vr a1, vr a2, vr a3, vi x4, v5, v6] [vr a0, vi z4, vi z3, vi z2, vr b1, vi z0] h := (run_step _ _ _ _ _ _).trans rfl
set_option maxRecDepth 8000 in
theorem s_268_1260 : run (d + 1) md_268 1260 [vr a0, vr a1, vr a2, vr a3, vi x4, v5, v6] [vr b5, vi z4, vi z3, vi z2, vr b1, vi z0] h = run (d + 1) md_268 1262 [vr a0, vr a1, vr a2, vr a3, vi x4, v5, v6] [vi x4, vr b5, vi z4, vi z3, vi z2, vr b1, vi z0] h := (run_step _ _ _ _ _ _).trans rfl
set_option maxRecDepth 8000 in
theorem s_268_1262 : run (d + 1) md_268 1262 [vr a0, vr a1, vr a2, vr a3, vi x4, v5, v6] [vi z6, vr b5, vi z4, vi z3, vi z2, vr b1, vi z0] h = run (d + 1) md_268 1263 [vr a0, vr a1, vr a2, vr a3, vi x4, v5, v6] [vi 4, vi z6, vr b5, vi z4, vi z3, vi z2, vr b1, vi z0] h := (run_step _ _ _ _ _ _).trans rfl
set_option maxRecDepth 8000 in
theorem s_268_1263 : run (d + 1) md_268 1263 [vr a0, vr a1, vr a2, vr a3, vi x4, v5, v6] [vi z7, vi z6, vr b5, vi z4, vi z3, vi z2, vr b1, vi z0] h = run (d + 1) md_268 1264 [vr a0, vr a1, vr a2, vr a3, vi x4, v5, v6] [vi (i_add z6 z7), vr b5, vi z4, vi z3, vi z2, vr b1, vi z0] h := (run_step _ _ _ _ _ _).trans rfl
set_option maxRecDepth 8000 in
theorem s_268_1264 : run (d + 1) md_268 1264 [vr a0, vr a1, vr a2, vr a3, vi x4, v5, v6] [vi z6, vr b5, vi z4, vi z3, vi z2, vr b1, vi z0] h = bif (isK h b5 11 || isK h b5 21) && inb h b5 z6 then run (d + 1) md_268 1265 [vr a0, vr a1, vr a2, vr a3, vi x4, v5, v6] [vi (h_mi h b5 (z6 : Int).toNat), vi z4, vi z3, vi z2, vr b1, vi z0] h else none := (run_step _ _ _ _ _ _).trans rfl
set_option maxRecDepth 8000 in
theorem s_268_1265 : run (d + 1) md_268 1265 [vr a0, vr a1, vr a2, vr a3, vi x4, v5, v6] [vi z5, vi z4, vi z3, vi z2, vr b1, vi z0] h = run (d + 1) md_268 1266 [vr a0, vr a1, vr a2, vr a3, vi x4, v5, v6] [vr a0, vi z5, vi z4, vi z3, vi z2, vr b1, vi z0] h := (run_step _ _ _ _ _ _).trans rfl
set_option maxRecDepth 8000 in
theorem s_268_1266 : run (d + 1) md_268 1266 [vr a0, vr a1, vr a2, vr a3, vi x4, v5, v6] [vr b6, vi z5, vi z4, vi z3, vi z2, vr b1, vi z0] h = run (d + 1) md_268 1268 [vr a0, vr a1, vr a2, vr a3, vi x4, v5, v6] [vi x4, vr b6, vi z5, vi z4, vi z3, vi z2, vr b1, vi z0] h := (run_step _ _ _ _ _ _).trans rfl
set_option maxRecDepth 8000 in
theorem s_268_1268 : run (d + 1) md_268 1268 [vr a0, vr a1, vr a2, vr a3, vi x4, v5, v6] [vi z7, vr b6, vi z5, vi z4, vi z3, vi z2, vr b1, vi z0] h = run (d + 1) md_268 1269 [vr a0, vr a1, vr a2, vr a3, vi x4, v5, v6] [vi 5, vi z7, vr b6, vi z5, vi z4, vi z3, vi z2, vr b1, vi z0] h := (run_step _ _ _ _ _ _).trans rfl
set_option maxRecDepth 8000 in
theorem s_268_1269 : run (d + 1) md_268 1269 [vr a0, vr a1, vr a2, vr a3, vi x4, v5, v6] [vi z8, vi z7, vr b6, vi z5, vi z4, vi z3, vi z2, vr b1, vi z0] h = run (d + 1) md_268 1270 [vr a0, vr a1, vr a2, vr a3, vi x4, v5, v6] [vi (i_add z7 z8), vr b6, vi z5, vi z4, vi z3, vi z2, vr b1, vi z0] h := (run_step _ _ _ _ _ _).trans rfl
set_option maxRecDepth 8000 in
theorem s_268_1270 : run (d + 1) md_268 1270 [vr a0, vr a1, vr a2, vr a3, vi x4, v5, v6] [vi z7, vr b6, vi z5, vi z4, vi z3, vi z2, vr b1, vi z0] h = bif (isK h b6 11 || isK h b6 21) && inb h b6 z7 then run (d + 1) md_268 1271 [vr a0, vr a1, vr a2, vr a3, vi x4, v5, v6] [vi (h_mi h b6 (z7 : Int).toNat), vi z5, vi z4, vi z3, vi z2, vr b1, vi z0] h else none := (run_step _ _ _ _ _ _).trans rfl
set_option maxRecDepth 20000 in
set_option maxRecDepth 8000 in
theorem s_268_1271 : run (d + 1) md_268 1271 [vr a0, vr a1, vr a2, vr a3, vi x4, v5, v6] [vi z6, vi z5, vi z4, vi z3, vi z2, vr b1, vi z0] h = bif isK h b1 9 then bI (ev d 245 [vr b1, vi z2, vi z3, vi z4, vi z5, vi z6] h) fun r1 h1 => run (d + 1) md_268 1274 [vr a0, vr a1, vr a2, vr a3, vi x4, v5, v6] [vi r1, vi z0] h1 else none := (run_step _ _ _ _ _ _).trans rfl
set_option maxRecDepth 8000 in
theorem s_268_1274 : run (d + 1) md_268 1274 [vr a0, vr a1, vr a2, vr a3, vi x4, v5, v6] [vi z1, vi z0] h = bif decide (z0 = z1) then run (d + 1) md_268 1498 [vr a0, vr a1, vr a2, vr a3, vi x4, v5, v6] [] h else run (d + 1) md_268 1277 [vr a0, vr a1, vr a2, vr a3, vi x4, v5, v6] [] h := (run_step _ _ _ _ _ _).trans rfl
set_option maxRecDepth 8000 in
theorem s_268_1277 : run (d + 1) md_268 1277 [vr a0, vr a1, vr a2, vr a3, vi x4, v5, v6] [] h = run (d + 1) md_268 1278 [vr a0, vr a1, vr a2, vr a3, vi x4, v5, v6] [vi 0] h := (run_step _ _ _ _ _ _).trans rfl
set_option maxRecDepth 8000 in
theorem s_268_1278 : run (d + 1) md_268 1278 [vr a0, vr a1, vr a2, vr a3, vi x4, v5, v6] [vi z0] h = bif decide (z0 = 0) || decide (z0 = 1) then some (vi z0, h) else none := (run_step _ _ _ _ _ _).trans rfl
set_option maxRecDepth 8000 in
theorem s_268_1279 : run (d + 1) md_268 1279 [vr a0, vr a1, vr a2, vr a3, vi x4, v5, v6] [] h = run (d + 1) md_268 1280 [vr a0, vr a1, vr a2, vr a3, vi x4, v5, v6] [vr a1] h := (run_step _ _ _ _ _ _).trans rfl
set_option maxRecDepth 8000 in
theorem s_268_1280 : run (d + 1) md_268 1280 [vr a0, vr a1, vr a2, vr a3, vi x4, v5, v6] [vr b0] h = run (d + 1) md_268 1281 [vr a0, vr a1, vr a2, vr a3, vi x4, v5, v6] [vr a0, vr b0] h := (run_step _ _ _ _ _ _).trans rfl
set_option maxRecDepth 8000 in
theorem s_268_1281 : run (d + 1) md_268 1281 [vr a0, vr a1, vr a2, vr a3, vi x4, v5, v6] [vr b1, vr b0] h = run (d + 1) md_268 1283 [vr a0, vr a1, vr a2, vr a3, vi x4, v5, v6] [vi x4, vr b1, vr b0] h := (run_step _ _ _ _ _ _).trans rfl
set_option maxRecDepth 8000 in
theorem s_268_1283 : run (d + 1) md_268 1283 [vr a0, vr a1, vr a2, vr a3, vi x4, v5, v6] [vi z2, vr b1, vr b0] h = run (d + 1) md_268 1284 [vr a0, vr a1, vr a2, vr a3, vi x4, v5, v6] [vi 1, vi z2, vr b1, vr b0] h := (run_step _ _ _ _ _ _).trans rfl
set_option maxRecDepth 8000 in
theorem s_268_1284 : run (d + 1) md_268 1284 [vr a0, vr a1, vr a2, vr a3, vi x4, v5, v6] [vi z3, vi z2, vr b1, vr b0] h = run (d + 1) md_268 1285 [vr a0, vr a1, vr a2, vr a3, vi x4, v5, v6] [vi (i_add z2 z3), vr b1, vr b0] h := (run_step _ _ _ _ _ _).trans rfl
set_option maxRecDepth 8000 in
theorem s_268_1285 : run (d + 1) md_268 1285 [vr a0, vr a1, vr a2, vr a3, vi x4, v5, v6] [vi z2, vr b1, vr b0] h = bif (isK h b1 11 || isK h b1 21) && inb h b1 z2 then run (d + 1) md_268 1286 [vr a0, vr a1, vr a2, vr a3, vi x4, v5, v6] [vi (h_mi h b1 (z2 : Int).toNat), vr b0] h else none := (run_step _ _ _ _ _ _).trans rfl
set_option maxRecDepth 8000 in
theorem s_268_1286 : run (d + 1) md_268 1286 [vr a0, vr a1, vr a2, vr a3, vi x4, v5, v6] [vi z1, vr b0] h = run (d + 1) md_268 1287 [vr a0, vr a1, vr a2, vr a3, vi x4, v5, v6] [vr a0, vi z1, vr b0] h := (run_step _ _ _ _ _ _).trans rfl
set_option maxRecDepth 8000 in
theorem s_268_1287 : run (d + 1) md_268 1287 [vr a0, vr a1, vr a2, vr a3, vi x4, v5, v6] [vr b2, vi z1, vr b0] h = run (d + 1) md_268 1289 [vr a0, vr a1, vr a2, vr a3, vi x4, v5, v6] [vi x4, vr b2, vi z1, vr b0] h := (run_step _ _ _ _ _ _).trans rfl
set_option maxRecDepth 8000 in
theorem s_268_1289 : run (d + 1) md_268 1289 [vr a0, vr a1, vr a2, vr a3, vi x4, v5, v6] [vi z3, vr b2, vi z1, vr b0] h = run (d + 1) md_268 1290 [vr a0, vr a1, vr a2, vr a3, vi x4, v5, v6] [vi 2, vi z3, vr b2, vi z1, vr b0] h := (run_step _ _ _ _ _ _).trans rfl
set_option maxRecDepth 8000 in
theorem s_268_1290 : run (d + 1) md_268 1290 [vr a0, vr a1, vr a2, vr a3, vi x4, v5, v6] [vi z4, vi z3, vr b2, vi z1, vr b0] h = run (d + 1) md_268 1291 [vr a0, vr a1, vr a2, vr a3, vi x4, v5, v6] [vi (i_add z3 z4), vr b2, vi z1, vr b0] h := (run_step _ _ _ _ _ _).trans rfl
set_option maxRecDepth 8000 in
theorem s_268_1291 : run (d + 1) md_268 1291 [vr a0, vr a1, vr a2, vr a3, vi x4, v5, v6] [vi z3, vr b2, vi z1, vr b0] h = bif (isK h b2 11 || isK h b2 21) && inb h b2 z3 then run (d + 1) md_268 1292 [vr a0, vr a1, vr a2, vr a3, vi x4, v5, v6] [vi (h_mi h b2 (z3 : Int).toNat), vi z1, vr b0] h else none := (run_step _ _ _ _ _ _).trans rfl
set_option maxRecDepth 8000 in
theorem s_268_1292 : run (d + 1) md_268 1292 [vr a0, vr a1, vr a2, vr a3, vi x4, v5, v6] [vi z2, vi z1, vr b0] h = run (d + 1) md_268 1293 [vr a0, vr a1, vr a2, vr a3, vi x4, v5, v6] [vr a0, vi z2, vi z1, vr b0] h := (run_step _ _ _ _ _ _).trans rfl
set_option maxRecDepth 8000 in
theorem s_268_1293 : run (d + 1) md_268 1293 [vr a0, vr a1, vr a2, vr a3, vi x4, v5, v6] [vr b3, vi z2, vi z1, vr b0] h = run (d + 1) md_268 1295 [vr a0, vr a1, vr a2, vr a3, vi x4, v5, v6] [vi x4, vr b3, vi z2, vi z1, vr b0] h := (run_step _ _ _ _ _ _).trans rfl
set_option maxRecDepth 8000 in
theorem s_268_1295 : run (d + 1) md_268 1295 [vr a0, vr a1, vr a2, vr a3, vi x4, v5, v6] [vi z4, vr b3, vi z2, vi z1, vr b0] h = run (d + 1) md_268 1296 [vr a0, vr a1, vr a2, vr a3, vi x4, v5, v6] [vi 3, vi z4, vr b3, vi z2, vi z1, vr b0] h := (run_step _ _ _ _ _ _).trans rfl
set_option maxRecDepth 8000 in
theorem s_268_1296 : run (d + 1) md_268 1296 [vr a0, vr a1, vr a2, vr a3, vi x4, v5, v6] [vi z5, vi z4, vr b3, vi z2, vi z1, vr b0] h = run (d + 1) md_268 1297 [vr a0, vr a1, vr a2, vr a3, vi x4, v5, v6] [vi (i_add z4 z5), vr b3, vi z2, vi z1, vr b0] h := (run_step _ _ _ _ _ _).trans rfl
set_option maxRecDepth 8000 in
theorem s_268_1297 : run (d + 1) md_268 1297 [vr a0, vr a1, vr a2, vr a3, vi x4, v5, v6] [vi z4, vr b3, vi z2, vi z1, vr b0] h = bif (isK h b3 11 || isK h b3 21) && inb h b3 z4 then run (d + 1) md_268 1298 [vr a0, vr a1, vr a2, vr a3, vi x4, v5, v6] [vi (h_mi h b3 (z4 : Int).toNat), vi z2, vi z1, vr b0] h else none := (run_step _ _ _ _ _ _).trans rfl
set_option maxRecDepth 20000 in
set_option maxRecDepth 8000 in
theorem s_268_1298 : run (d + 1) md_268 1298 [vr a0, vr a1, vr a2, vr a3, vi x4, v5, v6] [vi z3, vi z2, vi z1, vr b0] h = bif isK h b0 8 then bI (ev d 136 [vr b0, vi z1, vi z2, vi z3] h) fun r1 h1 => run (d + 1) md_268 1301 [vr a0, vr a1, vr a2, vr a3, vi x4, v5, v6] [vi r1] h1 else none := (run_step _ _ _ _ _ _).trans rfl
set_option maxRecDepth 8000 in
theorem s_268_1301 : run (d + 1) md_268 1301 [vr a0, vr a1, vr a2, vr a3, vi x4, v5, v6] [vi z0] h = run (d + 1) md_268 1302 [vr a0, vr a1, vr a2, vr a3, vi x4, v5, v6] [vr a2, vi z0] h := (run_step _ _ _ _ _ _).trans rfl
set_option maxRecDepth 8000 in
theorem s_268_1302 : run (d + 1) md_268 1302 [vr a0, vr a1, vr a2, vr a3, vi x4, v5, v6] [vr b1, vi z0] h = run (d + 1) md_268 1303 [vr a0, vr a1, vr a2, vr a3, vi x4, v5, v6] [vr a0, vr b1, vi z0] h := (run_step _ _ _ _ _ _).trans rfl
set_option maxRecDepth 8000 in
theorem s_268_1303 : run (d + 1) md_268 1303 [vr a0, vr a1, vr a2, vr a3, vi x4, v5, v6] [vr b2, vr b1, vi z0] h = run (d + 1) md_268 1305 [vr a0, vr a1, vr a2, vr a3, vi x4, v5, v6] [vi x4, vr b2, vr b1, vi z0] h := (run_step _ _ _ _ _ _).trans rfl
set_option maxRecDepth 8000 in
theorem s_268_1305 : run (d + 1) md_268 1305 [vr a0, vr a1, vr a2, vr a3, vi x4, v5, v6] [vi z3, vr b2, vr b1, vi z0] h = run (d + 1) md_268 1306 [vr a0, vr a1, vr a2, vr a3, vi x4, v5, v6] [vi 1, vi z3, vr b2, vr b1, vi z0] h := (run_step _ _ _ _ _ _).trans rfl
set_option maxRecDepth 8000 in
theorem s_268_1306 : run (d + 1) md_268 1306 [vr a0, vr a1, vr a2, vr a3, vi x4, v5, v6] [vi z4, vi z3, vr b2, vr b1, vi z0] h = run (d + 1) md_268 1307 [vr a0, vr a1, vr a2, vr a3, vi x4, v5, v6] [vi (i_add z3 z4), vr b2, vr b1, vi z0] h := (run_step _ _ _ _ _ _).trans rfl
set_option maxRecDepth 8000 in
theorem s_268_1307 : run (d + 1) md_268 1307 [vr a0, vr a1, vr a2, vr a3, vi x4, v5, v6] [vi z3, vr b2, vr b1, vi z0] h = bif (isK h b2 11 || isK h b2 21) && inb h b2 z3 then run (d + 1) md_268 1308 [vr a0, vr a1, vr a2, vr a3, vi x4, v5, v6] [vi (h_mi h b2 (z3 : Int).toNat), vr b1, vi z0] h else none := (run_step _ _ _ _ _ _).trans rfl
set_option maxRecDepth 8000 in
theorem s_268_1308 : run (d + 1) md_268 1308 [vr a0, vr a1, vr a2, vr a3, vi x4, v5, v6] [vi z2, vr b1, vi z0] h = run (d + 1) md_268 1309 [vr a0, vr a1, vr a2, vr a3, vi x4, v5, v6] [vr a0, vi z2, vr b1, vi z0] h := (run_step _ _ _ _ _ _).trans rfl
set_option maxRecDepth 8000 in
theorem s_268_1309 : run (d + 1) md_268 1309 [vr a0, vr a1, vr a2, vr a3, vi x4, v5, v6] [vr b3, vi z2, vr b1, vi z0] h = run (d + 1) md_268 1311 [vr a0, vr a1, vr a2, vr a3, vi x4, v5, v6] [vi x4, vr b3, vi z2, vr b1, vi z0] h := (run_step _ _ _ _ _ _).trans rfl
set_option maxRecDepth 8000 in
theorem s_268_1311 : run (d + 1) md_268 1311 [vr a0, vr a1, vr a2, vr a3, vi x4, v5, v6] [vi z4, vr b3, vi z2, vr b1, vi z0] h = run (d + 1) md_268 1312 [vr a0, vr a1, vr a2, vr a3, vi x4, v5, v6] [vi 2, vi z4, vr b3, vi z2, vr b1, vi z0] h := (run_step _ _ _ _ _ _).trans rfl
set_option maxRecDepth 8000 in
theorem s_268_1312 : run (d + 1) md_268 1312 [vr a0, vr a1, vr a2, vr a3, vi x4, v5, v6] [vi z5, vi z4, vr b3, vi z2, vr b1, vi z0] h = run (d + 1) md_268 1313 [vr a0, vr a1, vr a2, vr a3, vi x4, v5, v6] [vi (i_add z4 z5), vr b3, vi z2, vr b1, vi z0] h := (run_step _ _ _ _ _ _).trans rfl
set_option maxRecDepth 8000 in
theorem s_268_1313 : run (d + 1) md_268 1313 [vr a0, vr a1, vr a2, vr a3, vi x4, v5, v6] [vi z4, vr b3, vi z2, vr b1, vi z0] h = bif (isK h b3 11 || isK h b3 21) && inb h b3 z4 then run (d + 1) md_268 1314 [vr a0, vr a1, vr a2, vr a3, vi x4, v5, v6] [vi (h_mi h b3 (z4 : Int).toNat), vi z2, vr b1, vi z0] h else none := (run_step _ _ _ _ _ _).trans rfl
set_option maxRecDepth 8000 in
theorem s_268_1314 : run (d + 1) md_268 1314 [vr a0, vr a1, vr a2, vr a3, vi x4, v5, v6] [vi z3, vi z2, vr b1, vi z0] h = run (d + 1) md_268 1315 [vr a0, vr a1, vr a2, vr a3, vi x4, v5, v6] [vr a0, vi z3, vi z2, vr b1, vi z0] h := (run_step _ _ _ _ _ _).trans rfl
set_option maxRecDepth 8000 in
theorem s_268_1315 : run (d + 1) md_268 1315 [vr a0, vr a1, vr a2, vr a3, vi x4, v5, v6] [vr b4, vi z3, vi z2, vr b1, vi z0] h = run (d + 1) md_268 1317 [vr a0, vr a1, vr a2, vr a3, vi x4, v5, v6] [vi x4, vr b4, vi z3, vi z2, vr b1, vi z0] h := (run_step _ _ _ _ _ _).trans rfl
set_option maxRecDepth 8000 in
theorem s_268_1317 : run (d + 1) md_268 1317 [vr a0, vr a1, vr a2, vr a3, vi x4, v5, v6] [vi z5, vr b4, vi z3, vi z2, vr b1, vi z0] h = run (d + 1) md_268 1318 [vr a0, vr a1, vr a2, vr a3, vi x4, v5, v6] [vi 3, vi z5, vr b4, vi z3, vi z2, vr b1, vi z0] h := (run_step _ _ _ _ _ _).trans rfl
set_option maxRecDepth 8000 in
theorem s_268_1318 : run (d + 1) md_268 1318 [vr a0, vr a1, vr a2, vr a3, vi x4, v5, v6] [vi z6, vi z5, vr b4, vi z3, vi z2, vr b1, vi z0] h = run (d + 1) md_268 1319 [vr a0, vr a1, vr a2, vr a3, vi x4, v5, v6] [vi (i_add z5 z6), vr b4, vi z3, vi z2, vr b1, vi z0] h := (run_step _ _ _ _ _ _).trans rfl
set_option maxRecDepth 8000 in
theorem s_268_1319 : run (d + 1) md_268 1319 [vr a0, vr a1, vr a2, vr a3, vi x4, v5, v6] [vi z5, vr b4, vi z3, vi z2, vr b1, vi z0] h = bif (isK h b4 11 || isK h b4 21) && inb h b4 z5 then run (d + 1) md_268 1320 [vr a0, vr a1, vr a2, vr a3, vi x4, v5, v6] [vi (h_mi h b4 (z5 : Int).toNat), vi z3, vi z2, vr b1, vi z0] h else none := (run_step _ _ _ _ _ _).trans rfl
set_option maxRecDepth 20000 in
set_option maxRecDepth 8000 in
theorem s_268_1320 : run (d + 1) md_268 1320 [vr a0, vr a1, vr a2, vr a3, vi x4, v5, v6] [vi z4, vi z3, vi z2, vr b1, vi z0] h = bif isK h b1 9 then bI (ev d 246 [vr b1, vi z2, vi z3, vi z4] h) fun r1 h1 => run (d + 1) md_268 1323 [vr a0, vr a1, vr a2, vr a3, vi x4, v5, v6] [vi r1, vi z0] h1 else none := (run_step _ _ _ _ _ _).trans rfl
set_option maxRecDepth 8000 in
theorem s_268_1323 : run (d + 1) md_268 1323 [vr a0, vr a1, vr a2, vr a3, vi x4, v5, v6] [vi z1, vi z0] h = bif decide (z0 = z1) then run (d + 1) md_268 1498 [vr a0, vr a1, vr a2, vr a3, vi x4, v5, v6] [] h else run (d + 1) md_268 1326 [vr a0, vr a1, vr a2, vr a3, vi x4, v5, v6] [] h := (run_step _ _ _ _ _ _).trans rfl
set_option maxRecDepth 8000 in
theorem s_268_1326 : run (d + 1) md_268 1326 [vr a0, vr a1, vr a2, vr a3, vi x4, v5, v6] [] h = run (d + 1) md_268 1327 [vr a0, vr a1, vr a2, vr a3, vi x4, v5, v6] [vi 0] h := (run_step _ _ _ _ _ _).trans rfl
set_option maxRecDepth 8000 in
theorem s_268_1327 : run (d + 1) md_268 1327 [vr a0, vr a1, vr a2, vr a3, vi x4, v5, v6] [vi z0] h = bif decide (z0 = 0) || decide (z0 = 1) then some (vi z0, h) else none := (run_step _ _ _ _ _ _).trans rfl
set_option maxRecDepth 8000 in
theorem s_268_1328 : run (d + 1) md_268 1328 [vr a0, vr a1, vr a2, vr a3, vi x4, v5, v6] [] h = run (d + 1) md_268 1329 [vr a0, vr a1, vr a2, vr a3, vi x4, v5, v6] [vr a1] h := (run_step _ _ _ _ _ _).trans rfl
set_option maxRecDepth 8000 in
theorem s_268_1329 : run (d + 1) md_268 1329 [vr a0, vr a1, vr a2, vr a3, vi x4, v5, v6] [vr b0] h = run (d + 1) md_268 1330 [vr a0, vr a1, vr a2, vr a3, vi x4, v5, v6] [vr a0, vr b0] h := (run_step _ _ _ _ _ _).trans rfl
set_option maxRecDepth 8000 in
theorem s_268_1330 : run (d + 1) md_268 1330 [vr a0, vr a1, vr a2, vr a3, vi x4, v5, v6] [vr b1, vr b0] h = run (d + 1) md_268 1332 [vr a0, vr a1, vr a2, vr a3, vi x4, v5, v6] [vi x4, vr b1, vr b0] h := (run_step _ _ _ _ _ _).trans rfl
set_option maxRecDepth 8000 in
theorem s_268_1332 : run (d + 1) md_268 1332 [vr a0, vr a1, vr a2, vr a3, vi x4, v5, v6] [vi z2, vr b1, vr b0] h = run (d + 1) md_268 1333 [vr a0, vr a1, vr a2, vr a3, vi x4, v5, v6] [vi 1, vi z2, vr b1, vr b0] h := (run_step _ _ _ _ _ _).trans rfl
set_option maxRecDepth 8000 in
theorem s_268_1333 : run (d + 1) md_268 1333 [vr a0, vr a1, vr a2, vr a3, vi x4, v5, v6] [vi z3, vi z2, vr b1, vr b0] h = run (d + 1) md_268 1334 [vr a0, vr a1, vr a2, vr a3, vi x4, v5, v6] [vi (i_add z2 z3), vr b1, vr b0] h := (run_step _ _ _ _ _ _).trans rfl
set_option maxRecDepth 8000 in
theorem s_268_1334 : run (d + 1) md_268 1334 [vr a0, vr a1, vr a2, vr a3, vi x4, v5, v6] [vi z2, vr b1, vr b0] h = bif (isK h b1 11 || isK h b1 21) && inb h b1 z2 then run (d + 1) md_268 1335 [vr a0, vr a1, vr a2, vr a3, vi x4, v5, v6] [vi (h_mi h b1 (z2 : Int).toNat), vr b0] h else none := (run_step _ _ _ _ _ _).trans rfl
set_option maxRecDepth 8000 in
theorem s_268_1335 : run (d + 1) md_268 1335 [vr a0, vr a1, vr a2, vr a3, vi x4, v5, v6] [vi z1, vr b0] h = run (d + 1) md_268 1336 [vr a0, vr a1, vr a2, vr a3, vi x4, v5, v6] [vr a0, vi z1, vr b0] h := (run_step _ _ _ _ _ _).trans rfl
set_option maxRecDepth 8000 in
theorem s_268_1336 : run (d + 1) md_268 1336 [vr a0, vr a1, vr a2, vr a3, vi x4, v5, v6] [vr b2, vi z1, vr b0] h = run (d + 1) md_268 1338 [vr a0, vr a1, vr a2, vr a3, vi x4, v5, v6] [vi x4, vr b2, vi z1, vr b0] h := (run_step _ _ _ _ _ _).trans rfl
set_option maxRecDepth 8000 in
theorem s_268_1338 : run (d + 1) md_268 1338 [vr a0, vr a1, vr a2, vr a3, vi x4, v5, v6] [vi z3, vr b2, vi z1, vr b0] h = run (d + 1) md_268 1339 [vr a0, vr a1, vr a2, vr a3, vi x4, v5, v6] [vi 2, vi z3, vr b2, vi z1, vr b0] h := (run_step _ _ _ _ _ _).trans rfl
set_option maxRecDepth 8000 in
theorem s_268_1339 : run (d + 1) md_268 1339 [vr a0, vr a1, vr a2, vr a3, vi x4, v5, v6] [vi z4, vi z3, vr b2, vi z1, vr b0] h = run (d + 1) md_268 1340 [vr a0, vr a1, vr a2, vr a3, vi x4, v5, v6] [vi (i_add z3 z4), vr b2, vi z1, vr b0] h := (run_step _ _ _ _ _ _).trans rfl
set_option maxRecDepth 8000 in
theorem s_268_1340 : run (d + 1) md_268 1340 [vr a0, vr a1, vr a2, vr a3, vi x4, v5, v6] [vi z3, vr b2, vi z1, vr b0] h = bif (isK h b2 11 || isK h b2 21) && inb h b2 z3 then run (d + 1) md_268 1341 [vr a0, vr a1, vr a2, vr a3, vi x4, v5, v6] [vi (h_mi h b2 (z3 : Int).toNat), vi z1, vr b0] h else none := (run_step _ _ _ _ _ _).trans rfl
set_option maxRecDepth 8000 in
theorem s_268_1341 : run (d + 1) md_268 1341 [vr a0, vr a1, vr a2, vr a3, vi x4, v5, v6] [vi z2, vi z1, vr b0] h = run (d + 1) md_268 1342 [vr a0, vr a1, vr a2, vr a3, vi x4, v5, v6] [vr a0, vi z2, vi z1, vr b0] h := (run_step _ _ _ _ _ _).trans rfl
set_option maxRecDepth 8000 in
theorem s_268_1342 : run (d + 1) md_268 1342 [vr a0, vr a1, vr a2, vr a3, vi x4, v5, v6] [vr b3, vi z2, vi z1, vr b0] h = run (d + 1) md_268 1344 [vr a0, vr a1, vr a2, vr a3, vi x4, v5, v6] [vi x4, vr b3, vi z2, vi z1, vr b0] h := (run_step _ _ _ _ _ _).trans rfl
set_option maxRecDepth 8000 in
theorem s_268_1344 : run (d + 1) md_268 1344 [vr a0, vr a1, vr a2, vr a3, vi x4, v5, v6] [vi z4, vr b3, vi z2, vi z1, vr b0] h = run (d + 1) md_268 1345 [vr a0, vr a1, vr a2, vr a3, vi x4, v5, v6] [vi 3, vi z4, vr b3, vi z2, vi z1, vr b0] h := (run_step _ _ _ _ _ _).trans rfl
set_option maxRecDepth 8000 in
theorem s_268_1345 : run (d + 1) md_268 1345 [vr a0, vr a1, vr a2, vr a3, vi x4, v5, v6] [vi z5, vi z4, vr b3, vi z2, vi z1, vr b0] h = run (d + 1) md_268 1346 [vr a0, vr a1, vr a2, vr a3, vi x4, v5, v6] [vi (i_add z4 z5), vr b3, vi z2, vi z1, vr b0] h := (run_step _ _ _ _ _ _).trans rfl
set_option maxRecDepth 8000 in
theorem s_268_1346 : run (d + 1) md_268 1346 [vr a0, vr a1, vr a2, vr a3, vi x4, v5, v6] [vi z4, vr b3, vi z2, vi z1, vr b0] h = bif (isK h b3 11 || isK h b3 21) && inb h b3 z4 then run (d + 1) md_268 1347 [vr a0, vr a1, vr a2, vr a3, vi x4, v5, v6] [vi (h_mi h b3 (z4 : Int).toNat), vi z2, vi z1, vr b0] h else none := (run_step _ _ _ _ _ _).trans rfl
set_option maxRecDepth 8000 in
theorem s_268_1347 : run (d + 1) md_268 1347 [vr a0, vr a1, vr a2, vr a3, vi x4, v5, v6] [vi z3, vi z2, vi z1, vr b0] h = run (d + 1) md_268 1348 [vr a0, vr a1, vr a2, vr a3, vi x4, v5, v6] [vr a0, vi z3, vi z2, vi z1, vr b0] h := (run_step _ _ _ _ _ _).trans rfl
set_option maxRecDepth 8000 in
theorem s_268_1348 : run (d + 1) md_268 1348 [vr a0, vr a1, vr a2, vr a3, vi x4, v5, v6] [vr b4, vi z3, vi z2, vi z1, vr b0] h = run (d + 1) md_268 1350 [vr a0, vr a1, vr a2, vr a3, vi x4, v5, v6] [vi x4, vr b4, vi z3, vi z2, vi z1, vr b0] h := (run_step _ _ _ _ _ _).trans rfl
set_option maxRecDepth 8000 in
theorem s_268_1350 : run (d + 1) md_268 1350 [vr a0, vr a1, vr a2, vr a3, vi x4, v5, v6] [vi z5, vr b4, vi z3, vi z2, vi z1, vr b0] h = run (d + 1) md_268 1351 [vr a0, vr a1, vr a2, vr a3, vi x4, v5, v6] [vi 4, vi z5, vr b4, vi z3, vi z2, vi z1, vr b0] h := (run_step _ _ _ _ _ _).trans rfl
set_option maxRecDepth 8000 in
theorem s_268_1351 : run (d + 1) md_268 1351 [vr a0, vr a1, vr a2, vr a3, vi x4, v5, v6] [vi z6, vi z5, vr b4, vi z3, vi z2, vi z1, vr b0] h = run (d + 1) md_268 1352 [vr a0, vr a1, vr a2, vr a3, vi x4, v5, v6] [vi (i_add z5 z6), vr b4, vi z3, vi z2, vi z1, vr b0] h := (run_step _ _ _ _ _ _).trans rfl
set_option maxRecDepth 8000 in
theorem s_268_1352 : run (d + 1) md_268 1352 [vr a0, vr a1, vr a2, vr a3, vi x4, v5, v6] [vi z5, vr b4, vi z3, vi z2, vi z1, vr b0] h = bif (isK h b4 11 || isK h b4 21) && inb h b4 z5 then run (d + 1) md_268 1353 [vr a0, vr a1, vr a2, vr a3, vi x4, v5, v6] [vi (h_mi h b4 (z5 : Int).toNat), vi z3, vi z2, vi z1, vr b0] h else none := (run_step _ _ _ _ _ _).trans rfl
set_option maxRecDepth 8000 in
theorem s_268_1353 : run (d + 1) md_268 1353 [vr a0, vr a1, vr a2, vr a3, vi x4, v5, v6] [vi z4, vi z3, vi z2, vi z1, vr b0] h = run (d + 1) md_268 1354 [vr a0, vr a1, vr a2, vr a3, vi x4, v5, v6] [vr a3, vi z4, vi z3, vi z2, vi z1, vr b0] h := (run_step _ _ _ _ _ _).trans rfl
set_option maxRecDepth 20000 in
set_option maxRecDepth 8000 in
theorem s_268_1354 : run (d + 1) md_268 1354 [vr a0, vr a1, vr a2, vr a3, vi x4, v5, v6] [vr b5, vi z4, vi z3, vi z2, vi z1, vr b0] h = bI (ev d 267 [vr b0, vi z1, vi z2, vi z3, vi z4, vr b5] h) fun r1 h1 => run (d + 1) md_268 1357 [vr a0, vr a1, vr a2, vr a3, vi x4, v5, v6] [vi r1] h1 := (run_step _ _ _ _ _ _).trans rfl
set_option maxRecDepth 8000 in
theorem s_268_1357 : run (d + 1) md_268 1357 [vr a0, vr a1, vr a2, vr a3, vi x4, v5, v6] [vi z0] h = run (d + 1) md_268 1359 [vr a0, vr a1, vr a2, vr a3, vi x4, vi z0, v6] [] h := (run_step _ _ _ _ _ _).trans rfl
set_option maxRecDepth 8000 in
theorem s_268_1359 : run (d + 1) md_268 1359 [vr a0, vr a1, vr a2, vr a3, vi x4, vi x5, v6] [] h = run (d + 1) md_268 1360 [vr a0, vr a1, vr a2, vr a3, vi x4, vi x5, v6] [vr a2] h := (run_step _ _ _ _ _ _).trans rfl
set_option maxRecDepth 8000 in
theorem s_268_1360 : run (d + 1) md_268 1360 [vr a0, vr a1, vr a2, vr a3, vi x4, vi x5, v6] [vr b0] h = run (d + 1) md_268 1361 [vr a0, vr a1, vr a2, vr a3, vi x4, vi x5, v6] [vr a0, vr b0] h := (run_step _ _ _ _ _ _).trans rfl
set_option maxRecDepth 8000 in
theorem s_268_1361 : run (d + 1) md_268 1361 [vr a0, vr a1, vr a2, vr a3, vi x4, vi x5, v6] [vr b1, vr b0] h = run (d + 1) md_268 1363 [vr a0, vr a1, vr a2, vr a3, vi x4, vi x5, v6] [vi x4, vr b1, vr b0] h := (run_step _ _ _ _ _ _).trans rfl
set_option maxRecDepth 8000 in
theorem s_268_1363 : run (d + 1) md_268 1363 [vr a0, vr a1, vr a2, vr a3, vi x4, vi x5, v6] [vi z2, vr b1, vr b0] h = run (d + 1) md_268 1364 [vr a0, vr a1, vr a2, vr a3, vi x4, vi x5, v6] [vi 1, vi z2, vr b1, vr b0] h := (run_step _ _ _ _ _ _).trans rfl
set_option maxRecDepth 8000 in
theorem s_268_1364 : run (d + 1) md_268 1364 [vr a0, vr a1, vr a2, vr a3, vi x4, vi x5, v6] [vi z3, vi z2, vr b1, vr b0] h = run (d + 1) md_268 1365 [vr a0, vr a1, vr a2, vr a3, vi x4, vi x5, v6] [vi (i_add z2 z3), vr b1, vr b0] h := (run_step _ _ _ _ _ _).trans rfl
set_option maxRecDepth 8000 in
theorem s_268_1365 : run (d + 1) md_268 1365 [vr a0, vr a1, vr a2, vr a3, vi x4, vi x5, v6] [vi z2, vr b1, vr b0] h = bif (isK h b1 11 || isK h b1 21) && inb h b1 z2 then run (d + 1) md_268 1366 [vr a0, vr a1, vr a2, vr a3, vi x4, vi x5, v6] [vi (h_mi h b1 (z2 : Int).toNat), vr b0] h else none := (run_step _ _ _ _ _ _).trans rfl
set_option maxRecDepth 8000 in
theorem s_268_1366 : run (d + 1) md_268 1366 [vr a0, vr a1, vr a2, vr a3, vi x4, vi x5, v6] [vi z1, vr b0] h = run (d + 1) md_268 1367 [vr a0, vr a1, vr a2, vr a3, vi x4, vi x5, v6] [vr a0, vi z1, vr b0] h := (run_step _ _ _ _ _ _).trans rfl
set_option maxRecDepth 8000 in
theorem s_268_1367 : run (d + 1) md_268 1367 [vr a0, vr a1, vr a2, vr a3, vi x4, vi x5, v6] [vr b2, vi z1, vr b0] h = run (d + 1) md_268 1369 [vr a0, vr a1, vr a2, vr a3, vi x4, vi x5, v6] [vi x4, vr b2, vi z1, vr b0] h := (run_step _ _ _ _ _ _).trans rfl
set_option maxRecDepth 8000 in
theorem s_268_1369 : run (d + 1) md_268 1369 [vr a0, vr a1, vr a2, vr a3, vi x4, vi x5, v6] [vi z3, vr b2, vi z1, vr b0] h = run (d + 1) md_268 1370 [vr a0, vr a1, vr a2, vr a3, vi x4, vi x5, v6] [vi 2, vi z3, vr b2, vi z1, vr b0] h := (run_step _ _ _ _ _ _).trans rfl
set_option maxRecDepth 8000 in
theorem s_268_1370 : run (d + 1) md_268 1370 [vr a0, vr a1, vr a2, vr a3, vi x4, vi x5, v6] [vi z4, vi z3, vr b2, vi z1, vr b0] h = run (d + 1) md_268 1371 [vr a0, vr a1, vr a2, vr a3, vi x4, vi x5, v6] [vi (i_add z3 z4), vr b2, vi z1, vr b0] h := (run_step _ _ _ _ _ _).trans rfl
set_option maxRecDepth 8000 in
theorem s_268_1371 : run (d + 1) md_268 1371 [vr a0, vr a1, vr a2, vr a3, vi x4, vi x5, v6] [vi z3, vr b2, vi z1, vr b0] h = bif (isK h b2 11 || isK h b2 21) && inb h b2 z3 then run (d + 1) md_268 1372 [vr a0, vr a1, vr a2, vr a3, vi x4, vi x5, v6] [vi (h_mi h b2 (z3 : Int).toNat), vi z1, vr b0] h else none := (run_step _ _ _ _ _ _).trans rfl
set_option maxRecDepth 8000 in
theorem s_268_1372 : run (d + 1) md_268 1372 [vr a0, vr a1, vr a2, vr a3, vi x4, vi x5, v6] [vi z2, vi z1, vr b0] h = run (d + 1) md_268 1373 [vr a0, vr a1, vr a2, vr a3, vi x4, vi x5, v6] [vr a0, vi z2, vi z1, vr b0] h := (run_step _ _ _ _ _ _).trans rfl
set_option maxRecDepth 8000 in
theorem s_268_1373 : run (d + 1) md_268 1373 [vr a0, vr a1, vr a2, vr a3, vi x4, vi x5, v6] [vr b3, vi z2, vi z1, vr b0] h = run (d + 1) md_268 1375 [vr a0, vr a1, vr a2, vr a3, vi x4, vi x5, v6] [vi x4, vr b3, vi z2, vi z1, vr b0] h := (run_step _ _ _ _ _ _).trans rfl
set_option maxRecDepth 8000 in
theorem s_268_1375 : run (d + 1) md_268 1375 [vr a0, vr a1, vr a2, vr a3, vi x4, vi x5, v6] [vi z4, vr b3, vi z2, vi z1, vr b0] h = run (d + 1) md_268 1376 [vr a0, vr a1, vr a2, vr a3, vi x4, vi x5, v6] [vi 3, vi z4, vr b3, vi z2, vi z1, vr b0] h := (run_step _ _ _ _ _ _).trans rfl
set_option maxRecDepth 8000 in
theorem s_268_1376 : run (d + 1) md_268 1376 [vr a0, vr a1, vr a2, vr a3, vi x4, vi x5, v6] [vi z5, vi z4, vr b3, vi z2, vi z1, vr b0] h = run (d + 1) md_268 1377 [vr a0, vr a1, vr a2, vr a3, vi x4, vi x5, v6] [vi (i_add z4 z5), vr b3, vi z2, vi z1, vr b0] h := (run_step _ _ _ _ _ _).trans rfl
set_option maxRecDepth 8000 in
theorem s_268_1377 : run (d + 1) md_268 1377 [vr a0, vr a1, vr a2, vr a3, vi x4, vi x5, v6] [vi z4, vr b3, vi z2, vi z1, vr b0] h = bif (isK h b3 11 || isK h b3 21) && inb h b3 z4 then run (d + 1) md_268 1378 [vr a0, vr a1, vr a2, vr a3, vi x4, vi x5, v6] [vi (h_mi h b3 (z4 : Int).toNat), vi z2, vi z1, vr b0] h else none := (run_step _ _ _ _ _ _).trans rfl
set_option maxRecDepth 8000 in
theorem s_268_1378 : run (d + 1) md_268 1378 [vr a0, vr a1, vr a2, vr a3, vi x4, vi x5, v6] [vi z3, vi z2, vi z1, vr b0] h = run (d + 1) md_268 1379 [vr a0, vr a1, vr a2, vr a3, vi x4, vi x5, v6] [vr a0, vi z3, vi z2, vi z1, vr b0] h := (run_step _ _ _ _ _ _).trans rfl
set_option maxRecDepth 8000 in
theorem s_268_1379 : run (d + 1) md_268 1379 [vr a0, vr a1, vr a2, vr a3, vi x4, vi x5, v6] [vr b4, vi z3, vi z2, vi z1, vr b0] h = run (d + 1) md_268 1381 [vr a0, vr a1, vr a2, vr a3, vi x4, vi x5, v6] [vi x4, vr b4, vi z3, vi z2, vi z1, vr b0] h := (run_step _ _ _ _ _ _).trans rfl
set_option maxRecDepth 8000 in
theorem s_268_1381 : run (d + 1) md_268 1381 [vr a0, vr a1, vr a2, vr a3, vi x4, vi x5, v6] [vi z5, vr b4, vi z3, vi z2, vi z1, vr b0] h = run (d + 1) md_268 1382 [vr a0, vr a1, vr a2, vr a3, vi x4, vi x5, v6] [vi 4, vi z5, vr b4, vi z3, vi z2, vi z1, vr b0] h := (run_step _ _ _ _ _ _).trans rfl
set_option maxRecDepth 8000 in
theorem s_268_1382 : run (d + 1) md_268 1382 [vr a0, vr a1, vr a2, vr a3, vi x4, vi x5, v6] [vi z6, vi z5, vr b4, vi z3, vi z2, vi z1, vr b0] h = run (d + 1) md_268 1383 [vr a0, vr a1, vr a2, vr a3, vi x4, vi x5, v6] [vi (i_add z5 z6), vr b4, vi z3, vi z2, vi z1, vr b0] h := (run_step _ _ _ _ _ _).trans rfl
set_option maxRecDepth 8000 in
theorem s_268_1383 : run (d + 1) md_268 1383 [vr a0, vr a1, vr a2, vr a3, vi x4, vi x5, v6] [vi z5, vr b4, vi z3, vi z2, vi z1, vr b0] h = bif (isK h b4 11 || isK h b4 21) && inb h b4 z5 then run (d + 1) md_268 1384 [vr a0, vr a1, vr a2, vr a3, vi x4, vi x5, v6] [vi (h_mi h b4 (z5 : Int).toNat), vi z3, vi z2, vi z1, vr b0] h else none := (run_step _ _ _ _ _ _).trans rfl
set_option maxRecDepth 20000 in
set_option maxRecDepth 8000 in
theorem s_268_1384 : run (d + 1) md_268 1384 [vr a0, vr a1, vr a2, vr a3, vi x4, vi x5, v6] [vi z4, vi z3, vi z2, vi z1, vr b0] h = bif isK h b0 9 then bI (ev d 250 [vr b0, vi z1, vi z2, vi z3, vi z4] h) fun r1 h1 => run (d + 1) md_268 1387 [vr a0, vr a1, vr a2, vr a3, vi x4, vi x5, v6] [vi r1] h1 else none := (run_step _ _ _ _ _ _).trans rfl
set_option maxRecDepth 8000 in
theorem s_268_1387 : run (d + 1) md_268 1387 [vr a0, vr a1, vr a2, vr a3, vi x4, vi x5, v6] [vi z0] h = run (d + 1) md_268 1389 [vr a0, vr a1, vr a2, vr a3, vi x4, vi x5, vi z0] [] h := (run_step _ _ _ _ _ _).trans rfl
set_option maxRecDepth 8000 in
theorem s_268_1389 : run (d + 1) md_268 1389 [vr a0, vr a1, vr a2, vr a3, vi x4, vi x5, vi x6] [] h = run (d + 1) md_268 1390 [vr a0, vr a1, vr a2, vr a3, vi x4, vi x5, vi x6] [vr a2] h := (run_step _ _ _ _ _ _).trans rfl
set_option maxRecDepth 20000 in
set_option maxRecDepth 8000 in
theorem s_268_1390 : run (d + 1) md_268 1390 [vr a0, vr a1, vr a2, vr a3, vi x4, vi x5, vi x6] [vr b0] h = bif isK h b0 9 then bI (ev d 147 [vr b0] h) fun r1 h1 => run (d + 1) md_268 1393 [vr a0, vr a1, vr a2, vr a3, vi x4, vi x5, vi x6] [vi r1] h1 else none := (run_step _ _ _ _ _ _).trans rfl
set_option maxRecDepth 8000 in
theorem s_268_1393 : run (d + 1) md_268 1393 [vr a0, vr a1, vr a2, vr a3, vi x4, vi x5, vi x6] [vi z0] h = run (d + 1) md_268 1395 [vr a0, vr a1, vr a2, vr a3, vi x4, vi x5, vi x6] [vi x5, vi z0] h := (run_step _ _ _ _ _ _).trans rfl
set_option maxRecDepth 8000 in
theorem s_268_1395 : run (d + 1) md_268 1395 [vr a0, vr a1, vr a2, vr a3, vi x4, vi x5, vi x6] [vi z1, vi z0] h = bif decide (z0 = z1) then run (d + 1) md_268 1400 [vr a0, vr a1, vr a2, vr a3, vi x4, vi x5, vi x6] [] h else run (d + 1) md_268 1398 [vr a0, vr a1, vr a2, vr a3, vi x4, vi x5, vi x6] [] h := (run_step _ _ _ _ _ _).trans rfl
set_option maxRecDepth 8000 in
theorem s_268_1398 : run (d + 1) md_268 1398 [vr a0, vr a1, vr a2, vr a3, vi x4, vi x5, vi x6] [] h = run (d + 1) md_268 1399 [vr a0, vr a1, vr a2, vr a3, vi x4, vi x5, vi x6] [vi 0] h := (run_step _ _ _ _ _ _).trans rfl
set_option maxRecDepth 8000 in
theorem s_268_1399 : run (d + 1) md_268 1399 [vr a0, vr a1, vr a2, vr a3, vi x4, vi x5, vi x6] [vi z0] h = bif decide (z0 = 0) || decide (z0 = 1) then some (vi z0, h) else none := (run_step _ _ _ _ _ _).trans rfl
set_option maxRecDepth 8000 in
theorem s_268_1400 : run (d + 1) md_268 1400 [vr a0, vr a1, vr a2, vr a3, vi x4, vi x5, vi x6] [] h = run (d + 1) md_268 1402 [vr a0, vr a1, vr a2, vr a3, vi x4, vi x5, vi x6] [vi x5] h := (run_step _ _ _ _ _ _).trans rfl
set_option maxRecDepth 8000 in
theorem s_268_1402 : run (d + 1) md_268 1402 [vr a0, vr a1, vr a2, vr a3, vi x4, vi x5, vi x6] [vi z0] h = bif decide (z0 ≠ 0) then run (d + 1) md_268 1417 [vr a0, vr a1, vr a2, vr a3, vi x4, vi x5, vi x6] [] h else run (d + 1) md_268 1405 [vr a0, vr a1, vr a2, vr a3, vi x4, vi x5, vi x6] [] h := (run_step _ _ _ _ _ _).trans rfl
set_option maxRecDepth 8000 in
theorem s_268_1405 : run (d + 1) md_268 1405 [vr a0, vr a1, vr a2, vr a3, vi x4, vi x5, vi x6] [] h = run (d + 1) md_268 1406 [vr a0, vr a1, vr a2, vr a3, vi x4, vi x5, vi x6] [vr a3] h := (run_step _ _ _ _ _ _).trans rfl
set_option maxRecDepth 8000 in
theorem s_268_1406 : run (d + 1) md_268 1406 [vr a0, vr a1, vr a2, vr a3, vi x4, vi x5, vi x6] [vr b0] h = run (d + 1) md_268 1407 [vr a0, vr a1, vr a2, vr a3, vi x4, vi x5, vi x6] [vi 0, vr b0] h := (run_step _ _ _ _ _ _).trans rfl
set_option maxRecDepth 8000 in
theorem s_268_1407 : run (d + 1) md_268 1407 [vr a0, vr a1, vr a2, vr a3, vi x4, vi x5, vi x6] [vi z1, vr b0] h = bif isK h b0 12 && inb h b0 z1 then run (d + 1) md_268 1408 [vr a0, vr a1, vr a2, vr a3, vi x4, vi x5, vi x6] [vl (h_ml h b0 (z1 : Int).toNat)] h else none := (run_step _ _ _ _ _ _).trans rfl
set_option maxRecDepth 8000 in
theorem s_268_1408 : run (d + 1) md_268 1408 [vr a0, vr a1, vr a2, vr a3, vi x4, vi x5, vi x6] [vl w0] h = run (d + 1) md_268 1410 [vr a0, vr a1, vr a2, vr a3, vi x4, vi x5, vi x6] [vi x6, vl w0] h := (run_step _ _ _ _ _ _).trans rfl
set_option maxRecDepth 8000 in
theorem s_268_1410 : run (d + 1) md_268 1410 [vr a0, vr a1, vr a2, vr a3, vi x4, vi x5, vi x6] [vi z1, vl w0] h = run (d + 1) md_268 1411 [vr a0, vr a1, vr a2, vr a3, vi x4, vi x5, vi x6] [vl z1, vl w0] h := (run_step _ _ _ _ _ _).trans rfl
set_option maxRecDepth 8000 in
theorem s_268_1411 : run (d + 1) md_268 1411 [vr a0, vr a1, vr a2, vr a3, vi x4, vi x5, vi x6] [vl w1, vl w0] h = run (d + 1) md_268 1412 [vr a0, vr a1, vr a2, vr a3, vi x4, vi x5, vi x6] [vi (l_cmp w0 w1)] h := (run_step _ _ _ _ _ _).trans rfl
set_option maxRecDepth 8000 in
theorem s_268_1412 : run (d + 1) md_268 1412 [vr a0, vr a1, vr a2, vr a3, vi x4, vi x5, vi x6] [vi z0] h = bif decide (z0 = 0) then run (d + 1) md_268 1417 [vr a0, vr a1, vr a2, vr a3, vi x4, vi x5, vi x6] [] h else run (d + 1) md_268 1415 [vr a0, vr a1, vr a2, vr a3, vi x4, vi x5, vi x6] [] h := (run_step _ _ _ _ _ _).trans rfl
set_option maxRecDepth 8000 in
theorem s_268_1415 : run (d + 1) md_268 1415 [vr a0, vr a1, vr a2, vr a3, vi x4, vi x5, vi x6] [] h = run (d + 1) md_268 1416 [vr a0, vr a1, vr a2, vr a3, vi x4, vi x5, vi x6] [vi 0] h := (run_step _ _ _ _ _ _).trans rfl
set_option maxRecDepth 8000 in
theorem s_268_1416 : run (d + 1) md_268 1416 [vr a0, vr a1, vr a2, vr a3, vi x4, vi x5, vi x6] [vi z0] h = bif decide (z0 = 0) || decide (z0 = 1) then some (vi z0, h) else none := (run_step _ _ _ _ _ _).trans rfl
set_option maxRecDepth 8000 in
theorem s_268_1417 : run (d + 1) md_268 1417 [vr a0, vr a1, vr a2, vr a3, vi x4, vi x5, vi x6] [] h = run (d + 1) md_268 1498 [vr a0, vr a1, vr a2, vr a3, vi x4, vi x5, vi x6] [] h := (run_step _ _ _ _ _ _).trans rfl
set_option maxRecDepth 8000 in
theorem s_268_1420 : run (d + 1) md_268 1420 [vr a0, vr a1, vr a2, vr a3, vi x4, v5, v6] [] h = run (d + 1) md_268 1421 [vr a0, vr a1, vr a2, vr a3, vi x4, v5, v6] [vr a1] h := (run_step _ _ _ _ _ _).trans rfl
set_option maxRecDepth 8000 in
theorem s_268_1421 : run (d + 1) md_268 1421 [vr a0, vr a1, vr a2, vr a3, vi x4, v5, v6] [vr b0] h = run (d + 1) md_268 1422 [vr a0, vr a1, vr a2, vr a3, vi x4, v5, v6] [vr a0, vr b0] h := (run_step _ _ _ _ _ _).trans rfl
set_option maxRecDepth 8000 in
theorem s_268_1422 : run (d + 1) md_268 1422 [vr a0, vr a1, vr a2, vr a3, vi x4, v5, v6] [vr b1, vr b0] h = run (d + 1) md_268 1424 [vr a0, vr a1, vr a2, vr a3, vi x4, v5, v6] [vi x4, vr b1, vr b0] h := (run_step _ _ _ _ _ _).trans rfl
set_option maxRecDepth 8000 in
theorem s_268_1424 : run (d + 1) md_268 1424 [vr a0, vr a1, vr a2, vr a3, vi x4, v5, v6] [vi z2, vr b1, vr b0] h = run (d + 1) md_268 1425 [vr a0, vr a1, vr a2, vr a3, vi x4, v5, v6] [vi 1, vi z2, vr b1, vr b0] h := (run_step _ _ _ _ _ _).trans rfl
set_option maxRecDepth 8000 in
theorem s_268_1425 : run (d + 1) md_268 1425 [vr a0, vr a1, vr a2, vr a3, vi x4, v5, v6] [vi z3, vi z2, vr b1, vr b0] h = run (d + 1) md_268 1426 [vr a0, vr a1, vr a2, vr a3, vi x4, v5, v6] [vi (i_add z2 z3), vr b1, vr b0] h := (run_step _ _ _ _ _ _).trans rfl
set_option maxRecDepth 8000 in
theorem s_268_1426 : run (d + 1) md_268 1426 [vr a0, vr a1, vr a2, vr a3, vi x4, v5, v6] [vi z2, vr b1, vr b0] h = bif (isK h b1 11 || isK h b1 21) && inb h b1 z2 then run (d + 1) md_268 1427 [vr a0, vr a1, vr a2, vr a3, vi x4, v5, v6] [vi (h_mi h b1 (z2 : Int).toNat), vr b0] h else none := (run_step _ _ _ _ _ _).trans rfl
set_option maxRecDepth 8000 in
theorem s_268_1427 : run (d + 1) md_268 1427 [vr a0, vr a1, vr a2, vr a3, vi x4, v5, v6] [vi z1, vr b0] h = run (d + 1) md_268 1428 [vr a0, vr a1, vr a2, vr a3, vi x4, v5, v6] [vr a0, vi z1, vr b0] h := (run_step _ _ _ _ _ _).trans rfl
set_option maxRecDepth 8000 in
theorem s_268_1428 : run (d + 1) md_268 1428 [vr a0, vr a1, vr a2, vr a3, vi x4, v5, v6] [vr b2, vi z1, vr b0] h = run (d + 1) md_268 1430 [vr a0, vr a1, vr a2, vr a3, vi x4, v5, v6] [vi x4, vr b2, vi z1, vr b0] h := (run_step _ _ _ _ _ _).trans rfl
set_option maxRecDepth 8000 in
theorem s_268_1430 : run (d + 1) md_268 1430 [vr a0, vr a1, vr a2, vr a3, vi x4, v5, v6] [vi z3, vr b2, vi z1, vr b0] h = run (d + 1) md_268 1431 [vr a0, vr a1, vr a2, vr a3, vi x4, v5, v6] [vi 2, vi z3, vr b2, vi z1, vr b0] h := (run_step _ _ _ _ _ _).trans rfl
set_option maxRecDepth 8000 in
theorem s_268_1431 : run (d + 1) md_268 1431 [vr a0, vr a1, vr a2, vr a3, vi x4, v5, v6] [vi z4, vi z3, vr b2, vi z1, vr b0] h = run (d + 1) md_268 1432 [vr a0, vr a1, vr a2, vr a3, vi x4, v5, v6] [vi (i_add z3 z4), vr b2, vi z1, vr b0] h := (run_step _ _ _ _ _ _).trans rfl
set_option maxRecDepth 8000 in
theorem s_268_1432 : run (d + 1) md_268 1432 [vr a0, vr a1, vr a2, vr a3, vi x4, v5, v6] [vi z3, vr b2, vi z1, vr b0] h = bif (isK h b2 11 || isK h b2 21) && inb h b2 z3 then run (d + 1) md_268 1433 [vr a0, vr a1, vr a2, vr a3, vi x4, v5, v6] [vi (h_mi h b2 (z3 : Int).toNat), vi z1, vr b0] h else none := (run_step _ _ _ _ _ _).trans rfl
set_option maxRecDepth 8000 in
theorem s_268_1433 : run (d + 1) md_268 1433 [vr a0, vr a1, vr a2, vr a3, vi x4, v5, v6] [vi z2, vi z1, vr b0] h = bif decide (z2 = 0) then run (d + 1) md_268 1440 [vr a0, vr a1, vr a2, vr a3, vi x4, v5, v6] [vi z1, vr b0] h else run (d + 1) md_268 1436 [vr a0, vr a1, vr a2, vr a3, vi x4, v5, v6] [vi z1, vr b0] h := (run_step _ _ _ _ _ _).trans rfl
set_option maxRecDepth 8000 in
theorem s_268_1436 : run (d + 1) md_268 1436 [vr a0, vr a1, vr a2, vr a3, vi x4, v5, v6] [vi z1, vr b0] h = run (d + 1) md_268 1437 [vr a0, vr a1, vr a2, vr a3, vi x4, v5, v6] [vi 1, vi z1, vr b0] h := (run_step _ _ _ _ _ _).trans rfl
set_option maxRecDepth 8000 in
theorem s_268_1437 : run (d + 1) md_268 1437 [vr a0, vr a1, vr a2, vr a3, vi x4, v5, v6] [vi z2, vi z1, vr b0] h = run (d + 1) md_268 1441 [vr a0, vr a1, vr a2, vr a3, vi x4, v5, v6] [vi z2, vi z1, vr b0] h := (run_step _ _ _ _ _ _).trans rfl
set_option maxRecDepth 8000 in
theorem s_268_1440 : run (d + 1) md_268 1440 [vr a0, vr a1, vr a2, vr a3, vi x4, v5, v6] [vi z1, vr b0] h = run (d + 1) md_268 1441 [vr a0, vr a1, vr a2, vr a3, vi x4, v5, v6] [vi 0, vi z1, vr b0] h := (run_step _ _ _ _ _ _).trans rfl
set_option maxRecDepth 20000 in
set_option maxRecDepth 8000 in
theorem s_268_1441 : run (d + 1) md_268 1441 [vr a0, vr a1, vr a2, vr a3, vi x4, v5, v6] [vi z2, vi z1, vr b0] h = bif isK h b0 8 then bI (ev d 138 [vr b0, vi z1, vi z2] h) fun r1 h1 => run (d + 1) md_268 1444 [vr a0, vr a1, vr a2, vr a3, vi x4, v5, v6] [vi r1] h1 else none := (run_step _ _ _ _ _ _).trans rfl
set_option maxRecDepth 8000 in
theorem s_268_1444 : run (d + 1) md_268 1444 [vr a0, vr a1, vr a2, vr a3, vi x4, v5, v6] [vi z0] h = run (d + 1) md_268 1445 [vr a0, vr a1, vr a2, vr a3, vi x4, v5, v6] [vr a2, vi z0] h := (run_step _ _ _ _ _ _).trans rfl
set_option maxRecDepth 8000 in
theorem s_268_1445 : run (d + 1) md_268 1445 [vr a0, vr a1, vr a2, vr a3, vi x4, v5, v6] [vr b1, vi z0] h = run (d + 1) md_268 1446 [vr a0, vr a1, vr a2, vr a3, vi x4, v5, v6] [vr a0, vr b1, vi z0] h := (run_step _ _ _ _ _ _).trans rfl
set_option maxRecDepth 8000 in
theorem s_268_1446 : run (d + 1) md_268 1446 [vr a0, vr a1, vr a2, vr a3, vi x4, v5, v6] [vr b2, vr b1, vi z0] h = run (d + 1) md_268 1448 [vr a0, vr a1, vr a2, vr a3, vi x4, v5, v6] [vi x4, vr b2, vr b1, vi z0] h := (run_step _ _ _ _ _ _).trans rfl
set_option maxRecDepth 8000 in
theorem s_268_1448 : run (d + 1) md_268 1448 [vr a0, vr a1, vr a2, vr a3, vi x4, v5, v6] [vi z3, vr b2, vr b1, vi z0] h = run (d + 1) md_268 1449 [vr a0, vr a1, vr a2, vr a3, vi x4, v5, v6] [vi 1, vi z3, vr b2, vr b1, vi z0] h := (run_step _ _ _ _ _ _).trans rfl
set_option maxRecDepth 8000 in
theorem s_268_1449 : run (d + 1) md_268 1449 [vr a0, vr a1, vr a2, vr a3, vi x4, v5, v6] [vi z4, vi z3, vr b2, vr b1, vi z0] h = run (d + 1) md_268 1450 [vr a0, vr a1, vr a2, vr a3, vi x4, v5, v6] [vi (i_add z3 z4), vr b2, vr b1, vi z0] h := (run_step _ _ _ _ _ _).trans rfl
set_option maxRecDepth 8000 in
theorem s_268_1450 : run (d + 1) md_268 1450 [vr a0, vr a1, vr a2, vr a3, vi x4, v5, v6] [vi z3, vr b2, vr b1, vi z0] h = bif (isK h b2 11 || isK h b2 21) && inb h b2 z3 then run (d + 1) md_268 1451 [vr a0, vr a1, vr a2, vr a3, vi x4, v5, v6] [vi (h_mi h b2 (z3 : Int).toNat), vr b1, vi z0] h else none := (run_step _ _ _ _ _ _).trans rfl
set_option maxRecDepth 8000 in
theorem s_268_1451 : run (d + 1) md_268 1451 [vr a0, vr a1, vr a2, vr a3, vi x4, v5, v6] [vi z2, vr b1, vi z0] h = run (d + 1) md_268 1452 [vr a0, vr a1, vr a2, vr a3, vi x4, v5, v6] [vr a0, vi z2, vr b1, vi z0] h := (run_step _ _ _ _ _ _).trans rfl
set_option maxRecDepth 8000 in
theorem s_268_1452 : run (d + 1) md_268 1452 [vr a0, vr a1, vr a2, vr a3, vi x4, v5, v6] [vr b3, vi z2, vr b1, vi z0] h = run (d + 1) md_268 1454 [vr a0, vr a1, vr a2, vr a3, vi x4, v5, v6] [vi x4, vr b3, vi z2, vr b1, vi z0] h := (run_step _ _ _ _ _ _).trans rfl
set_option maxRecDepth 8000 in
theorem s_268_1454 : run (d + 1) md_268 1454 [vr a0, vr a1, vr a2, vr a3, vi x4, v5, v6] [vi z4, vr b3, vi z2, vr b1, vi z0] h = run (d + 1) md_268 1455 [vr a0, vr a1, vr a2, vr a3, vi x4, v5, v6] [vi 2, vi z4, vr b3, vi z2, vr b1, vi z0] h := (run_step _ _ _ _ _ _).trans rfl
set_option maxRecDepth 8000 in
theorem s_268_1455 : run (d + 1) md_268 1455 [vr a0, vr a1, vr a2, vr a3, vi x4, v5, v6] [vi z5, vi z4, vr b3, vi z2, vr b1, vi z0] h = run (d + 1) md_268 1456 [vr a0, vr a1, vr a2, vr a3, vi x4, v5, v6] [vi (i_add z4 z5), vr b3, vi z2, vr b1, vi z0] h := (run_step _ _ _ _ _ _).trans rfl
set_option maxRecDepth 8000 in
theorem s_268_1456 : run (d + 1) md_268 1456 [vr a0, vr a1, vr a2, vr a3, vi x4, v5, v6] [vi z4, vr b3, vi z2, vr b1, vi z0] h = bif (isK h b3 11 || isK h b3 21) && inb h b3 z4 then run (d + 1) md_268 1457 [vr a0, vr a1, vr a2, vr a3, vi x4, v5, v6] [vi (h_mi h b3 (z4 : Int).toNat), vi z2, vr b1, vi z0] h else none := (run_step _ _ _ _ _ _).trans rfl
set_option maxRecDepth 8000 in
theorem s_268_1457 : run (d + 1) md_268 1457 [vr a0, vr a1, vr a2, vr a3, vi x4, v5, v6] [vi z3, vi z2, vr b1, vi z0] h = bif decide (z3 = 0) then run (d + 1) md_268 1464 [vr a0, vr a1, vr a2, vr a3, vi x4, v5, v6] [vi z2, vr b1, vi z0] h else run (d + 1) md_268 1460 [vr a0, vr a1, vr a2, vr a3, vi x4, v5, v6] [vi z2, vr b1, vi z0] h := (run_step _ _ _ _ _ _).trans rfl
set_option maxRecDepth 8000 in
theorem s_268_1460 : run (d + 1) md_268 1460 [vr a0, vr a1, vr a2, vr a3, vi x4, v5, v6] [vi z2, vr b1, vi z0] h = run (d + 1) md_268 1461 [vr a0, vr a1, vr a2, vr a3, vi x4, v5, v6] [vi 1, vi z2, vr b1, vi z0] h := (run_step _ _ _ _ _ _).trans rfl
set_option maxRecDepth 8000 in
theorem s_268_1461 : run (d + 1) md_268 1461 [vr a0, vr a1, vr a2, vr a3, vi x4, v5, v6] [vi z3, vi z2, vr b1, vi z0] h = run (d + 1) md_268 1465 [vr a0, vr a1, vr a2, vr a3, vi x4, v5, v6] [vi z3, vi z2, vr b1, vi z0] h := (run_step _ _ _ _ _ _).trans rfl
set_option maxRecDepth 8000 in
theorem s_268_1464 : run (d + 1) md_268 1464 [vr a0, vr a1, vr a2, vr a3, vi x4, v5, v6] [vi z2, vr b1, vi z0] h = run (d + 1) md_268 1465 [vr a0, vr a1, vr a2, vr a3, vi x4, v5, v6] [vi 0, vi z2, vr b1, vi z0] h := (run_step _ _ _ _ _ _).trans rfl
set_option maxRecDepth 20000 in
set_option maxRecDepth 8000 in
theorem s_268_1465 : run (d + 1) md_268 1465 [vr a0, vr a1, vr a2, vr a3, vi x4, v5, v6] [vi z3, vi z2, vr b1, vi z0] h = bif isK h b1 9 then bI (ev d 251 [vr b1, vi z2, vi z3] h) fun r1 h1 => run (d + 1) md_268 1468 [vr a0, vr a1, vr a2, vr a3, vi x4, v5, v6] [vi r1, vi z0] h1 else none := (run_step _ _ _ _ _ _).trans rfl
set_option maxRecDepth 8000 in
theorem s_268_1468 : run (d + 1) md_268 1468 [vr a0, vr a1, vr a2, vr a3, vi x4, v5, v6] [vi z1, vi z0] h = bif decide (z0 = z1) then run (d + 1) md_268 1498 [vr a0, vr a1, vr a2, vr a3, vi x4, v5, v6] [] h else run (d + 1) md_268 1471 [vr a0, vr a1, vr a2, vr a3, vi x4, v5, v6] [] h := (run_step _ _ _ _ _ _).trans rfl
set_option maxRecDepth 8000 in
theorem s_268_1471 : run (d + 1) md_268 1471 [vr a0, vr a1, vr a2, vr a3, vi x4, v5, v6] [] h = run (d + 1) md_268 1472 [vr a0, vr a1, vr a2, vr a3, vi x4, v5, v6] [vi 0] h := (run_step _ _ _ _ _ _).trans rfl
set_option maxRecDepth 8000 in
theorem s_268_1472 : run (d + 1) md_268 1472 [vr a0, vr a1, vr a2, vr a3, vi x4, v5, v6] [vi z0] h = bif decide (z0 = 0) || decide (z0 = 1) then some (vi z0, h) else none := (run_step _ _ _ _ _ _).trans rfl
set_option maxRecDepth 8000 in
theorem s_268_1473 : run (d + 1) md_268 1473 [vr a0, vr a1, vr a2, vr a3, vi x4, v5, v6] [] h = run (d + 1) md_268 1474 [vr a0, vr a1, vr a2, vr a3, vi x4, v5, v6] [vr a1] h := (run_step _ _ _ _ _ _).trans rfl
set_option maxRecDepth 8000 in
theorem s_268_1474 : run (d + 1) md_268 1474 [vr a0, vr a1, vr a2, vr a3, vi x4, v5, v6] [vr b0] h = run (d + 1) md_268 1475 [vr a0, vr a1, vr a2, vr a3, vi x4, v5, v6] [vr a0, vr b0] h := (run_step _ _ _ _ _ _).trans rfl
set_option maxRecDepth 8000 in
theorem s_268_1475 : run (d + 1) md_268 1475 [vr a0, vr a1, vr a2, vr a3, vi x4, v5, v6] [vr b1, vr b0] h = run (d + 1) md_268 1477 [vr a0, vr a1, vr a2, vr a3, vi x4, v5, v6] [vi x4, vr b1, vr b0] h := (run_step _ _ _ _ _ _).trans rfl
set_option maxRecDepth 8000 in
theorem s_268_1477 : run (d + 1) md_268 1477 [vr a0, vr a1, vr a2, vr a3, vi x4, v5, v6] [vi z2, vr b1, vr b0] h = run (d + 1) md_268 1478 [vr a0, vr a1, vr a2, vr a3, vi x4, v5, v6] [vi 1, vi z2, vr b1, vr b0] h := (run_step _ _ _ _ _ _).trans rfl
set_option maxRecDepth 8000 in
theorem s_268_1478 : run (d + 1) md_268 1478 [vr a0, vr a1, vr a2, vr a3, vi x4, v5, v6] [vi z3, vi z2, vr b1, vr b0] h = run (d + 1) md_268 1479 [vr a0, vr a1, vr a2, vr a3, vi x4, v5, v6] [vi (i_add z2 z3), vr b1, vr b0] h := (run_step _ _ _ _ _ _).trans rfl
set_option maxRecDepth 8000 in
theorem s_268_1479 : run (d + 1) md_268 1479 [vr a0, vr a1, vr a2, vr a3, vi x4, v5, v6] [vi z2, vr b1, vr b0] h = bif (isK h b1 11 || isK h b1 21) && inb h b1 z2 then run (d + 1) md_268 1480 [vr a0, vr a1, vr a2, vr a3, vi x4, v5, v6] [vi (h_mi h b1 (z2 : Int).toNat), vr b0] h else none := (run_step _ _ _ _ _ _).trans rfl
set_option maxRecDepth 20000 in
set_option maxRecDepth 8000 in
theorem s_268_1480 : run (d + 1) md_268 1480 [vr a0, vr a1, vr a2, vr a3, vi x4, v5, v6] [vi z1, vr b0] h = bif isK h b0 8 then bI (ev d 139 [vr b0, vi z1] h) fun r1 h1 => run (d + 1) md_268 1483 [vr a0, vr a1, vr a2, vr a3, vi x4, v5, v6] [vi r1] h1 else none := (run_step _ _ _ _ _ _).trans rfl
set_option maxRecDepth 8000 in
theorem s_268_1483 : run (d + 1) md_268 1483 [vr a0, vr a1, vr a2, vr a3, vi x4, v5, v6] [vi z0] h = run (d + 1) md_268 1484 [vr a0, vr a1, vr a2, vr a3, vi x4, v5, v6] [vr a2, vi z0] h := (run_step _ _ _ _ _ _).trans rfl
set_option maxRecDepth 8000 in
theorem s_268_1484 : run (d + 1) md_268 1484 [vr a0, vr a1, vr a2, vr a3, vi x4, v5, v6] [vr b1, vi z0] h = run (d + 1) md_268 1485 [vr a0, vr a1, vr a2, vr a3, vi x4, v5, v6] [vr a0, vr b1, vi z0] h := (run_step _ _ _ _ _ _).trans rfl
set_option maxRecDepth 8000 in
theorem s_268_1485 : run (d + 1) md_268 1485 [vr a0, vr a1, vr a2, vr a3, vi x4, v5, v6] [vr b2, vr b1, vi z0] h = run (d + 1) md_268 1487 [vr a0, vr a1, vr a2, vr a3, vi x4, v5, v6] [vi x4, vr b2, vr b1, vi z0] h := (run_step _ _ _ _ _ _).trans rfl
set_option maxRecDepth 8000 in
theorem s_268_1487 : run (d + 1) md_268 1487 [vr a0, vr a1, vr a2, vr a3, vi x4, v5, v6] [vi z3, vr b2, vr b1, vi z0] h = run (d + 1) md_268 1488 [vr a0, vr a1, vr a2, vr a3, vi x4, v5, v6] [vi 1, vi z3, vr b2, vr b1, vi z0] h := (run_step _ _ _ _ _ _).trans rfl
set_option maxRecDepth 8000 in
theorem s_268_1488 : run (d + 1) md_268 1488 [vr a0, vr a1, vr a2, vr a3, vi x4, v5, v6] [vi z4, vi z3, vr b2, vr b1, vi z0] h = run (d + 1) md_268 1489 [vr a0, vr a1, vr a2, vr a3, vi x4, v5, v6] [vi (i_add z3 z4), vr b2, vr b1, vi z0] h := (run_step _ _ _ _ _ _).trans rfl
set_option maxRecDepth 8000 in
theorem s_268_1489 : run (d + 1) md_268 1489 [vr a0, vr a1, vr a2, vr a3, vi x4, v5, v6] [vi z3, vr b2, vr b1, vi z0] h = bif (isK h b2 11 || isK h b2 21) && inb h b2 z3 then run (d + 1) md_268 1490 [vr a0, vr a1, vr a2, vr a3, vi x4, v5, v6] [vi (h_mi h b2 (z3 : Int).toNat), vr b1, vi z0] h else none := (run_step _ _ _ _ _ _).trans rfl
set_option maxRecDepth 20000 in
set_option maxRecDepth 8000 in
theorem s_268_1490 : run (d + 1) md_268 1490 [vr a0, vr a1, vr a2, vr a3, vi x4, v5, v6] [vi z2, vr b1, vi z0] h = bif isK h b1 9 then bI (ev d 252 [vr b1, vi z2] h) fun r1 h1 => run (d + 1) md_268 1493 [vr a0, vr a1, vr a2, vr a3, vi x4, v5, v6] [vi r1, vi z0] h1 else none := (run_step _ _ _ _ _ _).trans rfl
set_option maxRecDepth 8000 in
theorem s_268_1493 : run (d + 1) md_268 1493 [vr a0, vr a1, vr a2, vr a3, vi x4, v5, v6] [vi z1, vi z0] h = bif decide (z0 = z1) then run (d + 1) md_268 1498 [vr a0, vr a1, vr a2, vr a3, vi x4, v5, v6] [] h else run (d + 1) md_268 1496 [vr a0, vr a1, vr a2, vr a3, vi x4, v5, v6] [] h := (run_step _ _ _ _ _ _).trans rfl
set_option maxRecDepth 8000 in
theorem s_268_1496 : run (d + 1) md_268 1496 [vr a0, vr a1, vr a2, vr a3, vi x4, v5, v6] [] h = run (d + 1) md_268 1497 [vr a0, vr a1, vr a2, vr a3, vi x4, v5, v6] [vi 0] h := (run_step _ _ _ _ _ _).trans rfl
set_option maxRecDepth 8000 in
theorem s_268_1497 : run (d + 1) md_268 1497 [vr a0, vr a1, vr a2, vr a3, vi x4, v5, v6] [vi z0] h = bif decide (z0 = 0) || decide (z0 = 1) then some (vi z0, h) else none := (run_step _ _ _ _ _ _).trans rfl
set_option maxRecDepth 8000 in
theorem s_268_1498 : run (d + 1) md_268 1498 [vr a0, vr a1, vr a2, vr a3, vi x4, v5, v6] [] h = run (d + 1) md_268 1501 [vr a0, vr a1, vr a2, vr a3, vi (i_add x4 7), v5, v6] [] h := (run_step _ _ _ _ _ _).trans rfl
set_option maxRecDepth 8000 in
theorem s_268_1501 : run (d + 1) md_268 1501 [vr a0, vr a1, vr a2, vr a3, vi x4, v5, v6] [] h = run (d + 1) md_268 23 [vr a0, vr a1, vr a2, vr a3, vi x4, v5, v6] [] h := (run_step _ _ _ _ _ _).trans rfl
set_option maxRecDepth 8000 in
theorem s_268_1504 : run (d + 1) md_268 1504 [vr a0, vr a1, vr a2, vr a3, vi x4, v5, v6] [] h = run (d + 1) md_268 1505 [vr a0, vr a1, vr a2, vr a3, vi x4, v5, v6] [vi 1] h := (run_step _ _ _ _ _ _).trans rfl
set_option maxRecDepth 8000 in
theorem s_268_1505 : run (d + 1) md_268 1505 [vr a0, vr a1, vr a2, vr a3, vi x4, v5, v6] [vi z0] h = bif decide (z0 = 0) || decide (z0 = 1) then some (vi z0, h) else none := (run_step _ _ _ _ _ _).trans rfl
set_option maxRecDepth 8000 in
theorem q_268_0  : run (d + 1) md_268 0 [vr a0, vu, vu, vu, vu, vu, vu] [] h = run (d + 1) md_268 3 [vr a0, vu, vu, vu, vu, vu, vu] [vr (h_sz h)] (alo h 8 0 7) := s_268_0 d a0 h
set_option maxRecDepth 8000 in
theorem q_268_3  : run (d + 1) md_268 3 [vr a0, vu, vu, vu, vu, vu, vu] [vr b0] h = bif isK h b0 8 then bV (ev d 109 [vr b0] h) fun h1 => run (d + 1) md_268 7 [vr a0, vu, vu, vu, vu, vu, vu] [vr b0] h1 else none := (s_268_3 d a0 b0 h).trans (by simp only [s_268_4])
set_option maxRecDepth 8000 in
theorem q_268_7  : run (d + 1) md_268 7 [vr a0, vu, vu, vu, vu, vu, vu] [vr b0] h = run (d + 1) md_268 11 [vr a0, vr b0, vu, vu, vu, vu, vu] [vr (h_sz h)] (alo h 9 0 55) := (s_268_7 d a0 b0 h).trans (by simp only [s_268_8])
set_option maxRecDepth 8000 in
theorem q_268_11  : run (d + 1) md_268 11 [vr a0, vr a1, vu, vu, vu, vu, vu] [vr b0] h = bif isK h b0 9 then bV (ev d 146 [vr b0] h) fun h1 => run (d + 1) md_268 15 [vr a0, vr a1, vu, vu, vu, vu, vu] [vr b0] h1 else none := (s_268_11 d a0 a1 b0 h).trans (by simp only [s_268_12])
set_option maxRecDepth 8000 in
theorem q_268_15  : run (d + 1) md_268 15 [vr a0, vr a1, vu, vu, vu, vu, vu] [vr b0] h = run (d + 1) md_268 19 [vr a0, vr a1, vr b0, vu, vu, vu, vu] [vr (h_sz h)] (alo h 12 1 1) := (s_268_15 d a0 a1 b0 h).trans (by simp only [s_268_16, s_268_17, zb, zd, Int.reduceEq, Int.reduceLE, Int.reduceLT, Nat.reduceLeDiff, Int.reduceNeg, Int.reduceAdd, Int.reduceToNat, decide_true, decide_false, ne_eq, not_false_eq_true, not_true_eq_false])
set_option maxRecDepth 8000 in
theorem q_268_19  : run (d + 1) md_268 19 [vr a0, vr a1, vr a2, vu, vu, vu, vu] [vr b0] h = run (d + 1) md_268 23 [vr a0, vr a1, vr a2, vr b0, vi 0, vu, vu] [] h := (s_268_19 d a0 a1 a2 b0 h).trans (by simp only [s_268_20, s_268_21])
set_option maxRecDepth 8000 in
set_option maxRecDepth 8000 in
theorem q_268_23  : run (d + 1) md_268 23 [vr a0, vr a1, vr a2, vr a3, vi x4, v5, v6] [] h = bif (isK h a0 11 || isK h a0 22 || isK h a0 21 || isK h a0 24 || isK h a0 10 || isK h a0 12) then bif decide ((i_sub (h_ln h a0 : Int) 7) < x4) then some (vi 1, h) else bif (isK h a0 11 || isK h a0 21) && inb h a0 x4 then bif decide ((i_and (h_mi h a0 (x4.toNat)) 31) = 0) then bif (isK h a0 11 || isK h a0 21) && inb h a0 (i_add x4 1) then bif (isK h a0 11 || isK h a0 21) && inb h a0 (i_add x4 2) then bif (isK h a0 11 || isK h a0 21) && inb h a0 (i_add x4 3) then bif (isK h a0 11 || isK h a0 21) && inb h a0 (i_add x4 4) then bif (isK h a0 11 || isK h a0 21) && inb h a0 (i_add x4 5) then bif (isK h a0 11 || isK h a0 21) && inb h a0 (i_add x4 6) then bif isK h a1 8 then bI (ev d 110 [vr a1, vl (l_or (l_shl (h_mi h a0 ((i_add x4 1 : Int).toNat)) 32) (l_and (h_mi h a0 ((i_add x4 2 : Int).toNat)) 4294967295)), vl (l_or (l_shl (h_mi h a0 ((i_add x4 3 : Int).toNat)) 32) (l_and (h_mi h a0 ((i_add x4 4 : Int).toNat)) 4294967295)), vl (l_or (l_shl (h_mi h a0 ((i_add x4 5 : Int).toNat)) 32) (l_and (h_mi h a0 ((i_add x4 6 : Int).toNat)) 4294967295))] h) fun r1 h1 => run (d + 1) md_268 247 [vr a0, vr a1, vr a2, vr a3, vi x4, v5, v6] [vi r1] h1 else none else none else none else none else none else none else none else bif decide ((i_and (h_mi h a0 (x4.toNat)) 31) = 1) then bif isK h a1 8 then bI (ev d 111 [vr a1] h) fun r1 h1 => run (d + 1) md_268 327 [vr a0, vr a1, vr a2, vr a3, vi x4, v5, v6] [vi r1] h1 else none else bif decide ((i_and (h_mi h a0 (x4.toNat)) 31) = 2) then bif (isK h a0 11 || isK h a0 21) && inb h a0 (i_add x4 1) then bif (isK h a0 11 || isK h a0 21) && inb h a0 (i_add x4 2) then bif (isK h a0 11 || isK h a0 21) && inb h a0 (i_add x4 3) then bif isK h a1 8 then bI (ev d 112 [vr a1, vi (h_mi h a0 ((i_add x4 1 : Int).toNat)), vi (h_mi h a0 ((i_add x4 2 : Int).toNat)), vi (h_mi h a0 ((i_add x4 3 : Int).toNat))] h) fun r1 h1 => run (d + 1) md_268 358 [vr a0, vr a1, vr a2, vr a3, vi x4, v5, v6] [vi r1] h1 else none else none else none else none else bif decide ((i_and (h_mi h a0 (x4.toNat)) 31) = 3) then bif (isK h a0 11 || isK h a0 21) && inb h a0 (i_add x4 1) then bif (isK h a0 11 || isK h a0 21) && inb h a0 (i_add x4 2) then bif isK h a1 8 then bI (ev d 113 [vr a1, vi (h_mi h a0 ((i_add x4 1 : Int).toNat)), vi (h_mi h a0 ((i_add x4 2 : Int).toNat))] h) fun r1 h1 => run (d + 1) md_268 401 [vr a0, vr a1, vr a2, vr a3, vi x4, v5, v6] [vi r1] h1 else none else none else none else bif decide ((i_and (h_mi h a0 (x4.toNat)) 31) = 4) then bif (isK h a0 11 || isK h a0 21) && inb h a0 (i_add x4 1) then bif (isK h a0 11 || isK h a0 21) && inb h a0 (i_add x4 2) then bif isK h a1 8 then bI (ev d 114 [vr a1, vi (h_mi h a0 ((i_add x4 1 : Int).toNat)), vi (h_mi h a0 ((i_add x4 2 : Int).toNat))] h) fun r1 h1 => run (d + 1) md_268 438 [vr a0, vr a1, vr a2, vr a3, vi x4, v5, v6] [vi r1] h1 else none else none else none else bif decide ((i_and (h_mi h a0 (x4.toNat)) 31) = 5) then bif (isK h a0 11 || isK h a0 21) && inb h a0 (i_add x4 1) then bif (isK h a0 11 || isK h a0 21) && inb h a0 (i_add x4 2) then bif (isK h a0 11 || isK h a0 21) && inb h a0 (i_add x4 3) then bif isK h a1 8 then bI (ev d 115 [vr a1, vi (h_mi h a0 ((i_add x4 1 : Int).toNat)), vi (h_mi h a0 ((i_add x4 2 : Int).toNat)), vi (h_mi h a0 ((i_add x4 3 : Int).toNat))] h) fun r1 h1 => run (d + 1) md_268 481 [vr a0, vr a1, vr a2, vr a3, vi x4, v5, v6] [vi r1] h1 else none else none else none else none else bif decide ((i_and (h_mi h a0 (x4.toNat)) 31) = 6) then bif (isK h a0 11 || isK h a0 21) && inb h a0 (i_add x4 1) then bif (isK h a0 11 || isK h a0 21) && inb h a0 (i_add x4 2) then bif isK h a1 8 then bI (ev d 116 [vr a1, vi (h_mi h a0 ((i_add x4 1 : Int).toNat)), vi (h_mi h a0 ((i_add x4 2 : Int).toNat))] h) fun r1 h1 => run (d + 1) md_268 524 [vr a0, vr a1, vr a2, vr a3, vi x4, v5, v6] [vi r1] h1 else none else none else none else bif decide ((i_and (h_mi h a0 (x4.toNat)) 31) = 7) then bif isK h a1 8 then bI (ev d 117 [vr a1] h) fun r1 h1 => run (d + 1) md_268 549 [vr a0, vr a1, vr a2, vr a3, vi x4, v5, v6] [vi r1] h1 else none else bif decide ((i_and (h_mi h a0 (x4.toNat)) 31) = 8) then bif (isK h a0 11 || isK h a0 21) && inb h a0 (i_add x4 1) then bif isK h a1 8 then bI (ev d 118 [vr a1, vi (h_mi h a0 ((i_add x4 1 : Int).toNat))] h) fun r1 h1 => run (d + 1) md_268 568 [vr a0, vr a1, vr a2, vr a3, vi x4, v5, v6] [vi r1] h1 else none else none else bif decide ((i_and (h_mi h a0 (x4.toNat)) 31) = 9) then bif (isK h a0 11 || isK h a0 21) && inb h a0 (i_add x4 1) then bif isK h a1 8 then bI (ev d 119 [vr a1, vi (h_mi h a0 ((i_add x4 1 : Int).toNat))] h) fun r1 h1 => run (d + 1) md_268 593 [vr a0, vr a1, vr a2, vr a3, vi x4, v5, v6] [vi r1] h1 else none else none else bif decide ((i_and (h_mi h a0 (x4.toNat)) 31) = 10) then bif (isK h a0 11 || isK h a0 21) && inb h a0 (i_add x4 1) then bif (isK h a0 11 || isK h a0 21) && inb h a0 (i_add x4 2) then bif isK h a1 8 then bI (ev d 120 [vr a1, vi (h_mi h a0 ((i_add x4 1 : Int).toNat)), vi (h_mi h a0 ((i_add x4 2 : Int).toNat))] h) fun r1 h1 => run (d + 1) md_268 624 [vr a0, vr a1, vr a2, vr a3, vi x4, v5, v6] [vi r1] h1 else none else none else none else bif decide ((i_and (h_mi h a0 (x4.toNat)) 31) = 11) then bif (isK h a0 11 || isK h a0 21) && inb h a0 (i_add x4 1) then bif (isK h a0 11 || isK h a0 21) && inb h a0 (i_add x4 2) then bif isK h a1 8 then bI (ev d 121 [vr a1, vi (h_mi h a0 ((i_add x4 1 : Int).toNat)), vi (h_mi h a0 ((i_add x4 2 : Int).toNat))] h) fun r1 h1 => run (d + 1) md_268 661 [vr a0, vr a1, vr a2, vr a3, vi x4, v5, v6] [vi r1] h1 else none else none else none else bif decide ((i_and (h_mi h a0 (x4.toNat)) 31) = 12) then bif (isK h a0 11 || isK h a0 21) && inb h a0 (i_add x4 1) then bif (isK h a0 11 || isK h a0 21) && inb h a0 (i_add x4 2) then bif (isK h a0 11 || isK h a0 21) && inb h a0 (i_add x4 3) then bif isK h a1 8 then bI (ev d 122 [vr a1, vi (h_mi h a0 ((i_add x4 1 : Int).toNat)), vi (h_mi h a0 ((i_add x4 2 : Int).toNat)), vi (h_mi h a0 ((i_add x4 3 : Int).toNat))] h) fun r1 h1 => run (d + 1) md_268 704 [vr a0, vr a1, vr a2, vr a3, vi x4, v5, v6] [vi r1] h1 else none else none else none else none else bif decide ((i_and (h_mi h a0 (x4.toNat)) 31) = 13) then bif (isK h a0 11 || isK h a0 21) && inb h a0 (i_add x4 1) then bif isK h a1 8 then bI (ev d 123 [vr a1, vi (h_mi h a0 ((i_add x4 1 : Int).toNat))] h) fun r1 h1 => run (d + 1) md_268 741 [vr a0, vr a1, vr a2, vr a3, vi x4, v5, v6] [vi r1] h1 else none else none else bif decide ((i_and (h_mi h a0 (x4.toNat)) 31) = 14) then bif (isK h a0 11 || isK h a0 21) && inb h a0 (i_add x4 1) then bif (isK h a0 11 || isK h a0 21) && inb h a0 (i_add x4 2) then bif isK h a1 8 then bI (ev d 124 [vr a1, vi (h_mi h a0 ((i_add x4 1 : Int).toNat)), vi (h_mi h a0 ((i_add x4 2 : Int).toNat))] h) fun r1 h1 => run (d + 1) md_268 772 [vr a0, vr a1, vr a2, vr a3, vi x4, v5, v6] [vi r1] h1 else none else none else none else bif decide ((i_and (h_mi h a0 (x4.toNat)) 31) = 15) then bif (isK h a0 11 || isK h a0 21) && inb h a0 (i_add x4 1) then bif (isK h a0 11 || isK h a0 21) && inb h a0 (i_add x4 2) then bif isK h a1 8 then bI (ev d 125 [vr a1, vi (h_mi h a0 ((i_add x4 1 : Int).toNat)), vi (h_mi h a0 ((i_add x4 2 : Int).toNat))] h) fun r1 h1 => run (d + 1) md_268 809 [vr a0, vr a1, vr a2, vr a3, vi x4, v5, v6] [vi r1] h1 else none else none else none else bif decide ((i_and (h_mi h a0 (x4.toNat)) 31) = 16) then bif (isK h a0 11 || isK h a0 21) && inb h a0 (i_add x4 1) then bif (isK h a0 11 || isK h a0 21) && inb h a0 (i_add x4 2) then bif (isK h a0 11 || isK h a0 21) && inb h a0 (i_add x4 3) then bif (isK h a0 11 || isK h a0 21) && inb h a0 (i_add x4 4) then bif isK h a1 8 then bI (ev d 126 [vr a1, vi (h_mi h a0 ((i_add x4 1 : Int).toNat)), vi (h_mi h a0 ((i_add x4 2 : Int).toNat)), vi (h_mi h a0 ((i_add x4 3 : Int).toNat)), vi (h_mi h a0 ((i_add x4 4 : Int).toNat))] h) fun r1 h1 => run (d + 1) md_268 858 [vr a0, vr a1, vr a2, vr a3, vi x4, v5, v6] [vi r1] h1 else none else none else none else none else none else bif decide ((i_and (h_mi h a0 (x4.toNat)) 31) = 17) then bif (isK h a0 11 || isK h a0 21) && inb h a0 (i_add x4 1) then bif (isK h a0 11 || isK h a0 21) && inb h a0 (i_add x4 2) then bif isK h a1 8 then bI (ev d 127 [vr a1, vi (h_mi h a0 ((i_add x4 1 : Int).toNat)), vi (h_mi h a0 ((i_add x4 2 : Int).toNat))] h) fun r1 h1 => run (d + 1) md_268 907 [vr a0, vr a1, vr a2, vr a3, vi x4, v5, v6] [vi r1] h1 else none else none else none else bif decide ((i_and (h_mi h a0 (x4.toNat)) 31) = 18) then bif (isK h a0 11 || isK h a0 21) && inb h a0 (i_add x4 1) then bif (isK h a0 11 || isK h a0 21) && inb h a0 (i_add x4 2) then bI (ev d 266 [vr a1, vi (h_mi h a0 ((i_add x4 1 : Int).toNat)), vi (h_mi h a0 ((i_add x4 2 : Int).toNat)), vr a3] h) fun r1 h1 => run (d + 1) md_268 945 [vr a0, vr a1, vr a2, vr a3, vi x4, v5, v6] [vi r1] h1 else none else none else bif decide ((i_and (h_mi h a0 (x4.toNat)) 31) = 19) then bif (isK h a0 11 || isK h a0 21) && inb h a0 (i_add x4 1) then bif (isK h a0 11 || isK h a0 21) && inb h a0 (i_add x4 2) then bif isK h a1 8 then bI (ev d 129 [vr a1, vi (h_mi h a0 ((i_add x4 1 : Int).toNat)), vi (h_mi h a0 ((i_add x4 2 : Int).toNat))] h) fun r1 h1 => run (d + 1) md_268 1012 [vr a0, vr a1, vr a2, vr a3, vi x4, v5, v6] [vi r1] h1 else none else none else none else bif decide ((i_and (h_mi h a0 (x4.toNat)) 31) = 20) then bif (isK h a0 11 || isK h a0 21) && inb h a0 (i_add x4 1) then bif (isK h a0 11 || isK h a0 21) && inb h a0 (i_add x4 2) then bif (isK h a0 11 || isK h a0 21) && inb h a0 (i_add x4 3) then bif isK h a1 8 then bI (ev d 130 [vr a1, vi (h_mi h a0 ((i_add x4 1 : Int).toNat)), vi (h_mi h a0 ((i_add x4 2 : Int).toNat)), vi (h_mi h a0 ((i_add x4 3 : Int).toNat))] h) fun r1 h1 => run (d + 1) md_268 1055 [vr a0, vr a1, vr a2, vr a3, vi x4, v5, v6] [vi r1] h1 else none else none else none else none else bif decide ((i_and (h_mi h a0 (x4.toNat)) 31) = 21) then bif (isK h a0 11 || isK h a0 21) && inb h a0 (i_add x4 1) then bif isK h a1 8 then bI (ev d 131 [vr a1, vi (h_mi h a0 ((i_add x4 1 : Int).toNat))] h) fun r1 h1 => run (d + 1) md_268 1092 [vr a0, vr a1, vr a2, vr a3, vi x4, v5, v6] [vi r1] h1 else none else none else bif decide ((i_and (h_mi h a0 (x4.toNat)) 31) = 22) then bif (isK h a0 11 || isK h a0 21) && inb h a0 (i_add x4 1) then bif (isK h a0 11 || isK h a0 21) && inb h a0 (i_add x4 2) then bif isK h a1 8 then bI (ev d 132 [vr a1, vi (h_mi h a0 ((i_add x4 1 : Int).toNat)), vi (h_mi h a0 ((i_add x4 2 : Int).toNat))] h) fun r1 h1 => run (d + 1) md_268 1123 [vr a0, vr a1, vr a2, vr a3, vi x4, v5, v6] [vi r1] h1 else none else none else none else bif decide ((i_and (h_mi h a0 (x4.toNat)) 31) = 23) then bif isK h a1 8 then bI (ev d 133 [vr a1] h) fun r1 h1 => run (d + 1) md_268 1148 [vr a0, vr a1, vr a2, vr a3, vi x4, v5, v6] [vi r1] h1 else none else bif decide ((i_and (h_mi h a0 (x4.toNat)) 31) = 24) then bif (isK h a0 11 || isK h a0 21) && inb h a0 (i_add x4 1) then bif (isK h a0 11 || isK h a0 21) && inb h a0 (i_add x4 2) then bif (isK h a0 11 || isK h a0 21) && inb h a0 (i_add x4 3) then bif isK h a1 8 then bI (ev d 134 [vr a1, vi (h_mi h a0 ((i_add x4 1 : Int).toNat)), vi (h_mi h a0 ((i_add x4 2 : Int).toNat)), vi (h_mi h a0 ((i_add x4 3 : Int).toNat))] h) fun r1 h1 => run (d + 1) md_268 1179 [vr a0, vr a1, vr a2, vr a3, vi x4, v5, v6] [vi r1] h1 else none else none else none else none else bif decide ((i_and (h_mi h a0 (x4.toNat)) 31) = 25) then bif (isK h a0 11 || isK h a0 21) && inb h a0 (i_add x4 1) then bif (isK h a0 11 || isK h a0 21) && inb h a0 (i_add x4 2) then bif (isK h a0 11 || isK h a0 21) && inb h a0 (i_add x4 3) then bif (isK h a0 11 || isK h a0 21) && inb h a0 (i_add x4 4) then bif (isK h a0 11 || isK h a0 21) && inb h a0 (i_add x4 5) then bif isK h a1 8 then bI (ev d 135 [vr a1, vi (h_mi h a0 ((i_add x4 1 : Int).toNat)), vi (h_mi h a0 ((i_add x4 2 : Int).toNat)), vi (h_mi h a0 ((i_add x4 3 : Int).toNat)), vi (h_mi h a0 ((i_add x4 4 : Int).toNat)), vi (h_mi h a0 ((i_add x4 5 : Int).toNat))] h) fun r1 h1 => run (d + 1) md_268 1240 [vr a0, vr a1, vr a2, vr a3, vi x4, v5, v6] [vi r1] h1 else none else none else none else none else none else none else bif decide ((i_and (h_mi h a0 (x4.toNat)) 31) = 26) then bif (isK h a0 11 || isK h a0 21) && inb h a0 (i_add x4 1) then bif (isK h a0 11 || isK h a0 21) && inb h a0 (i_add x4 2) then bif (isK h a0 11 || isK h a0 21) && inb h a0 (i_add x4 3) then bif isK h a1 8 then bI (ev d 136 [vr a1, vi (h_mi h a0 ((i_add x4 1 : Int).toNat)), vi (h_mi h a0 ((i_add x4 2 : Int).toNat)), vi (h_mi h a0 ((i_add x4 3 : Int).toNat))] h) fun r1 h1 => run (d + 1) md_268 1301 [vr a0, vr a1, vr a2, vr a3, vi x4, v5, v6] [vi r1] h1 else none else none else none else none else bif decide ((i_and (h_mi h a0 (x4.toNat)) 31) = 27) then bif (isK h a0 11 || isK h a0 21) && inb h a0 (i_add x4 1) then bif (isK h a0 11 || isK h a0 21) && inb h a0 (i_add x4 2) then bif (isK h a0 11 || isK h a0 21) && inb h a0 (i_add x4 3) then bif (isK h a0 11 || isK h a0 21) && inb h a0 (i_add x4 4) then bI (ev d 267 [vr a1, vi (h_mi h a0 ((i_add x4 1 : Int).toNat)), vi (h_mi h a0 ((i_add x4 2 : Int).toNat)), vi (h_mi h a0 ((i_add x4 3 : Int).toNat)), vi (h_mi h a0 ((i_add x4 4 : Int).toNat)), vr a3] h) fun r1 h1 => run (d + 1) md_268 1357 [vr a0, vr a1, vr a2, vr a3, vi x4, v5, v6] [vi r1] h1 else none else none else none else none else bif decide ((i_and (h_mi h a0 (x4.toNat)) 31) = 28) then bif (isK h a0 11 || isK h a0 21) && inb h a0 (i_add x4 1) then bif (isK h a0 11 || isK h a0 21) && inb h a0 (i_add x4 2) then bif decide ((h_mi h a0 ((i_add x4 2 : Int).toNat)) = 0) then bif isK h a1 8 then bI (ev d 138 [vr a1, vi (h_mi h a0 ((i_add x4 1 : Int).toNat)), vi 0] h) fun r1 h1 => run (d + 1) md_268 1444 [vr a0, vr a1, vr a2, vr a3, vi x4, v5, v6] [vi r1] h1 else none else bif isK h a1 8 then bI (ev d 138 [vr a1, vi (h_mi h a0 ((i_add x4 1 : Int).toNat)), vi 1] h) fun r1 h1 => run (d + 1) md_268 1444 [vr a0, vr a1, vr a2, vr a3, vi x4, v5, v6] [vi r1] h1 else none else none else none else bif decide ((i_and (h_mi h a0 (x4.toNat)) 31) = 29) then bif (isK h a0 11 || isK h a0 21) && inb h a0 (i_add x4 1) then bif isK h a1 8 then bI (ev d 139 [vr a1, vi (h_mi h a0 ((i_add x4 1 : Int).toNat))] h) fun r1 h1 => run (d + 1) md_268 1483 [vr a0, vr a1, vr a2, vr a3, vi x4, v5, v6] [vi r1] h1 else none else none else run (d + 1) md_268 23 [vr a0, vr a1, vr a2, vr a3, vi (i_add x4 7), v5, v6] [] h else none else none := (s_268_23 d a0 a1 a2 a3 x4 v5 v6 h).trans (by simp only [s_268_25, s_268_26, s_268_27, s_268_29, s_268_30, s_268_33, s_268_34, s_268_36, s_268_37, s_268_39, s_268_40, s_268_176, s_268_177, s_268_178, s_268_180, s_268_181, s_268_182, s_268_183, s_268_184, s_268_186, s_268_187, s_268_188, s_268_190, s_268_191, s_268_192, s_268_193, s_268_194, s_268_197, s_268_198, s_268_199, s_268_200, s_268_202, s_268_203, s_268_204, s_268_205, s_268_206, s_268_208, s_268_209, s_268_210, s_268_212, s_268_213, s_268_214, s_268_215, s_268_216, s_268_219, s_268_220, s_268_221, s_268_222, s_268_224, s_268_225, s_268_226, s_268_227, s_268_228, s_268_230, s_268_231, s_268_232, s_268_234, s_268_236, s_268_237, s_268_238, s_268_239, s_268_242, s_268_243, s_268_244, s_268_323, s_268_324, s_268_336, s_268_337, s_268_338, s_268_340, s_268_341, s_268_342, s_268_343, s_268_344, s_268_346, s_268_347, s_268_348, s_268_349, s_268_350, s_268_352, s_268_353, s_268_354, s_268_355, s_268_385, s_268_386, s_268_387, s_268_389, s_268_390, s_268_391, s_268_392, s_268_393, s_268_395, s_268_396, s_268_397, s_268_398, s_268_422, s_268_423, s_268_424, s_268_426, s_268_427, s_268_428, s_268_429, s_268_430, s_268_432, s_268_433, s_268_434, s_268_435, s_268_459, s_268_460, s_268_461, s_268_463, s_268_464, s_268_465, s_268_466, s_268_467, s_268_469, s_268_470, s_268_471, s_268_472, s_268_473, s_268_475, s_268_476, s_268_477, s_268_478, s_268_508, s_268_509, s_268_510, s_268_512, s_268_513, s_268_514, s_268_515, s_268_516, s_268_518, s_268_519, s_268_520, s_268_521, s_268_545, s_268_546, s_268_558, s_268_559, s_268_560, s_268_562, s_268_563, s_268_564, s_268_565, s_268_583, s_268_584, s_268_585, s_268_587, s_268_588, s_268_589, s_268_590, s_268_608, s_268_609, s_268_610, s_268_612, s_268_613, s_268_614, s_268_615, s_268_616, s_268_618, s_268_619, s_268_620, s_268_621, s_268_645, s_268_646, s_268_647, s_268_649, s_268_650, s_268_651, s_268_652, s_268_653, s_268_655, s_268_656, s_268_657, s_268_658, s_268_682, s_268_683, s_268_684, s_268_686, s_268_687, s_268_688, s_268_689, s_268_690, s_268_692, s_268_693, s_268_694, s_268_695, s_268_696, s_268_698, s_268_699, s_268_700, s_268_701, s_268_731, s_268_732, s_268_733, s_268_735, s_268_736, s_268_737, s_268_738, s_268_756, s_268_757, s_268_758, s_268_760, s_268_761, s_268_762, s_268_763, s_268_764, s_268_766, s_268_767, s_268_768, s_268_769, s_268_793, s_268_794, s_268_795, s_268_797, s_268_798, s_268_799, s_268_800, s_268_801, s_268_803, s_268_804, s_268_805, s_268_806, s_268_830, s_268_831, s_268_832, s_268_834, s_268_835, s_268_836, s_268_837, s_268_838, s_268_840, s_268_841, s_268_842, s_268_843, s_268_844, s_268_846, s_268_847, s_268_848, s_268_849, s_268_850, s_268_852, s_268_853, s_268_854, s_268_855, s_268_891, s_268_892, s_268_893, s_268_895, s_268_896, s_268_897, s_268_898, s_268_899, s_268_901, s_268_902, s_268_903, s_268_904, s_268_928, s_268_929, s_268_930, s_268_932, s_268_933, s_268_934, s_268_935, s_268_936, s_268_938, s_268_939, s_268_940, s_268_941, s_268_942, s_268_996, s_268_997, s_268_998, s_268_1000, s_268_1001, s_268_1002, s_268_1003, s_268_1004, s_268_1006, s_268_1007, s_268_1008, s_268_1009, s_268_1033, s_268_1034, s_268_1035, s_268_1037, s_268_1038, s_268_1039, s_268_1040, s_268_1041, s_268_1043, s_268_1044, s_268_1045, s_268_1046, s_268_1047, s_268_1049, s_268_1050, s_268_1051, s_268_1052, s_268_1082, s_268_1083, s_268_1084, s_268_1086, s_268_1087, s_268_1088, s_268_1089, s_268_1107, s_268_1108, s_268_1109, s_268_1111, s_268_1112, s_268_1113, s_268_1114, s_268_1115, s_268_1117, s_268_1118, s_268_1119, s_268_1120, s_268_1144, s_268_1145, s_268_1157, s_268_1158, s_268_1159, s_268_1161, s_268_1162, s_268_1163, s_268_1164, s_268_1165, s_268_1167, s_268_1168, s_268_1169, s_268_1170, s_268_1171, s_268_1173, s_268_1174, s_268_1175, s_268_1176, s_268_1206, s_268_1207, s_268_1208, s_268_1210, s_268_1211, s_268_1212, s_268_1213, s_268_1214, s_268_1216, s_268_1217, s_268_1218, s_268_1219, s_268_1220, s_268_1222, s_268_1223, s_268_1224, s_268_1225, s_268_1226, s_268_1228, s_268_1229, s_268_1230, s_268_1231, s_268_1232, s_268_1234, s_268_1235, s_268_1236, s_268_1237, s_268_1279, s_268_1280, s_268_1281, s_268_1283, s_268_1284, s_268_1285, s_268_1286, s_268_1287, s_268_1289, s_268_1290, s_268_1291, s_268_1292, s_268_1293, s_268_1295, s_268_1296, s_268_1297, s_268_1298, s_268_1328, s_268_1329, s_268_1330, s_268_1332, s_268_1333, s_268_1334, s_268_1335, s_268_1336, s_268_1338, s_268_1339, s_268_1340, s_268_1341, s_268_1342, s_268_1344, s_268_1345, s_268_1346, s_268_1347, s_268_1348, s_268_1350, s_268_1351, s_268_1352, s_268_1353, s_268_1354, s_268_1420, s_268_1421, s_268_1422, s_268_1424, s_268_1425, s_268_1426, s_268_1427, s_268_1428, s_268_1430, s_268_1431, s_268_1432, s_268_1433, s_268_1436, s_268_1437, s_268_1440, s_268_1441, s_268_1473, s_268_1474, s_268_1475, s_268_1477, s_268_1478, s_268_1479, s_268_1480, s_268_1498, s_268_1501, s_268_1504, s_268_1505, zb, zd, Int.reduceEq, Int.reduceLE, Int.reduceLT, Nat.reduceLeDiff, Int.reduceNeg, Int.reduceAdd, Int.reduceToNat, decide_true, decide_false, ne_eq, not_false_eq_true, not_true_eq_false])
set_option maxRecDepth 8000 in
set_option maxRecDepth 8000 in
theorem q_268_247  : run (d + 1) md_268 247 [vr a0, vr a1, vr a2, vr a3, vi x4, v5, v6] [vi z0] h = bif (isK h a0 11 || isK h a0 21) && inb h a0 (i_add x4 1) then bif (isK h a0 11 || isK h a0 21) && inb h a0 (i_add x4 2) then bif (isK h a0 11 || isK h a0 21) && inb h a0 (i_add x4 3) then bif (isK h a0 11 || isK h a0 21) && inb h a0 (i_add x4 4) then bif (isK h a0 11 || isK h a0 21) && inb h a0 (i_add x4 5) then bif (isK h a0 11 || isK h a0 21) && inb h a0 (i_add x4 6) then bif isK h a2 9 then bI (ev d 150 [vr a2, vl (l_or (l_shl (h_mi h a0 ((i_add x4 1 : Int).toNat)) 32) (l_and (h_mi h a0 ((i_add x4 2 : Int).toNat)) 4294967295)), vl (l_or (l_shl (h_mi h a0 ((i_add x4 3 : Int).toNat)) 32) (l_and (h_mi h a0 ((i_add x4 4 : Int).toNat)) 4294967295)), vl (l_or (l_shl (h_mi h a0 ((i_add x4 5 : Int).toNat)) 32) (l_and (h_mi h a0 ((i_add x4 6 : Int).toNat)) 4294967295))] h) fun r1 h1 => run (d + 1) md_268 318 [vr a0, vr a1, vr a2, vr a3, vi x4, v5, v6] [vi r1, vi z0] h1 else none else none else none else none else none else none else none := (s_268_247 d a0 a1 a2 a3 x4 v5 v6 z0 h).trans (by simp only [s_268_248, s_268_249, s_268_251, s_268_252, s_268_253, s_268_254, s_268_255, s_268_257, s_268_258, s_268_259, s_268_261, s_268_262, s_268_263, s_268_264, s_268_265, s_268_268, s_268_269, s_268_270, s_268_271, s_268_273, s_268_274, s_268_275, s_268_276, s_268_277, s_268_279, s_268_280, s_268_281, s_268_283, s_268_284, s_268_285, s_268_286, s_268_287, s_268_290, s_268_291, s_268_292, s_268_293, s_268_295, s_268_296, s_268_297, s_268_298, s_268_299, s_268_301, s_268_302, s_268_303, s_268_305, s_268_307, s_268_308, s_268_309, s_268_310, s_268_313, s_268_314, s_268_315])
set_option maxRecDepth 8000 in
theorem q_268_318  : run (d + 1) md_268 318 [vr a0, vr a1, vr a2, vr a3, vi x4, v5, v6] [vi z1, vi z0] h = bif decide (z0 = z1) then run (d + 1) md_268 23 [vr a0, vr a1, vr a2, vr a3, vi (i_add x4 7), v5, v6] [] h else some (vi 0, h) := (s_268_318 d a0 a1 a2 a3 x4 v5 v6 z0 z1 h).trans (by simp only [s_268_321, s_268_322, s_268_1498, s_268_1501, zb, zd, Int.reduceEq, Int.reduceLE, Int.reduceLT, Nat.reduceLeDiff, Int.reduceNeg, Int.reduceAdd, Int.reduceToNat, decide_true, decide_false, ne_eq, not_false_eq_true, not_true_eq_false])
set_option maxRecDepth 8000 in
theorem q_268_327  : run (d + 1) md_268 327 [vr a0, vr a1, vr a2, vr a3, vi x4, v5, v6] [vi z0] h = bif isK h a2 9 then bI (ev d 183 [vr a2] h) fun r1 h1 => run (d + 1) md_268 331 [vr a0, vr a1, vr a2, vr a3, vi x4, v5, v6] [vi r1, vi z0] h1 else none := (s_268_327 d a0 a1 a2 a3 x4 v5 v6 z0 h).trans (by simp only [s_268_328])
set_option maxRecDepth 8000 in
theorem q_268_331  : run (d + 1) md_268 331 [vr a0, vr a1, vr a2, vr a3, vi x4, v5, v6] [vi z1, vi z0] h = bif decide (z0 = z1) then run (d + 1) md_268 23 [vr a0, vr a1, vr a2, vr a3, vi (i_add x4 7), v5, v6] [] h else some (vi 0, h) := (s_268_331 d a0 a1 a2 a3 x4 v5 v6 z0 z1 h).trans (by simp only [s_268_334, s_268_335, s_268_1498, s_268_1501, zb, zd, Int.reduceEq, Int.reduceLE, Int.reduceLT, Nat.reduceLeDiff, Int.reduceNeg, Int.reduceAdd, Int.reduceToNat, decide_true, decide_false, ne_eq, not_false_eq_true, not_true_eq_false])
set_option maxRecDepth 8000 in
theorem q_268_358  : run (d + 1) md_268 358 [vr a0, vr a1, vr a2, vr a3, vi x4, v5, v6] [vi z0] h = bif (isK h a0 11 || isK h a0 21) && inb h a0 (i_add x4 1) then bif (isK h a0 11 || isK h a0 21) && inb h a0 (i_add x4 2) then bif (isK h a0 11 || isK h a0 21) && inb h a0 (i_add x4 3) then bif isK h a2 9 then bI (ev d 194 [vr a2, vi (h_mi h a0 ((i_add x4 1 : Int).toNat)), vi (h_mi h a0 ((i_add x4 2 : Int).toNat)), vi (h_mi h a0 ((i_add x4 3 : Int).toNat))] h) fun r1 h1 => run (d + 1) md_268 380 [vr a0, vr a1, vr a2, vr a3, vi x4, v5, v6] [vi r1, vi z0] h1 else none else none else none else none := (s_268_358 d a0 a1 a2 a3 x4 v5 v6 z0 h).trans (by simp only [s_268_359, s_268_360, s_268_362, s_268_363, s_268_364, s_268_365, s_268_366, s_268_368, s_268_369, s_268_370, s_268_371, s_268_372, s_268_374, s_268_375, s_268_376, s_268_377])
set_option maxRecDepth 8000 in
theorem q_268_380  : run (d + 1) md_268 380 [vr a0, vr a1, vr a2, vr a3, vi x4, v5, v6] [vi z1, vi z0] h = bif decide (z0 = z1) then run (d + 1) md_268 23 [vr a0, vr a1, vr a2, vr a3, vi (i_add x4 7), v5, v6] [] h else some (vi 0, h) := (s_268_380 d a0 a1 a2 a3 x4 v5 v6 z0 z1 h).trans (by simp only [s_268_383, s_268_384, s_268_1498, s_268_1501, zb, zd, Int.reduceEq, Int.reduceLE, Int.reduceLT, Nat.reduceLeDiff, Int.reduceNeg, Int.reduceAdd, Int.reduceToNat, decide_true, decide_false, ne_eq, not_false_eq_true, not_true_eq_false])
set_option maxRecDepth 8000 in
theorem q_268_401  : run (d + 1) md_268 401 [vr a0, vr a1, vr a2, vr a3, vi x4, v5, v6] [vi z0] h = bif (isK h a0 11 || isK h a0 21) && inb h a0 (i_add x4 1) then bif (isK h a0 11 || isK h a0 21) && inb h a0 (i_add x4 2) then bif isK h a2 9 then bI (ev d 195 [vr a2, vi (h_mi h a0 ((i_add x4 1 : Int).toNat)), vi (h_mi h a0 ((i_add x4 2 : Int).toNat))] h) fun r1 h1 => run (d + 1) md_268 417 [vr a0, vr a1, vr a2, vr a3, vi x4, v5, v6] [vi r1, vi z0] h1 else none else none else none := (s_268_401 d a0 a1 a2 a3 x4 v5 v6 z0 h).trans (by simp only [s_268_402, s_268_403, s_268_405, s_268_406, s_268_407, s_268_408, s_268_409, s_268_411, s_268_412, s_268_413, s_268_414])
set_option maxRecDepth 8000 in
theorem q_268_417  : run (d + 1) md_268 417 [vr a0, vr a1, vr a2, vr a3, vi x4, v5, v6] [vi z1, vi z0] h = bif decide (z0 = z1) then run (d + 1) md_268 23 [vr a0, vr a1, vr a2, vr a3, vi (i_add x4 7), v5, v6] [] h else some (vi 0, h) := (s_268_417 d a0 a1 a2 a3 x4 v5 v6 z0 z1 h).trans (by simp only [s_268_420, s_268_421, s_268_1498, s_268_1501, zb, zd, Int.reduceEq, Int.reduceLE, Int.reduceLT, Nat.reduceLeDiff, Int.reduceNeg, Int.reduceAdd, Int.reduceToNat, decide_true, decide_false, ne_eq, not_false_eq_true, not_true_eq_false])
set_option maxRecDepth 8000 in
theorem q_268_438  : run (d + 1) md_268 438 [vr a0, vr a1, vr a2, vr a3, vi x4, v5, v6] [vi z0] h = bif (isK h a0 11 || isK h a0 21) && inb h a0 (i_add x4 1) then bif (isK h a0 11 || isK h a0 21) && inb h a0 (i_add x4 2) then bif isK h a2 9 then bI (ev d 198 [vr a2, vi (h_mi h a0 ((i_add x4 1 : Int).toNat)), vi (h_mi h a0 ((i_add x4 2 : Int).toNat))] h) fun r1 h1 => run (d + 1) md_268 454 [vr a0, vr a1, vr a2, vr a3, vi x4, v5, v6] [vi r1, vi z0] h1 else none else none else none := (s_268_438 d a0 a1 a2 a3 x4 v5 v6 z0 h).trans (by simp only [s_268_439, s_268_440, s_268_442, s_268_443, s_268_444, s_268_445, s_268_446, s_268_448, s_268_449, s_268_450, s_268_451])
set_option maxRecDepth 8000 in
theorem q_268_454  : run (d + 1) md_268 454 [vr a0, vr a1, vr a2, vr a3, vi x4, v5, v6] [vi z1, vi z0] h = bif decide (z0 = z1) then run (d + 1) md_268 23 [vr a0, vr a1, vr a2, vr a3, vi (i_add x4 7), v5, v6] [] h else some (vi 0, h) := (s_268_454 d a0 a1 a2 a3 x4 v5 v6 z0 z1 h).trans (by simp only [s_268_457, s_268_458, s_268_1498, s_268_1501, zb, zd, Int.reduceEq, Int.reduceLE, Int.reduceLT, Nat.reduceLeDiff, Int.reduceNeg, Int.reduceAdd, Int.reduceToNat, decide_true, decide_false, ne_eq, not_false_eq_true, not_true_eq_false])
set_option maxRecDepth 8000 in
theorem q_268_481  : run (d + 1) md_268 481 [vr a0, vr a1, vr a2, vr a3, vi x4, v5, v6] [vi z0] h = bif (isK h a0 11 || isK h a0 21) && inb h a0 (i_add x4 1) then bif (isK h a0 11 || isK h a0 21) && inb h a0 (i_add x4 2) then bif (isK h a0 11 || isK h a0 21) && inb h a0 (i_add x4 3) then bif isK h a2 9 then bI (ev d 201 [vr a2, vi (h_mi h a0 ((i_add x4 1 : Int).toNat)), vi (h_mi h a0 ((i_add x4 2 : Int).toNat)), vi (h_mi h a0 ((i_add x4 3 : Int).toNat))] h) fun r1 h1 => run (d + 1) md_268 503 [vr a0, vr a1, vr a2, vr a3, vi x4, v5, v6] [vi r1, vi z0] h1 else none else none else none else none := (s_268_481 d a0 a1 a2 a3 x4 v5 v6 z0 h).trans (by simp only [s_268_482, s_268_483, s_268_485, s_268_486, s_268_487, s_268_488, s_268_489, s_268_491, s_268_492, s_268_493, s_268_494, s_268_495, s_268_497, s_268_498, s_268_499, s_268_500])
set_option maxRecDepth 8000 in
theorem q_268_503  : run (d + 1) md_268 503 [vr a0, vr a1, vr a2, vr a3, vi x4, v5, v6] [vi z1, vi z0] h = bif decide (z0 = z1) then run (d + 1) md_268 23 [vr a0, vr a1, vr a2, vr a3, vi (i_add x4 7), v5, v6] [] h else some (vi 0, h) := (s_268_503 d a0 a1 a2 a3 x4 v5 v6 z0 z1 h).trans (by simp only [s_268_506, s_268_507, s_268_1498, s_268_1501, zb, zd, Int.reduceEq, Int.reduceLE, Int.reduceLT, Nat.reduceLeDiff, Int.reduceNeg, Int.reduceAdd, Int.reduceToNat, decide_true, decide_false, ne_eq, not_false_eq_true, not_true_eq_false])
set_option maxRecDepth 8000 in
theorem q_268_524  : run (d + 1) md_268 524 [vr a0, vr a1, vr a2, vr a3, vi x4, v5, v6] [vi z0] h = bif (isK h a0 11 || isK h a0 21) && inb h a0 (i_add x4 1) then bif (isK h a0 11 || isK h a0 21) && inb h a0 (i_add x4 2) then bif isK h a2 9 then bI (ev d 206 [vr a2, vi (h_mi h a0 ((i_add x4 1 : Int).toNat)), vi (h_mi h a0 ((i_add x4 2 : Int).toNat))] h) fun r1 h1 => run (d + 1) md_268 540 [vr a0, vr a1, vr a2, vr a3, vi x4, v5, v6] [vi r1, vi z0] h1 else none else none else none := (s_268_524 d a0 a1 a2 a3 x4 v5 v6 z0 h).trans (by simp only [s_268_525, s_268_526, s_268_528, s_268_529, s_268_530, s_268_531, s_268_532, s_268_534, s_268_535, s_268_536, s_268_537])
set_option maxRecDepth 8000 in
theorem q_268_540  : run (d + 1) md_268 540 [vr a0, vr a1, vr a2, vr a3, vi x4, v5, v6] [vi z1, vi z0] h = bif decide (z0 = z1) then run (d + 1) md_268 23 [vr a0, vr a1, vr a2, vr a3, vi (i_add x4 7), v5, v6] [] h else some (vi 0, h) := (s_268_540 d a0 a1 a2 a3 x4 v5 v6 z0 z1 h).trans (by simp only [s_268_543, s_268_544, s_268_1498, s_268_1501, zb, zd, Int.reduceEq, Int.reduceLE, Int.reduceLT, Nat.reduceLeDiff, Int.reduceNeg, Int.reduceAdd, Int.reduceToNat, decide_true, decide_false, ne_eq, not_false_eq_true, not_true_eq_false])
set_option maxRecDepth 8000 in
theorem q_268_549  : run (d + 1) md_268 549 [vr a0, vr a1, vr a2, vr a3, vi x4, v5, v6] [vi z0] h = bif isK h a2 9 then bI (ev d 207 [vr a2] h) fun r1 h1 => run (d + 1) md_268 553 [vr a0, vr a1, vr a2, vr a3, vi x4, v5, v6] [vi r1, vi z0] h1 else none := (s_268_549 d a0 a1 a2 a3 x4 v5 v6 z0 h).trans (by simp only [s_268_550])
set_option maxRecDepth 8000 in
theorem q_268_553  : run (d + 1) md_268 553 [vr a0, vr a1, vr a2, vr a3, vi x4, v5, v6] [vi z1, vi z0] h = bif decide (z0 = z1) then run (d + 1) md_268 23 [vr a0, vr a1, vr a2, vr a3, vi (i_add x4 7), v5, v6] [] h else some (vi 0, h) := (s_268_553 d a0 a1 a2 a3 x4 v5 v6 z0 z1 h).trans (by simp only [s_268_556, s_268_557, s_268_1498, s_268_1501, zb, zd, Int.reduceEq, Int.reduceLE, Int.reduceLT, Nat.reduceLeDiff, Int.reduceNeg, Int.reduceAdd, Int.reduceToNat, decide_true, decide_false, ne_eq, not_false_eq_true, not_true_eq_false])
set_option maxRecDepth 8000 in
theorem q_268_568  : run (d + 1) md_268 568 [vr a0, vr a1, vr a2, vr a3, vi x4, v5, v6] [vi z0] h = bif (isK h a0 11 || isK h a0 21) && inb h a0 (i_add x4 1) then bif isK h a2 9 then bI (ev d 210 [vr a2, vi (h_mi h a0 ((i_add x4 1 : Int).toNat))] h) fun r1 h1 => run (d + 1) md_268 578 [vr a0, vr a1, vr a2, vr a3, vi x4, v5, v6] [vi r1, vi z0] h1 else none else none := (s_268_568 d a0 a1 a2 a3 x4 v5 v6 z0 h).trans (by simp only [s_268_569, s_268_570, s_268_572, s_268_573, s_268_574, s_268_575])
set_option maxRecDepth 8000 in
theorem q_268_578  : run (d + 1) md_268 578 [vr a0, vr a1, vr a2, vr a3, vi x4, v5, v6] [vi z1, vi z0] h = bif decide (z0 = z1) then run (d + 1) md_268 23 [vr a0, vr a1, vr a2, vr a3, vi (i_add x4 7), v5, v6] [] h else some (vi 0, h) := (s_268_578 d a0 a1 a2 a3 x4 v5 v6 z0 z1 h).trans (by simp only [s_268_581, s_268_582, s_268_1498, s_268_1501, zb, zd, Int.reduceEq, Int.reduceLE, Int.reduceLT, Nat.reduceLeDiff, Int.reduceNeg, Int.reduceAdd, Int.reduceToNat, decide_true, decide_false, ne_eq, not_false_eq_true, not_true_eq_false])
set_option maxRecDepth 8000 in
theorem q_268_593  : run (d + 1) md_268 593 [vr a0, vr a1, vr a2, vr a3, vi x4, v5, v6] [vi z0] h = bif (isK h a0 11 || isK h a0 21) && inb h a0 (i_add x4 1) then bif isK h a2 9 then bI (ev d 211 [vr a2, vi (h_mi h a0 ((i_add x4 1 : Int).toNat))] h) fun r1 h1 => run (d + 1) md_268 603 [vr a0, vr a1, vr a2, vr a3, vi x4, v5, v6] [vi r1, vi z0] h1 else none else none := (s_268_593 d a0 a1 a2 a3 x4 v5 v6 z0 h).trans (by simp only [s_268_594, s_268_595, s_268_597, s_268_598, s_268_599, s_268_600])
set_option maxRecDepth 8000 in
theorem q_268_603  : run (d + 1) md_268 603 [vr a0, vr a1, vr a2, vr a3, vi x4, v5, v6] [vi z1, vi z0] h = bif decide (z0 = z1) then run (d + 1) md_268 23 [vr a0, vr a1, vr a2, vr a3, vi (i_add x4 7), v5, v6] [] h else some (vi 0, h) := (s_268_603 d a0 a1 a2 a3 x4 v5 v6 z0 z1 h).trans (by simp only [s_268_606, s_268_607, s_268_1498, s_268_1501, zb, zd, Int.reduceEq, Int.reduceLE, Int.reduceLT, Nat.reduceLeDiff, Int.reduceNeg, Int.reduceAdd, Int.reduceToNat, decide_true, decide_false, ne_eq, not_false_eq_true, not_true_eq_false])
set_option maxRecDepth 8000 in
theorem q_268_624  : run (d + 1) md_268 624 [vr a0, vr a1, vr a2, vr a3, vi x4, v5, v6] [vi z0] h = bif (isK h a0 11 || isK h a0 21) && inb h a0 (i_add x4 1) then bif (isK h a0 11 || isK h a0 21) && inb h a0 (i_add x4 2) then bif isK h a2 9 then bI (ev d 212 [vr a2, vi (h_mi h a0 ((i_add x4 1 : Int).toNat)), vi (h_mi h a0 ((i_add x4 2 : Int).toNat))] h) fun r1 h1 => run (d + 1) md_268 640 [vr a0, vr a1, vr a2, vr a3, vi x4, v5, v6] [vi r1, vi z0] h1 else none else none else none := (s_268_624 d a0 a1 a2 a3 x4 v5 v6 z0 h).trans (by simp only [s_268_625, s_268_626, s_268_628, s_268_629, s_268_630, s_268_631, s_268_632, s_268_634, s_268_635, s_268_636, s_268_637])
set_option maxRecDepth 8000 in
theorem q_268_640  : run (d + 1) md_268 640 [vr a0, vr a1, vr a2, vr a3, vi x4, v5, v6] [vi z1, vi z0] h = bif decide (z0 = z1) then run (d + 1) md_268 23 [vr a0, vr a1, vr a2, vr a3, vi (i_add x4 7), v5, v6] [] h else some (vi 0, h) := (s_268_640 d a0 a1 a2 a3 x4 v5 v6 z0 z1 h).trans (by simp only [s_268_643, s_268_644, s_268_1498, s_268_1501, zb, zd, Int.reduceEq, Int.reduceLE, Int.reduceLT, Nat.reduceLeDiff, Int.reduceNeg, Int.reduceAdd, Int.reduceToNat, decide_true, decide_false, ne_eq, not_false_eq_true, not_true_eq_false])
set_option maxRecDepth 8000 in
theorem q_268_661  : run (d + 1) md_268 661 [vr a0, vr a1, vr a2, vr a3, vi x4, v5, v6] [vi z0] h = bif (isK h a0 11 || isK h a0 21) && inb h a0 (i_add x4 1) then bif (isK h a0 11 || isK h a0 21) && inb h a0 (i_add x4 2) then bif isK h a2 9 then bI (ev d 216 [vr a2, vi (h_mi h a0 ((i_add x4 1 : Int).toNat)), vi (h_mi h a0 ((i_add x4 2 : Int).toNat))] h) fun r1 h1 => run (d + 1) md_268 677 [vr a0, vr a1, vr a2, vr a3, vi x4, v5, v6] [vi r1, vi z0] h1 else none else none else none := (s_268_661 d a0 a1 a2 a3 x4 v5 v6 z0 h).trans (by simp only [s_268_662, s_268_663, s_268_665, s_268_666, s_268_667, s_268_668, s_268_669, s_268_671, s_268_672, s_268_673, s_268_674])
set_option maxRecDepth 8000 in
theorem q_268_677  : run (d + 1) md_268 677 [vr a0, vr a1, vr a2, vr a3, vi x4, v5, v6] [vi z1, vi z0] h = bif decide (z0 = z1) then run (d + 1) md_268 23 [vr a0, vr a1, vr a2, vr a3, vi (i_add x4 7), v5, v6] [] h else some (vi 0, h) := (s_268_677 d a0 a1 a2 a3 x4 v5 v6 z0 z1 h).trans (by simp only [s_268_680, s_268_681, s_268_1498, s_268_1501, zb, zd, Int.reduceEq, Int.reduceLE, Int.reduceLT, Nat.reduceLeDiff, Int.reduceNeg, Int.reduceAdd, Int.reduceToNat, decide_true, decide_false, ne_eq, not_false_eq_true, not_true_eq_false])
set_option maxRecDepth 8000 in
theorem q_268_704  : run (d + 1) md_268 704 [vr a0, vr a1, vr a2, vr a3, vi x4, v5, v6] [vi z0] h = bif (isK h a0 11 || isK h a0 21) && inb h a0 (i_add x4 1) then bif (isK h a0 11 || isK h a0 21) && inb h a0 (i_add x4 2) then bif (isK h a0 11 || isK h a0 21) && inb h a0 (i_add x4 3) then bif isK h a2 9 then bI (ev d 223 [vr a2, vi (h_mi h a0 ((i_add x4 1 : Int).toNat)), vi (h_mi h a0 ((i_add x4 2 : Int).toNat)), vi (h_mi h a0 ((i_add x4 3 : Int).toNat))] h) fun r1 h1 => run (d + 1) md_268 726 [vr a0, vr a1, vr a2, vr a3, vi x4, v5, v6] [vi r1, vi z0] h1 else none else none else none else none := (s_268_704 d a0 a1 a2 a3 x4 v5 v6 z0 h).trans (by simp only [s_268_705, s_268_706, s_268_708, s_268_709, s_268_710, s_268_711, s_268_712, s_268_714, s_268_715, s_268_716, s_268_717, s_268_718, s_268_720, s_268_721, s_268_722, s_268_723])
set_option maxRecDepth 8000 in
theorem q_268_726  : run (d + 1) md_268 726 [vr a0, vr a1, vr a2, vr a3, vi x4, v5, v6] [vi z1, vi z0] h = bif decide (z0 = z1) then run (d + 1) md_268 23 [vr a0, vr a1, vr a2, vr a3, vi (i_add x4 7), v5, v6] [] h else some (vi 0, h) := (s_268_726 d a0 a1 a2 a3 x4 v5 v6 z0 z1 h).trans (by simp only [s_268_729, s_268_730, s_268_1498, s_268_1501, zb, zd, Int.reduceEq, Int.reduceLE, Int.reduceLT, Nat.reduceLeDiff, Int.reduceNeg, Int.reduceAdd, Int.reduceToNat, decide_true, decide_false, ne_eq, not_false_eq_true, not_true_eq_false])
set_option maxRecDepth 8000 in
theorem q_268_741  : run (d + 1) md_268 741 [vr a0, vr a1, vr a2, vr a3, vi x4, v5, v6] [vi z0] h = bif (isK h a0 11 || isK h a0 21) && inb h a0 (i_add x4 1) then bif isK h a2 9 then bI (ev d 224 [vr a2, vi (h_mi h a0 ((i_add x4 1 : Int).toNat))] h) fun r1 h1 => run (d + 1) md_268 751 [vr a0, vr a1, vr a2, vr a3, vi x4, v5, v6] [vi r1, vi z0] h1 else none else none := (s_268_741 d a0 a1 a2 a3 x4 v5 v6 z0 h).trans (by simp only [s_268_742, s_268_743, s_268_745, s_268_746, s_268_747, s_268_748])
set_option maxRecDepth 8000 in
theorem q_268_751  : run (d + 1) md_268 751 [vr a0, vr a1, vr a2, vr a3, vi x4, v5, v6] [vi z1, vi z0] h = bif decide (z0 = z1) then run (d + 1) md_268 23 [vr a0, vr a1, vr a2, vr a3, vi (i_add x4 7), v5, v6] [] h else some (vi 0, h) := (s_268_751 d a0 a1 a2 a3 x4 v5 v6 z0 z1 h).trans (by simp only [s_268_754, s_268_755, s_268_1498, s_268_1501, zb, zd, Int.reduceEq, Int.reduceLE, Int.reduceLT, Nat.reduceLeDiff, Int.reduceNeg, Int.reduceAdd, Int.reduceToNat, decide_true, decide_false, ne_eq, not_false_eq_true, not_true_eq_false])
set_option maxRecDepth 8000 in
theorem q_268_772  : run (d + 1) md_268 772 [vr a0, vr a1, vr a2, vr a3, vi x4, v5, v6] [vi z0] h = bif (isK h a0 11 || isK h a0 21) && inb h a0 (i_add x4 1) then bif (isK h a0 11 || isK h a0 21) && inb h a0 (i_add x4 2) then bif isK h a2 9 then bI (ev d 226 [vr a2, vi (h_mi h a0 ((i_add x4 1 : Int).toNat)), vi (h_mi h a0 ((i_add x4 2 : Int).toNat))] h) fun r1 h1 => run (d + 1) md_268 788 [vr a0, vr a1, vr a2, vr a3, vi x4, v5, v6] [vi r1, vi z0] h1 else none else none else none := (s_268_772 d a0 a1 a2 a3 x4 v5 v6 z0 h).trans (by simp only [s_268_773, s_268_774, s_268_776, s_268_777, s_268_778, s_268_779, s_268_780, s_268_782, s_268_783, s_268_784, s_268_785])
set_option maxRecDepth 8000 in
theorem q_268_788  : run (d + 1) md_268 788 [vr a0, vr a1, vr a2, vr a3, vi x4, v5, v6] [vi z1, vi z0] h = bif decide (z0 = z1) then run (d + 1) md_268 23 [vr a0, vr a1, vr a2, vr a3, vi (i_add x4 7), v5, v6] [] h else some (vi 0, h) := (s_268_788 d a0 a1 a2 a3 x4 v5 v6 z0 z1 h).trans (by simp only [s_268_791, s_268_792, s_268_1498, s_268_1501, zb, zd, Int.reduceEq, Int.reduceLE, Int.reduceLT, Nat.reduceLeDiff, Int.reduceNeg, Int.reduceAdd, Int.reduceToNat, decide_true, decide_false, ne_eq, not_false_eq_true, not_true_eq_false])
set_option maxRecDepth 8000 in
theorem q_268_809  : run (d + 1) md_268 809 [vr a0, vr a1, vr a2, vr a3, vi x4, v5, v6] [vi z0] h = bif (isK h a0 11 || isK h a0 21) && inb h a0 (i_add x4 1) then bif (isK h a0 11 || isK h a0 21) && inb h a0 (i_add x4 2) then bif isK h a2 9 then bI (ev d 229 [vr a2, vi (h_mi h a0 ((i_add x4 1 : Int).toNat)), vi (h_mi h a0 ((i_add x4 2 : Int).toNat))] h) fun r1 h1 => run (d + 1) md_268 825 [vr a0, vr a1, vr a2, vr a3, vi x4, v5, v6] [vi r1, vi z0] h1 else none else none else none := (s_268_809 d a0 a1 a2 a3 x4 v5 v6 z0 h).trans (by simp only [s_268_810, s_268_811, s_268_813, s_268_814, s_268_815, s_268_816, s_268_817, s_268_819, s_268_820, s_268_821, s_268_822])
set_option maxRecDepth 8000 in
theorem q_268_825  : run (d + 1) md_268 825 [vr a0, vr a1, vr a2, vr a3, vi x4, v5, v6] [vi z1, vi z0] h = bif decide (z0 = z1) then run (d + 1) md_268 23 [vr a0, vr a1, vr a2, vr a3, vi (i_add x4 7), v5, v6] [] h else some (vi 0, h) := (s_268_825 d a0 a1 a2 a3 x4 v5 v6 z0 z1 h).trans (by simp only [s_268_828, s_268_829, s_268_1498, s_268_1501, zb, zd, Int.reduceEq, Int.reduceLE, Int.reduceLT, Nat.reduceLeDiff, Int.reduceNeg, Int.reduceAdd, Int.reduceToNat, decide_true, decide_false, ne_eq, not_false_eq_true, not_true_eq_false])
set_option maxRecDepth 8000 in
theorem q_268_858  : run (d + 1) md_268 858 [vr a0, vr a1, vr a2, vr a3, vi x4, v5, v6] [vi z0] h = bif (isK h a0 11 || isK h a0 21) && inb h a0 (i_add x4 1) then bif (isK h a0 11 || isK h a0 21) && inb h a0 (i_add x4 2) then bif (isK h a0 11 || isK h a0 21) && inb h a0 (i_add x4 3) then bif (isK h a0 11 || isK h a0 21) && inb h a0 (i_add x4 4) then bif isK h a2 9 then bI (ev d 234 [vr a2, vi (h_mi h a0 ((i_add x4 1 : Int).toNat)), vi (h_mi h a0 ((i_add x4 2 : Int).toNat)), vi (h_mi h a0 ((i_add x4 3 : Int).toNat)), vi (h_mi h a0 ((i_add x4 4 : Int).toNat))] h) fun r1 h1 => run (d + 1) md_268 886 [vr a0, vr a1, vr a2, vr a3, vi x4, v5, v6] [vi r1, vi z0] h1 else none else none else none else none else none := (s_268_858 d a0 a1 a2 a3 x4 v5 v6 z0 h).trans (by simp only [s_268_859, s_268_860, s_268_862, s_268_863, s_268_864, s_268_865, s_268_866, s_268_868, s_268_869, s_268_870, s_268_871, s_268_872, s_268_874, s_268_875, s_268_876, s_268_877, s_268_878, s_268_880, s_268_881, s_268_882, s_268_883])
set_option maxRecDepth 8000 in
theorem q_268_886  : run (d + 1) md_268 886 [vr a0, vr a1, vr a2, vr a3, vi x4, v5, v6] [vi z1, vi z0] h = bif decide (z0 = z1) then run (d + 1) md_268 23 [vr a0, vr a1, vr a2, vr a3, vi (i_add x4 7), v5, v6] [] h else some (vi 0, h) := (s_268_886 d a0 a1 a2 a3 x4 v5 v6 z0 z1 h).trans (by simp only [s_268_889, s_268_890, s_268_1498, s_268_1501, zb, zd, Int.reduceEq, Int.reduceLE, Int.reduceLT, Nat.reduceLeDiff, Int.reduceNeg, Int.reduceAdd, Int.reduceToNat, decide_true, decide_false, ne_eq, not_false_eq_true, not_true_eq_false])
set_option maxRecDepth 8000 in
theorem q_268_907  : run (d + 1) md_268 907 [vr a0, vr a1, vr a2, vr a3, vi x4, v5, v6] [vi z0] h = bif (isK h a0 11 || isK h a0 21) && inb h a0 (i_add x4 1) then bif (isK h a0 11 || isK h a0 21) && inb h a0 (i_add x4 2) then bif isK h a2 9 then bI (ev d 231 [vr a2, vi (h_mi h a0 ((i_add x4 1 : Int).toNat)), vi (h_mi h a0 ((i_add x4 2 : Int).toNat))] h) fun r1 h1 => run (d + 1) md_268 923 [vr a0, vr a1, vr a2, vr a3, vi x4, v5, v6] [vi r1, vi z0] h1 else none else none else none := (s_268_907 d a0 a1 a2 a3 x4 v5 v6 z0 h).trans (by simp only [s_268_908, s_268_909, s_268_911, s_268_912, s_268_913, s_268_914, s_268_915, s_268_917, s_268_918, s_268_919, s_268_920])
set_option maxRecDepth 8000 in
theorem q_268_923  : run (d + 1) md_268 923 [vr a0, vr a1, vr a2, vr a3, vi x4, v5, v6] [vi z1, vi z0] h = bif decide (z0 = z1) then run (d + 1) md_268 23 [vr a0, vr a1, vr a2, vr a3, vi (i_add x4 7), v5, v6] [] h else some (vi 0, h) := (s_268_923 d a0 a1 a2 a3 x4 v5 v6 z0 z1 h).trans (by simp only [s_268_926, s_268_927, s_268_1498, s_268_1501, zb, zd, Int.reduceEq, Int.reduceLE, Int.reduceLT, Nat.reduceLeDiff, Int.reduceNeg, Int.reduceAdd, Int.reduceToNat, decide_true, decide_false, ne_eq, not_false_eq_true, not_true_eq_false])
set_option maxRecDepth 8000 in
theorem q_268_945  : run (d + 1) md_268 945 [vr a0, vr a1, vr a2, vr a3, vi x4, v5, v6] [vi z0] h = bif (isK h a0 11 || isK h a0 21) && inb h a0 (i_add x4 1) then bif (isK h a0 11 || isK h a0 21) && inb h a0 (i_add x4 2) then bif isK h a2 9 then bI (ev d 232 [vr a2, vi (h_mi h a0 ((i_add x4 1 : Int).toNat)), vi (h_mi h a0 ((i_add x4 2 : Int).toNat))] h) fun r1 h1 => run (d + 1) md_268 963 [vr a0, vr a1, vr a2, vr a3, vi x4, vi z0, v6] [vi r1] h1 else none else none else none := (s_268_945 d a0 a1 a2 a3 x4 v5 v6 z0 h).trans (by simp only [s_268_947, s_268_948, s_268_949, s_268_951, s_268_952, s_268_953, s_268_954, s_268_955, s_268_957, s_268_958, s_268_959, s_268_960])
set_option maxRecDepth 8000 in
theorem q_268_963  : run (d + 1) md_268 963 [vr a0, vr a1, vr a2, vr a3, vi x4, vi x5, v6] [vi z0] h = bif isK h a2 9 then bI (ev d 147 [vr a2] h) fun r1 h1 => run (d + 1) md_268 969 [vr a0, vr a1, vr a2, vr a3, vi x4, vi x5, vi z0] [vi r1] h1 else none := (s_268_963 d a0 a1 a2 a3 x4 x5 v6 z0 h).trans (by simp only [s_268_965, s_268_966])
set_option maxRecDepth 8000 in
theorem q_268_969  : run (d + 1) md_268 969 [vr a0, vr a1, vr a2, vr a3, vi x4, vi x5, vi x6] [vi z0] h = bif decide (z0 = x5) then bif decide (x5 ≠ 0) then run (d + 1) md_268 23 [vr a0, vr a1, vr a2, vr a3, vi (i_add x4 7), vi x5, vi x6] [] h else bif isK h a3 12 && inb h a3 0 then bif decide ((l_cmp (h_ml h a3 0) x6) = 0) then run (d + 1) md_268 23 [vr a0, vr a1, vr a2, vr a3, vi (i_add x4 7), vi x5, vi x6] [] h else some (vi 0, h) else none else some (vi 0, h) := (s_268_969 d a0 a1 a2 a3 x4 x5 x6 z0 h).trans (by simp only [s_268_971, s_268_974, s_268_975, s_268_976, s_268_978, s_268_981, s_268_982, s_268_983, s_268_984, s_268_986, s_268_987, s_268_988, s_268_991, s_268_992, s_268_993, s_268_1498, s_268_1501, Int.reduceToNat, zb, zd, Int.reduceEq, Int.reduceLE, Int.reduceLT, Nat.reduceLeDiff, Int.reduceNeg, Int.reduceAdd, Int.reduceToNat, decide_true, decide_false, ne_eq, not_false_eq_true, not_true_eq_false])
set_option maxRecDepth 8000 in
theorem q_268_1012  : run (d + 1) md_268 1012 [vr a0, vr a1, vr a2, vr a3, vi x4, v5, v6] [vi z0] h = bif (isK h a0 11 || isK h a0 21) && inb h a0 (i_add x4 1) then bif (isK h a0 11 || isK h a0 21) && inb h a0 (i_add x4 2) then bif isK h a2 9 then bI (ev d 236 [vr a2, vi (h_mi h a0 ((i_add x4 1 : Int).toNat)), vi (h_mi h a0 ((i_add x4 2 : Int).toNat))] h) fun r1 h1 => run (d + 1) md_268 1028 [vr a0, vr a1, vr a2, vr a3, vi x4, v5, v6] [vi r1, vi z0] h1 else none else none else none := (s_268_1012 d a0 a1 a2 a3 x4 v5 v6 z0 h).trans (by simp only [s_268_1013, s_268_1014, s_268_1016, s_268_1017, s_268_1018, s_268_1019, s_268_1020, s_268_1022, s_268_1023, s_268_1024, s_268_1025])
set_option maxRecDepth 8000 in
theorem q_268_1028  : run (d + 1) md_268 1028 [vr a0, vr a1, vr a2, vr a3, vi x4, v5, v6] [vi z1, vi z0] h = bif decide (z0 = z1) then run (d + 1) md_268 23 [vr a0, vr a1, vr a2, vr a3, vi (i_add x4 7), v5, v6] [] h else some (vi 0, h) := (s_268_1028 d a0 a1 a2 a3 x4 v5 v6 z0 z1 h).trans (by simp only [s_268_1031, s_268_1032, s_268_1498, s_268_1501, zb, zd, Int.reduceEq, Int.reduceLE, Int.reduceLT, Nat.reduceLeDiff, Int.reduceNeg, Int.reduceAdd, Int.reduceToNat, decide_true, decide_false, ne_eq, not_false_eq_true, not_true_eq_false])
set_option maxRecDepth 8000 in
theorem q_268_1055  : run (d + 1) md_268 1055 [vr a0, vr a1, vr a2, vr a3, vi x4, v5, v6] [vi z0] h = bif (isK h a0 11 || isK h a0 21) && inb h a0 (i_add x4 1) then bif (isK h a0 11 || isK h a0 21) && inb h a0 (i_add x4 2) then bif (isK h a0 11 || isK h a0 21) && inb h a0 (i_add x4 3) then bif isK h a2 9 then bI (ev d 237 [vr a2, vi (h_mi h a0 ((i_add x4 1 : Int).toNat)), vi (h_mi h a0 ((i_add x4 2 : Int).toNat)), vi (h_mi h a0 ((i_add x4 3 : Int).toNat))] h) fun r1 h1 => run (d + 1) md_268 1077 [vr a0, vr a1, vr a2, vr a3, vi x4, v5, v6] [vi r1, vi z0] h1 else none else none else none else none := (s_268_1055 d a0 a1 a2 a3 x4 v5 v6 z0 h).trans (by simp only [s_268_1056, s_268_1057, s_268_1059, s_268_1060, s_268_1061, s_268_1062, s_268_1063, s_268_1065, s_268_1066, s_268_1067, s_268_1068, s_268_1069, s_268_1071, s_268_1072, s_268_1073, s_268_1074])
set_option maxRecDepth 8000 in
theorem q_268_1077  : run (d + 1) md_268 1077 [vr a0, vr a1, vr a2, vr a3, vi x4, v5, v6] [vi z1, vi z0] h = bif decide (z0 = z1) then run (d + 1) md_268 23 [vr a0, vr a1, vr a2, vr a3, vi (i_add x4 7), v5, v6] [] h else some (vi 0, h) := (s_268_1077 d a0 a1 a2 a3 x4 v5 v6 z0 z1 h).trans (by simp only [s_268_1080, s_268_1081, s_268_1498, s_268_1501, zb, zd, Int.reduceEq, Int.reduceLE, Int.reduceLT, Nat.reduceLeDiff, Int.reduceNeg, Int.reduceAdd, Int.reduceToNat, decide_true, decide_false, ne_eq, not_false_eq_true, not_true_eq_false])
set_option maxRecDepth 8000 in
theorem q_268_1092  : run (d + 1) md_268 1092 [vr a0, vr a1, vr a2, vr a3, vi x4, v5, v6] [vi z0] h = bif (isK h a0 11 || isK h a0 21) && inb h a0 (i_add x4 1) then bif isK h a2 9 then bI (ev d 239 [vr a2, vi (h_mi h a0 ((i_add x4 1 : Int).toNat))] h) fun r1 h1 => run (d + 1) md_268 1102 [vr a0, vr a1, vr a2, vr a3, vi x4, v5, v6] [vi r1, vi z0] h1 else none else none := (s_268_1092 d a0 a1 a2 a3 x4 v5 v6 z0 h).trans (by simp only [s_268_1093, s_268_1094, s_268_1096, s_268_1097, s_268_1098, s_268_1099])
set_option maxRecDepth 8000 in
theorem q_268_1102  : run (d + 1) md_268 1102 [vr a0, vr a1, vr a2, vr a3, vi x4, v5, v6] [vi z1, vi z0] h = bif decide (z0 = z1) then run (d + 1) md_268 23 [vr a0, vr a1, vr a2, vr a3, vi (i_add x4 7), v5, v6] [] h else some (vi 0, h) := (s_268_1102 d a0 a1 a2 a3 x4 v5 v6 z0 z1 h).trans (by simp only [s_268_1105, s_268_1106, s_268_1498, s_268_1501, zb, zd, Int.reduceEq, Int.reduceLE, Int.reduceLT, Nat.reduceLeDiff, Int.reduceNeg, Int.reduceAdd, Int.reduceToNat, decide_true, decide_false, ne_eq, not_false_eq_true, not_true_eq_false])
set_option maxRecDepth 8000 in
theorem q_268_1123  : run (d + 1) md_268 1123 [vr a0, vr a1, vr a2, vr a3, vi x4, v5, v6] [vi z0] h = bif (isK h a0 11 || isK h a0 21) && inb h a0 (i_add x4 1) then bif (isK h a0 11 || isK h a0 21) && inb h a0 (i_add x4 2) then bif isK h a2 9 then bI (ev d 240 [vr a2, vi (h_mi h a0 ((i_add x4 1 : Int).toNat)), vi (h_mi h a0 ((i_add x4 2 : Int).toNat))] h) fun r1 h1 => run (d + 1) md_268 1139 [vr a0, vr a1, vr a2, vr a3, vi x4, v5, v6] [vi r1, vi z0] h1 else none else none else none := (s_268_1123 d a0 a1 a2 a3 x4 v5 v6 z0 h).trans (by simp only [s_268_1124, s_268_1125, s_268_1127, s_268_1128, s_268_1129, s_268_1130, s_268_1131, s_268_1133, s_268_1134, s_268_1135, s_268_1136])
set_option maxRecDepth 8000 in
theorem q_268_1139  : run (d + 1) md_268 1139 [vr a0, vr a1, vr a2, vr a3, vi x4, v5, v6] [vi z1, vi z0] h = bif decide (z0 = z1) then run (d + 1) md_268 23 [vr a0, vr a1, vr a2, vr a3, vi (i_add x4 7), v5, v6] [] h else some (vi 0, h) := (s_268_1139 d a0 a1 a2 a3 x4 v5 v6 z0 z1 h).trans (by simp only [s_268_1142, s_268_1143, s_268_1498, s_268_1501, zb, zd, Int.reduceEq, Int.reduceLE, Int.reduceLT, Nat.reduceLeDiff, Int.reduceNeg, Int.reduceAdd, Int.reduceToNat, decide_true, decide_false, ne_eq, not_false_eq_true, not_true_eq_false])
set_option maxRecDepth 8000 in
theorem q_268_1148  : run (d + 1) md_268 1148 [vr a0, vr a1, vr a2, vr a3, vi x4, v5, v6] [vi z0] h = bif isK h a2 9 then bI (ev d 241 [vr a2] h) fun r1 h1 => run (d + 1) md_268 1152 [vr a0, vr a1, vr a2, vr a3, vi x4, v5, v6] [vi r1, vi z0] h1 else none := (s_268_1148 d a0 a1 a2 a3 x4 v5 v6 z0 h).trans (by simp only [s_268_1149])
set_option maxRecDepth 8000 in
theorem q_268_1152  : run (d + 1) md_268 1152 [vr a0, vr a1, vr a2, vr a3, vi x4, v5, v6] [vi z1, vi z0] h = bif decide (z0 = z1) then run (d + 1) md_268 23 [vr a0, vr a1, vr a2, vr a3, vi (i_add x4 7), v5, v6] [] h else some (vi 0, h) := (s_268_1152 d a0 a1 a2 a3 x4 v5 v6 z0 z1 h).trans (by simp only [s_268_1155, s_268_1156, s_268_1498, s_268_1501, zb, zd, Int.reduceEq, Int.reduceLE, Int.reduceLT, Nat.reduceLeDiff, Int.reduceNeg, Int.reduceAdd, Int.reduceToNat, decide_true, decide_false, ne_eq, not_false_eq_true, not_true_eq_false])
set_option maxRecDepth 8000 in
theorem q_268_1179  : run (d + 1) md_268 1179 [vr a0, vr a1, vr a2, vr a3, vi x4, v5, v6] [vi z0] h = bif (isK h a0 11 || isK h a0 21) && inb h a0 (i_add x4 1) then bif (isK h a0 11 || isK h a0 21) && inb h a0 (i_add x4 2) then bif (isK h a0 11 || isK h a0 21) && inb h a0 (i_add x4 3) then bif isK h a2 9 then bI (ev d 242 [vr a2, vi (h_mi h a0 ((i_add x4 1 : Int).toNat)), vi (h_mi h a0 ((i_add x4 2 : Int).toNat)), vi (h_mi h a0 ((i_add x4 3 : Int).toNat))] h) fun r1 h1 => run (d + 1) md_268 1201 [vr a0, vr a1, vr a2, vr a3, vi x4, v5, v6] [vi r1, vi z0] h1 else none else none else none else none := (s_268_1179 d a0 a1 a2 a3 x4 v5 v6 z0 h).trans (by simp only [s_268_1180, s_268_1181, s_268_1183, s_268_1184, s_268_1185, s_268_1186, s_268_1187, s_268_1189, s_268_1190, s_268_1191, s_268_1192, s_268_1193, s_268_1195, s_268_1196, s_268_1197, s_268_1198])
set_option maxRecDepth 8000 in
theorem q_268_1201  : run (d + 1) md_268 1201 [vr a0, vr a1, vr a2, vr a3, vi x4, v5, v6] [vi z1, vi z0] h = bif decide (z0 = z1) then run (d + 1) md_268 23 [vr a0, vr a1, vr a2, vr a3, vi (i_add x4 7), v5, v6] [] h else some (vi 0, h) := (s_268_1201 d a0 a1 a2 a3 x4 v5 v6 z0 z1 h).trans (by simp only [s_268_1204, s_268_1205, s_268_1498, s_268_1501, zb, zd, Int.reduceEq, Int.reduceLE, Int.reduceLT, Nat.reduceLeDiff, Int.reduceNeg, Int.reduceAdd, Int.reduceToNat, decide_true, decide_false, ne_eq, not_false_eq_true, not_true_eq_false])
set_option maxRecDepth 8000 in
set_option maxRecDepth 8000 in
theorem q_268_1240  : run (d + 1) md_268 1240 [vr a0, vr a1, vr a2, vr a3, vi x4, v5, v6] [vi z0] h = bif (isK h a0 11 || isK h a0 21) && inb h a0 (i_add x4 1) then bif (isK h a0 11 || isK h a0 21) && inb h a0 (i_add x4 2) then bif (isK h a0 11 || isK h a0 21) && inb h a0 (i_add x4 3) then bif (isK h a0 11 || isK h a0 21) && inb h a0 (i_add x4 4) then bif (isK h a0 11 || isK h a0 21) && inb h a0 (i_add x4 5) then bif isK h a2 9 then bI (ev d 245 [vr a2, vi (h_mi h a0 ((i_add x4 1 : Int).toNat)), vi (h_mi h a0 ((i_add x4 2 : Int).toNat)), vi (h_mi h a0 ((i_add x4 3 : Int).toNat)), vi (h_mi h a0 ((i_add x4 4 : Int).toNat)), vi (h_mi h a0 ((i_add x4 5 : Int).toNat))] h) fun r1 h1 => run (d + 1) md_268 1274 [vr a0, vr a1, vr a2, vr a3, vi x4, v5, v6] [vi r1, vi z0] h1 else none else none else none else none else none else none := (s_268_1240 d a0 a1 a2 a3 x4 v5 v6 z0 h).trans (by simp only [s_268_1241, s_268_1242, s_268_1244, s_268_1245, s_268_1246, s_268_1247, s_268_1248, s_268_1250, s_268_1251, s_268_1252, s_268_1253, s_268_1254, s_268_1256, s_268_1257, s_268_1258, s_268_1259, s_268_1260, s_268_1262, s_268_1263, s_268_1264, s_268_1265, s_268_1266, s_268_1268, s_268_1269, s_268_1270, s_268_1271])
set_option maxRecDepth 8000 in
theorem q_268_1274  : run (d + 1) md_268 1274 [vr a0, vr a1, vr a2, vr a3, vi x4, v5, v6] [vi z1, vi z0] h = bif decide (z0 = z1) then run (d + 1) md_268 23 [vr a0, vr a1, vr a2, vr a3, vi (i_add x4 7), v5, v6] [] h else some (vi 0, h) := (s_268_1274 d a0 a1 a2 a3 x4 v5 v6 z0 z1 h).trans (by simp only [s_268_1277, s_268_1278, s_268_1498, s_268_1501, zb, zd, Int.reduceEq, Int.reduceLE, Int.reduceLT, Nat.reduceLeDiff, Int.reduceNeg, Int.reduceAdd, Int.reduceToNat, decide_true, decide_false, ne_eq, not_false_eq_true, not_true_eq_false])
set_option maxRecDepth 8000 in
theorem q_268_1301  : run (d + 1) md_268 1301 [vr a0, vr a1, vr a2, vr a3, vi x4, v5, v6] [vi z0] h = bif (isK h a0 11 || isK h a0 21) && inb h a0 (i_add x4 1) then bif (isK h a0 11 || isK h a0 21) && inb h a0 (i_add x4 2) then bif (isK h a0 11 || isK h a0 21) && inb h a0 (i_add x4 3) then bif isK h a2 9 then bI (ev d 246 [vr a2, vi (h_mi h a0 ((i_add x4 1 : Int).toNat)), vi (h_mi h a0 ((i_add x4 2 : Int).toNat)), vi (h_mi h a0 ((i_add x4 3 : Int).toNat))] h) fun r1 h1 => run (d + 1) md_268 1323 [vr a0, vr a1, vr a2, vr a3, vi x4, v5, v6] [vi r1, vi z0] h1 else none else none else none else none := (s_268_1301 d a0 a1 a2 a3 x4 v5 v6 z0 h).trans (by simp only [s_268_1302, s_268_1303, s_268_1305, s_268_1306, s_268_1307, s_268_1308, s_268_1309, s_268_1311, s_268_1312, s_268_1313, s_268_1314, s_268_1315, s_268_1317, s_268_1318, s_268_1319, s_268_1320])
set_option maxRecDepth 8000 in
theorem q_268_1323  : run (d + 1) md_268 1323 [vr a0, vr a1, vr a2, vr a3, vi x4, v5, v6] [vi z1, vi z0] h = bif decide (z0 = z1) then run (d + 1) md_268 23 [vr a0, vr a1, vr a2, vr a3, vi (i_add x4 7), v5, v6] [] h else some (vi 0, h) := (s_268_1323 d a0 a1 a2 a3 x4 v5 v6 z0 z1 h).trans (by simp only [s_268_1326, s_268_1327, s_268_1498, s_268_1501, zb, zd, Int.reduceEq, Int.reduceLE, Int.reduceLT, Nat.reduceLeDiff, Int.reduceNeg, Int.reduceAdd, Int.reduceToNat, decide_true, decide_false, ne_eq, not_false_eq_true, not_true_eq_false])
set_option maxRecDepth 8000 in
theorem q_268_1357  : run (d + 1) md_268 1357 [vr a0, vr a1, vr a2, vr a3, vi x4, v5, v6] [vi z0] h = bif (isK h a0 11 || isK h a0 21) && inb h a0 (i_add x4 1) then bif (isK h a0 11 || isK h a0 21) && inb h a0 (i_add x4 2) then bif (isK h a0 11 || isK h a0 21) && inb h a0 (i_add x4 3) then bif (isK h a0 11 || isK h a0 21) && inb h a0 (i_add x4 4) then bif isK h a2 9 then bI (ev d 250 [vr a2, vi (h_mi h a0 ((i_add x4 1 : Int).toNat)), vi (h_mi h a0 ((i_add x4 2 : Int).toNat)), vi (h_mi h a0 ((i_add x4 3 : Int).toNat)), vi (h_mi h a0 ((i_add x4 4 : Int).toNat))] h) fun r1 h1 => run (d + 1) md_268 1387 [vr a0, vr a1, vr a2, vr a3, vi x4, vi z0, v6] [vi r1] h1 else none else none else none else none else none := (s_268_1357 d a0 a1 a2 a3 x4 v5 v6 z0 h).trans (by simp only [s_268_1359, s_268_1360, s_268_1361, s_268_1363, s_268_1364, s_268_1365, s_268_1366, s_268_1367, s_268_1369, s_268_1370, s_268_1371, s_268_1372, s_268_1373, s_268_1375, s_268_1376, s_268_1377, s_268_1378, s_268_1379, s_268_1381, s_268_1382, s_268_1383, s_268_1384])
set_option maxRecDepth 8000 in
theorem q_268_1387  : run (d + 1) md_268 1387 [vr a0, vr a1, vr a2, vr a3, vi x4, vi x5, v6] [vi z0] h = bif isK h a2 9 then bI (ev d 147 [vr a2] h) fun r1 h1 => run (d + 1) md_268 1393 [vr a0, vr a1, vr a2, vr a3, vi x4, vi x5, vi z0] [vi r1] h1 else none := (s_268_1387 d a0 a1 a2 a3 x4 x5 v6 z0 h).trans (by simp only [s_268_1389, s_268_1390])
set_option maxRecDepth 8000 in
theorem q_268_1393  : run (d + 1) md_268 1393 [vr a0, vr a1, vr a2, vr a3, vi x4, vi x5, vi x6] [vi z0] h = bif decide (z0 = x5) then bif decide (x5 ≠ 0) then run (d + 1) md_268 23 [vr a0, vr a1, vr a2, vr a3, vi (i_add x4 7), vi x5, vi x6] [] h else bif isK h a3 12 && inb h a3 0 then bif decide ((l_cmp (h_ml h a3 0) x6) = 0) then run (d + 1) md_268 23 [vr a0, vr a1, vr a2, vr a3, vi (i_add x4 7), vi x5, vi x6] [] h else some (vi 0, h) else none else some (vi 0, h) := (s_268_1393 d a0 a1 a2 a3 x4 x5 x6 z0 h).trans (by simp only [s_268_1395, s_268_1398, s_268_1399, s_268_1400, s_268_1402, s_268_1405, s_268_1406, s_268_1407, s_268_1408, s_268_1410, s_268_1411, s_268_1412, s_268_1415, s_268_1416, s_268_1417, s_268_1498, s_268_1501, Int.reduceToNat, zb, zd, Int.reduceEq, Int.reduceLE, Int.reduceLT, Nat.reduceLeDiff, Int.reduceNeg, Int.reduceAdd, Int.reduceToNat, decide_true, decide_false, ne_eq, not_false_eq_true, not_true_eq_false])
set_option maxRecDepth 8000 in
theorem q_268_1444  : run (d + 1) md_268 1444 [vr a0, vr a1, vr a2, vr a3, vi x4, v5, v6] [vi z0] h = bif (isK h a0 11 || isK h a0 21) && inb h a0 (i_add x4 1) then bif (isK h a0 11 || isK h a0 21) && inb h a0 (i_add x4 2) then bif decide ((h_mi h a0 ((i_add x4 2 : Int).toNat)) = 0) then bif isK h a2 9 then bI (ev d 251 [vr a2, vi (h_mi h a0 ((i_add x4 1 : Int).toNat)), vi 0] h) fun r1 h1 => run (d + 1) md_268 1468 [vr a0, vr a1, vr a2, vr a3, vi x4, v5, v6] [vi r1, vi z0] h1 else none else bif isK h a2 9 then bI (ev d 251 [vr a2, vi (h_mi h a0 ((i_add x4 1 : Int).toNat)), vi 1] h) fun r1 h1 => run (d + 1) md_268 1468 [vr a0, vr a1, vr a2, vr a3, vi x4, v5, v6] [vi r1, vi z0] h1 else none else none else none := (s_268_1444 d a0 a1 a2 a3 x4 v5 v6 z0 h).trans (by simp only [s_268_1445, s_268_1446, s_268_1448, s_268_1449, s_268_1450, s_268_1451, s_268_1452, s_268_1454, s_268_1455, s_268_1456, s_268_1457, s_268_1460, s_268_1461, s_268_1464, s_268_1465])
set_option maxRecDepth 8000 in
theorem q_268_1468  : run (d + 1) md_268 1468 [vr a0, vr a1, vr a2, vr a3, vi x4, v5, v6] [vi z1, vi z0] h = bif decide (z0 = z1) then run (d + 1) md_268 23 [vr a0, vr a1, vr a2, vr a3, vi (i_add x4 7), v5, v6] [] h else some (vi 0, h) := (s_268_1468 d a0 a1 a2 a3 x4 v5 v6 z0 z1 h).trans (by simp only [s_268_1471, s_268_1472, s_268_1498, s_268_1501, zb, zd, Int.reduceEq, Int.reduceLE, Int.reduceLT, Nat.reduceLeDiff, Int.reduceNeg, Int.reduceAdd, Int.reduceToNat, decide_true, decide_false, ne_eq, not_false_eq_true, not_true_eq_false])
set_option maxRecDepth 8000 in
theorem q_268_1483  : run (d + 1) md_268 1483 [vr a0, vr a1, vr a2, vr a3, vi x4, v5, v6] [vi z0] h = bif (isK h a0 11 || isK h a0 21) && inb h a0 (i_add x4 1) then bif isK h a2 9 then bI (ev d 252 [vr a2, vi (h_mi h a0 ((i_add x4 1 : Int).toNat))] h) fun r1 h1 => run (d + 1) md_268 1493 [vr a0, vr a1, vr a2, vr a3, vi x4, v5, v6] [vi r1, vi z0] h1 else none else none := (s_268_1483 d a0 a1 a2 a3 x4 v5 v6 z0 h).trans (by simp only [s_268_1484, s_268_1485, s_268_1487, s_268_1488, s_268_1489, s_268_1490])
set_option maxRecDepth 8000 in
theorem q_268_1493  : run (d + 1) md_268 1493 [vr a0, vr a1, vr a2, vr a3, vi x4, v5, v6] [vi z1, vi z0] h = bif decide (z0 = z1) then run (d + 1) md_268 23 [vr a0, vr a1, vr a2, vr a3, vi (i_add x4 7), v5, v6] [] h else some (vi 0, h) := (s_268_1493 d a0 a1 a2 a3 x4 v5 v6 z0 z1 h).trans (by simp only [s_268_1496, s_268_1497, s_268_1498, s_268_1501, zb, zd, Int.reduceEq, Int.reduceLE, Int.reduceLT, Nat.reduceLeDiff, Int.reduceNeg, Int.reduceAdd, Int.reduceToNat, decide_true, decide_false, ne_eq, not_false_eq_true, not_true_eq_false])
set_option maxRecDepth 20000 in
set_option maxRecDepth 8000 in
theorem v_268 : ev (d + 1) 268 [vr a0] h = run (d + 1) md_268 0 [vr a0, vu, vu, vu, vu, vu, vu] [] h := rfl
end
