section
def alf (c s : Nat) (a : AL) : AL := match a with
  | none => none
  | some (w, _, _) => some (w, c, s)
set_option maxRecDepth 100000 in
theorem w_fill0_10 {cl : Nat → QQ → List VV → AL → MM → Prop} {Q : QQ} {K : KK} {μ : MM} {v : Int} (h : K 5 [vR 10, vI v, vI 0, vI 8] [] (some (14, 0, 0)) μ) : zk (fun pc => Nat.beq pc 5) cl 268 Q K 5 0 [vR 10, vI v, vU, vU] [] (some (14, 0, 0)) μ := h
set_option maxRecDepth 100000 in
theorem w_fill5_10 {cl : Nat → QQ → List VV → AL → MM → Prop} {Q : QQ} {K : KK} {μ : MM} {v i : Int} (h : (((8 : Int) ≤ (i : Int)) → (Q 0 (some (14, 0, 0)) μ)) ∧ ((¬ ((8 : Int) ≤ (i : Int))) → (((0 : Int) ≤ i ∧ (i : Int) < 8) ∧ (K 5 [vR 10, vI v, vI (o_add i 1), vI 8] [] (some (14, 0, 0)) (mup μ 10 i v))))) : zk (fun pc => Nat.beq pc 5) cl 268 Q K 9 5 [vR 10, vI v, vI i, vI 8] [] (some (14, 0, 0)) μ := h
set_option maxRecDepth 100000 in
theorem w_fill0_11 {cl : Nat → QQ → List VV → AL → MM → Prop} {Q : QQ} {K : KK} {μ : MM} {v : Int} (h : K 5 [vR 11, vI v, vI 0, vI 8] [] (some (14, 0, 0)) μ) : zk (fun pc => Nat.beq pc 5) cl 268 Q K 5 0 [vR 11, vI v, vU, vU] [] (some (14, 0, 0)) μ := h
set_option maxRecDepth 100000 in
theorem w_fill5_11 {cl : Nat → QQ → List VV → AL → MM → Prop} {Q : QQ} {K : KK} {μ : MM} {v i : Int} (h : (((8 : Int) ≤ (i : Int)) → (Q 0 (some (14, 0, 0)) μ)) ∧ ((¬ ((8 : Int) ≤ (i : Int))) → (((0 : Int) ≤ i ∧ (i : Int) < 8) ∧ (K 5 [vR 11, vI v, vI (o_add i 1), vI 8] [] (some (14, 0, 0)) (mup μ 11 i v))))) : zk (fun pc => Nat.beq pc 5) cl 268 Q K 9 5 [vR 11, vI v, vI i, vI 8] [] (some (14, 0, 0)) μ := h
set_option maxRecDepth 100000 in
theorem w_fill0_21 {cl : Nat → QQ → List VV → AL → MM → Prop} {Q : QQ} {K : KK} {μ : MM} {v : Int} (h : K 5 [vR 21, vI v, vI 0, vI 8] [] (some (25, 0, 0)) μ) : zk (fun pc => Nat.beq pc 5) cl 268 Q K 5 0 [vR 21, vI v, vU, vU] [] (some (25, 0, 0)) μ := h
set_option maxRecDepth 100000 in
theorem w_fill5_21 {cl : Nat → QQ → List VV → AL → MM → Prop} {Q : QQ} {K : KK} {μ : MM} {v i : Int} (h : (((8 : Int) ≤ (i : Int)) → (Q 0 (some (25, 0, 0)) μ)) ∧ ((¬ ((8 : Int) ≤ (i : Int))) → (((0 : Int) ≤ i ∧ (i : Int) < 8) ∧ (K 5 [vR 21, vI v, vI (o_add i 1), vI 8] [] (some (25, 0, 0)) (mup μ 21 i v))))) : zk (fun pc => Nat.beq pc 5) cl 268 Q K 9 5 [vR 21, vI v, vI i, vI 8] [] (some (25, 0, 0)) μ := h
set_option maxRecDepth 100000 in
theorem w_fill0_22 {cl : Nat → QQ → List VV → AL → MM → Prop} {Q : QQ} {K : KK} {μ : MM} {v : Int} (h : K 5 [vR 22, vI v, vI 0, vI 8] [] (some (25, 0, 0)) μ) : zk (fun pc => Nat.beq pc 5) cl 268 Q K 5 0 [vR 22, vI v, vU, vU] [] (some (25, 0, 0)) μ := h
set_option maxRecDepth 100000 in
theorem w_fill5_22 {cl : Nat → QQ → List VV → AL → MM → Prop} {Q : QQ} {K : KK} {μ : MM} {v i : Int} (h : (((8 : Int) ≤ (i : Int)) → (Q 0 (some (25, 0, 0)) μ)) ∧ ((¬ ((8 : Int) ≤ (i : Int))) → (((0 : Int) ≤ i ∧ (i : Int) < 8) ∧ (K 5 [vR 22, vI v, vI (o_add i 1), vI 8] [] (some (25, 0, 0)) (mup μ 22 i v))))) : zk (fun pc => Nat.beq pc 5) cl 268 Q K 9 5 [vR 22, vI v, vI i, vI 8] [] (some (25, 0, 0)) μ := h
set_option maxRecDepth 100000 in
theorem w_fill0_38 {cl : Nat → QQ → List VV → AL → MM → Prop} {Q : QQ} {K : KK} {μ : MM} {v : Int} (h : K 5 [vR 38, vI v, vI 0, vI 240] [] (some (43, 0, 0)) μ) : zk (fun pc => Nat.beq pc 5) cl 268 Q K 5 0 [vR 38, vI v, vU, vU] [] (some (43, 0, 0)) μ := h
set_option maxRecDepth 100000 in
theorem w_fill5_38 {cl : Nat → QQ → List VV → AL → MM → Prop} {Q : QQ} {K : KK} {μ : MM} {v i : Int} (h : (((240 : Int) ≤ (i : Int)) → (Q 0 (some (43, 0, 0)) μ)) ∧ ((¬ ((240 : Int) ≤ (i : Int))) → (((0 : Int) ≤ i ∧ (i : Int) < 240) ∧ (K 5 [vR 38, vI v, vI (o_add i 1), vI 240] [] (some (43, 0, 0)) (mup μ 38 i v))))) : zk (fun pc => Nat.beq pc 5) cl 268 Q K 9 5 [vR 38, vI v, vI i, vI 240] [] (some (43, 0, 0)) μ := h
set_option maxRecDepth 100000 in
theorem w_fill0_40 {cl : Nat → QQ → List VV → AL → MM → Prop} {Q : QQ} {K : KK} {μ : MM} {v : Int} (h : K 5 [vR 40, vI v, vI 0, vI 240] [] (some (43, 0, 0)) μ) : zk (fun pc => Nat.beq pc 5) cl 268 Q K 5 0 [vR 40, vI v, vU, vU] [] (some (43, 0, 0)) μ := h
set_option maxRecDepth 100000 in
theorem w_fill5_40 {cl : Nat → QQ → List VV → AL → MM → Prop} {Q : QQ} {K : KK} {μ : MM} {v i : Int} (h : (((240 : Int) ≤ (i : Int)) → (Q 0 (some (43, 0, 0)) μ)) ∧ ((¬ ((240 : Int) ≤ (i : Int))) → (((0 : Int) ≤ i ∧ (i : Int) < 240) ∧ (K 5 [vR 40, vI v, vI (o_add i 1), vI 240] [] (some (43, 0, 0)) (mup μ 40 i v))))) : zk (fun pc => Nat.beq pc 5) cl 268 Q K 9 5 [vR 40, vI v, vI i, vI 240] [] (some (43, 0, 0)) μ := h
set_option maxRecDepth 100000 in
theorem w_strip0_3 {cl : Nat → QQ → List VV → AL → MM → Prop} {Q : QQ} {K : KK} {μ : MM} (h : K 14 [vR 3] [vR ((mup (mup μ 3 1 0) 3 7 0) 3 8)] (some (14, 0, 0)) (mup (mup μ 3 1 0) 3 7 0)) : zk (fun pc => Nat.beq pc 14) cl 2 Q K 8 0 [vR 3] [] (some (14, 0, 0)) μ := h
set_option maxRecDepth 100000 in
theorem w_strip14_3 {cl : Nat → QQ → List VV → AL → MM → Prop} {Q : QQ} {K : KK} {μ : MM} (h : cl 268 (fun r a' μ' => K 18 [vR 3] [] (alf 0 0 a') μ') [vR 10, vI 2] (some (14, 0, 0)) μ) : zk (fun pc => Nat.beq pc 18) cl 2 Q K 2 14 [vR 3] [vR 10] (some (14, 0, 0)) μ := h
set_option maxRecDepth 100000 in
theorem w_strip18_3 {cl : Nat → QQ → List VV → AL → MM → Prop} {Q : QQ} {K : KK} {μ : MM} (h : K 22 [vR 3] [vR (μ 3 9)] (some (14, 0, 0)) μ) : zk (fun pc => Nat.beq pc 22) cl 2 Q K 2 18 [vR 3] [] (some (14, 0, 0)) μ := h
set_option maxRecDepth 100000 in
theorem w_strip22_3 {cl : Nat → QQ → List VV → AL → MM → Prop} {Q : QQ} {K : KK} {μ : MM} (h : cl 268 (fun r a' μ' => K 26 [vR 3] [] (alf 0 0 a') μ') [vR 11, vI 3] (some (14, 0, 0)) μ) : zk (fun pc => Nat.beq pc 26) cl 2 Q K 2 22 [vR 3] [vR 11] (some (14, 0, 0)) μ := h
set_option maxRecDepth 100000 in
theorem w_strip26_3 {cl : Nat → QQ → List VV → AL → MM → Prop} {Q : QQ} {K : KK} {μ : MM} (h : K 30 [vR 3] [vR (μ 3 8)] (some (14, 0, 0)) μ) : zk (fun pc => Nat.beq pc 30) cl 2 Q K 2 26 [vR 3] [] (some (14, 0, 0)) μ := h
set_option maxRecDepth 100000 in
theorem w_strip30_3 {cl : Nat → QQ → List VV → AL → MM → Prop} {Q : QQ} {K : KK} {μ : MM} (h : ((0 : Int) ≤ 0 ∧ (0 : Int) < 8) ∧ (K 37 [vR 3] [vR ((mup μ 10 0 0) 3 8)] (some (14, 0, 0)) (mup μ 10 0 0))) : zk (fun pc => Nat.beq pc 37) cl 2 Q K 5 30 [vR 3] [vR 10] (some (14, 0, 0)) μ := h
set_option maxRecDepth 100000 in
theorem w_strip37_3 {cl : Nat → QQ → List VV → AL → MM → Prop} {Q : QQ} {K : KK} {μ : MM} (h : ((0 : Int) ≤ 7 ∧ (7 : Int) < 8) ∧ (K 45 [vR 3] [vR ((mup μ 10 7 0) 3 9)] (some (14, 0, 0)) (mup μ 10 7 0))) : zk (fun pc => Nat.beq pc 45) cl 2 Q K 5 37 [vR 3] [vR 10] (some (14, 0, 0)) μ := h
set_option maxRecDepth 100000 in
theorem w_strip45_3 {cl : Nat → QQ → List VV → AL → MM → Prop} {Q : QQ} {K : KK} {μ : MM} (h : ((0 : Int) ≤ 0 ∧ (0 : Int) < 8) ∧ (K 52 [vR 3] [vR ((mup μ 11 0 0) 3 9)] (some (14, 0, 0)) (mup μ 11 0 0))) : zk (fun pc => Nat.beq pc 52) cl 2 Q K 5 45 [vR 3] [vR 11] (some (14, 0, 0)) μ := h
set_option maxRecDepth 100000 in
theorem w_strip52_3 {cl : Nat → QQ → List VV → AL → MM → Prop} {Q : QQ} {K : KK} {μ : MM} (h : ((0 : Int) ≤ 7 ∧ (7 : Int) < 8) ∧ (Q 0 (some (14, 0, 0)) (mup μ 11 7 0))) : zk (fun pc => false) cl 2 Q K 4 52 [vR 3] [vR 11] (some (14, 0, 0)) μ := h
set_option maxRecDepth 100000 in
theorem w_cus0_3 {cl : Nat → QQ → List VV → AL → MM → Prop} {Q : QQ} {K : KK} {μ : MM} (h : cl 2 (fun r a' μ' => K 90 [vR 3] [] (alf 10 1142 a') μ') [vR 3] (some (14, 0, 0)) (mup (mup (mup (mup (mup (mup (mup (mup (mup (mup μ 3 0 4) 3 2 5) 3 3 6) 3 4 7) 3 5 8) 3 6 9) 3 8 10) 3 9 11) 3 10 12) 3 11 13)) : zk (fun pc => Nat.beq pc 90) cl 1 Q K 44 0 [vR 3] [] (some (4, 0, 0)) μ := h
set_option maxRecDepth 100000 in
theorem w_cus90_3 {cl : Nat → QQ → List VV → AL → MM → Prop} {Q : QQ} {K : KK} {μ : MM} (h : Q 0 (some (14, 10, 1142)) μ) : zk (fun pc => false) cl 1 Q K 1 90 [vR 3] [] (some (14, 10, 1142)) μ := h
set_option maxRecDepth 100000 in
theorem w_strip0_14 {cl : Nat → QQ → List VV → AL → MM → Prop} {Q : QQ} {K : KK} {μ : MM} (h : K 14 [vR 14] [vR ((mup (mup μ 14 1 0) 14 7 0) 14 8)] (some (25, 0, 0)) (mup (mup μ 14 1 0) 14 7 0)) : zk (fun pc => Nat.beq pc 14) cl 2 Q K 8 0 [vR 14] [] (some (25, 0, 0)) μ := h
set_option maxRecDepth 100000 in
theorem w_strip14_14 {cl : Nat → QQ → List VV → AL → MM → Prop} {Q : QQ} {K : KK} {μ : MM} (h : cl 268 (fun r a' μ' => K 18 [vR 14] [] (alf 0 0 a') μ') [vR 21, vI 2] (some (25, 0, 0)) μ) : zk (fun pc => Nat.beq pc 18) cl 2 Q K 2 14 [vR 14] [vR 21] (some (25, 0, 0)) μ := h
set_option maxRecDepth 100000 in
theorem w_strip18_14 {cl : Nat → QQ → List VV → AL → MM → Prop} {Q : QQ} {K : KK} {μ : MM} (h : K 22 [vR 14] [vR (μ 14 9)] (some (25, 0, 0)) μ) : zk (fun pc => Nat.beq pc 22) cl 2 Q K 2 18 [vR 14] [] (some (25, 0, 0)) μ := h
set_option maxRecDepth 100000 in
theorem w_strip22_14 {cl : Nat → QQ → List VV → AL → MM → Prop} {Q : QQ} {K : KK} {μ : MM} (h : cl 268 (fun r a' μ' => K 26 [vR 14] [] (alf 0 0 a') μ') [vR 22, vI 3] (some (25, 0, 0)) μ) : zk (fun pc => Nat.beq pc 26) cl 2 Q K 2 22 [vR 14] [vR 22] (some (25, 0, 0)) μ := h
set_option maxRecDepth 100000 in
theorem w_strip26_14 {cl : Nat → QQ → List VV → AL → MM → Prop} {Q : QQ} {K : KK} {μ : MM} (h : K 30 [vR 14] [vR (μ 14 8)] (some (25, 0, 0)) μ) : zk (fun pc => Nat.beq pc 30) cl 2 Q K 2 26 [vR 14] [] (some (25, 0, 0)) μ := h
set_option maxRecDepth 100000 in
theorem w_strip30_14 {cl : Nat → QQ → List VV → AL → MM → Prop} {Q : QQ} {K : KK} {μ : MM} (h : ((0 : Int) ≤ 0 ∧ (0 : Int) < 8) ∧ (K 37 [vR 14] [vR ((mup μ 21 0 0) 14 8)] (some (25, 0, 0)) (mup μ 21 0 0))) : zk (fun pc => Nat.beq pc 37) cl 2 Q K 5 30 [vR 14] [vR 21] (some (25, 0, 0)) μ := h
set_option maxRecDepth 100000 in
theorem w_strip37_14 {cl : Nat → QQ → List VV → AL → MM → Prop} {Q : QQ} {K : KK} {μ : MM} (h : ((0 : Int) ≤ 7 ∧ (7 : Int) < 8) ∧ (K 45 [vR 14] [vR ((mup μ 21 7 0) 14 9)] (some (25, 0, 0)) (mup μ 21 7 0))) : zk (fun pc => Nat.beq pc 45) cl 2 Q K 5 37 [vR 14] [vR 21] (some (25, 0, 0)) μ := h
set_option maxRecDepth 100000 in
theorem w_strip45_14 {cl : Nat → QQ → List VV → AL → MM → Prop} {Q : QQ} {K : KK} {μ : MM} (h : ((0 : Int) ≤ 0 ∧ (0 : Int) < 8) ∧ (K 52 [vR 14] [vR ((mup μ 22 0 0) 14 9)] (some (25, 0, 0)) (mup μ 22 0 0))) : zk (fun pc => Nat.beq pc 52) cl 2 Q K 5 45 [vR 14] [vR 22] (some (25, 0, 0)) μ := h
set_option maxRecDepth 100000 in
theorem w_strip52_14 {cl : Nat → QQ → List VV → AL → MM → Prop} {Q : QQ} {K : KK} {μ : MM} (h : ((0 : Int) ≤ 7 ∧ (7 : Int) < 8) ∧ (Q 0 (some (25, 0, 0)) (mup μ 22 7 0))) : zk (fun pc => false) cl 2 Q K 4 52 [vR 14] [vR 22] (some (25, 0, 0)) μ := h
set_option maxRecDepth 100000 in
theorem w_cus0_14 {cl : Nat → QQ → List VV → AL → MM → Prop} {Q : QQ} {K : KK} {μ : MM} (h : cl 2 (fun r a' μ' => K 90 [vR 14] [] (alf 10 1142 a') μ') [vR 14] (some (25, 0, 0)) (mup (mup (mup (mup (mup (mup (mup (mup (mup (mup μ 14 0 15) 14 2 16) 14 3 17) 14 4 18) 14 5 19) 14 6 20) 14 8 21) 14 9 22) 14 10 23) 14 11 24)) : zk (fun pc => Nat.beq pc 90) cl 1 Q K 44 0 [vR 14] [] (some (15, 0, 0)) μ := h
set_option maxRecDepth 100000 in
theorem w_cus90_14 {cl : Nat → QQ → List VV → AL → MM → Prop} {Q : QQ} {K : KK} {μ : MM} (h : Q 0 (some (25, 10, 1142)) μ) : zk (fun pc => false) cl 1 Q K 1 90 [vR 14] [] (some (25, 10, 1142)) μ := h
set_option maxRecDepth 100000 in
theorem w_grid0 {cl : Nat → QQ → List VV → AL → MM → Prop} {Q : QQ} {K : KK} {μ : MM} (h : K 33 [vR 25, vI 0, vU, vU] [] (some (29, 3, 3360)) (mup (mup (mup μ 25 0 26) 25 1 27) 25 2 28)) : zk (fun pc => Nat.beq pc 33) cl 31 Q K 16 0 [vR 25, vU, vU, vU] [] (some (26, 0, 0)) μ := h
set_option maxRecDepth 100000 in
theorem w_grid33 {cl : Nat → QQ → List VV → AL → MM → Prop} {Q : QQ} {K : KK} {μ : MM} {i : Int} {p q : VV} (h : (((240 : Int) ≤ (i : Int)) → (Q 0 (some (29, 3, 3360)) μ)) ∧ ((¬ ((240 : Int) ≤ (i : Int))) → (K 42 [vR 25, vI i, vI 0, vU] [] (some (29, 3, 3360)) μ))) : zk (fun pc => Nat.beq pc 42) cl 31 Q K 5 33 [vR 25, vI i, p, q] [] (some (29, 3, 3360)) μ := h
set_option maxRecDepth 100000 in
theorem w_grid42 {cl : Nat → QQ → List VV → AL → MM → Prop} {Q : QQ} {K : KK} {μ : MM} {i j : Int} {q : VV} (h : (((6 : Int) ≤ (j : Int)) → (K 33 [vR 25, vI (o_add i 1), vU, vU] [] (some (29, 3, 3360)) μ)) ∧ ((¬ ((6 : Int) ≤ (j : Int))) → (cl 32 (fun r a' μ' => K 53 [vR 25, vI i, vI j, vU] [vI r] (alf 3 3360 a') μ') [vI i, vI j] (some (29, 0, 0)) μ))) : zk (fun pc => Nat.beq pc 33 || Nat.beq pc 53) cl 31 Q K 6 42 [vR 25, vI i, vI j, q] [] (some (29, 3, 3360)) μ := h
set_option maxRecDepth 100000 in
theorem w_grid53 {cl : Nat → QQ → List VV → AL → MM → Prop} {Q : QQ} {K : KK} {μ : MM} {i j x : Int} (h : K 58 [vR 25, vI i, vI j, vI x] [vR (μ 25 0)] (some (29, 3, 3360)) μ) : zk (fun pc => Nat.beq pc 58) cl 31 Q K 3 53 [vR 25, vI i, vI j, vU] [vI x] (some (29, 3, 3360)) μ := h
set_option maxRecDepth 100000 in
theorem w_grid58 {cl : Nat → QQ → List VV → AL → MM → Prop} {Q : QQ} {K : KK} {μ : MM} {i j x : Int} (h : ((0 : Int) ≤ (o_add (o_mul i 6) j) ∧ ((o_add (o_mul i 6) j) : Int) < 1440) ∧ (K 70 [vR 25, vI i, vI j, vI x] [vR ((mup μ 26 (o_add (o_mul i 6) j) x) 25 1)] (some (29, 3, 3360)) (mup μ 26 (o_add (o_mul i 6) j) x))) : zk (fun pc => Nat.beq pc 70) cl 31 Q K 9 58 [vR 25, vI i, vI j, vI x] [vR 26] (some (29, 3, 3360)) μ := h
set_option maxRecDepth 100000 in
theorem w_grid70 {cl : Nat → QQ → List VV → AL → MM → Prop} {Q : QQ} {K : KK} {μ : MM} {i j x : Int} (h : ((¬ (x : Int) = (-1)) → (cl 33 (fun r a' μ' => K 90 [vR 25, vI i, vI j, vI x] [vI r, vI (o_add (o_mul i 6) j), vR 27] (alf 3 3360 a') μ') [vI i, vI x] (some (29, 0, 0)) μ)) ∧ ((¬ (¬ (x : Int) = (-1))) → (K 90 [vR 25, vI i, vI j, vI x] [vI (-1), vI (o_add (o_mul i 6) j), vR 27] (some (29, 3, 3360)) μ))) : zk (fun pc => Nat.beq pc 90) cl 31 Q K 11 70 [vR 25, vI i, vI j, vI x] [vR 27] (some (29, 3, 3360)) μ := h
set_option maxRecDepth 100000 in
theorem w_grid90 {cl : Nat → QQ → List VV → AL → MM → Prop} {Q : QQ} {K : KK} {μ : MM} {i j x o k : Int} (h : ((0 : Int) ≤ k ∧ (k : Int) < 1440) ∧ (K 42 [vR 25, vI i, vI (o_add j 1), vU] [] (some (29, 3, 3360)) (mup μ 27 k o))) : zk (fun pc => Nat.beq pc 42) cl 31 Q K 3 90 [vR 25, vI i, vI j, vI x] [vI o, vI k, vR 27] (some (29, 3, 3360)) μ := h
set_option maxRecDepth 100000 in
theorem w_cellOn {cl : Nat → QQ → List VV → AL → MM → Prop} {Q : QQ} {K : KK} {μ : MM} {a b : Int} {w : Nat} (h : (¬ (8 : Int) = 0) ∧ ((¬ (8 : Int) = 0) ∧ ((¬ (6 : Int) = 0) ∧ ((((b : Int) = 0 → (((((o_rem (o_div a 8) 6) : Int) ≤ 0) → (Q (-1) (some (w, 0, 0)) μ)) ∧ ((¬ (((o_rem (o_div a 8) 6) : Int) ≤ 0)) → (Q (o_sub a 8) (some (w, 0, 0)) μ)))) ∧ ((b : Int) = 0 + 1 → (((((o_rem a 8) : Int) ≤ 0) → (Q (-1) (some (w, 0, 0)) μ)) ∧ ((¬ (((o_rem a 8) : Int) ≤ 0)) → (Q (o_sub a 1) (some (w, 0, 0)) μ)))) ∧ ((b : Int) = 0 + 1 + 1 → ((((7 : Int) ≤ ((o_rem a 8) : Int)) → (Q (-1) (some (w, 0, 0)) μ)) ∧ ((¬ ((7 : Int) ≤ ((o_rem a 8) : Int))) → (Q (o_add a 1) (some (w, 0, 0)) μ)))) ∧ ((b : Int) = 0 + 1 + 1 + 1 → ((((5 : Int) ≤ ((o_rem (o_div a 8) 6) : Int)) → (Q (-1) (some (w, 0, 0)) μ)) ∧ ((¬ ((5 : Int) ≤ ((o_rem (o_div a 8) 6) : Int))) → (Q (o_add a 8) (some (w, 0, 0)) μ)))) ∧ ((b : Int) = 0 + 1 + 1 + 1 + 1 → ((((a : Int) < 48) → (Q (-1) (some (w, 0, 0)) μ)) ∧ ((¬ ((a : Int) < 48)) → (Q (o_sub a 48) (some (w, 0, 0)) μ)))) ∧ True) ∧ (((b : Int) < 0 ∨ 4 < b) → ((((240 : Int) ≤ ((o_add a 48) : Int)) → (Q (-1) (some (w, 0, 0)) μ)) ∧ ((¬ ((240 : Int) ≤ ((o_add a 48) : Int))) → (Q (o_add a 48) (some (w, 0, 0)) μ)))))))) : zk (fun pc => false) cl 32 Q K 22 0 [vI a, vI b, vU, vU] [] (some (w, 0, 0)) μ := h
set_option maxRecDepth 100000 in
theorem w_min {cl : Nat → QQ → List VV → AL → MM → Prop} {Q : QQ} {K : KK} {μ : MM} {a b : Int} {w : Nat} (h : (((b : Int) < (a : Int)) → (Q b (some (w, 0, 0)) μ)) ∧ ((¬ ((b : Int) < (a : Int))) → (Q a (some (w, 0, 0)) μ))) : zk (fun pc => false) cl 269 Q K 6 0 [vI a, vI b] [] (some (w, 0, 0)) μ := h
set_option maxRecDepth 100000 in
theorem w_max {cl : Nat → QQ → List VV → AL → MM → Prop} {Q : QQ} {K : KK} {μ : MM} {a b : Int} {w : Nat} (h : (((a : Int) < b) → (Q b (some (w, 0, 0)) μ)) ∧ ((¬ ((a : Int) < b)) → (Q a (some (w, 0, 0)) μ))) : zk (fun pc => false) cl 270 Q K 6 0 [vI a, vI b] [] (some (w, 0, 0)) μ := h
set_option maxRecDepth 100000 in
theorem w_gap0 {cl : Nat → QQ → List VV → AL → MM → Prop} {Q : QQ} {K : KK} {μ : MM} {a b : Int} {w : Nat} (h : cl 269 (fun r a' μ' => K 5 [vI a, vI b, vU, vU] [vI r] (alf 0 0 a') μ') [vI a, vI b] (some (w, 0, 0)) μ) : zk (fun pc => Nat.beq pc 5) cl 33 Q K 3 0 [vI a, vI b, vU, vU] [] (some (w, 0, 0)) μ := h
set_option maxRecDepth 100000 in
theorem w_gap5 {cl : Nat → QQ → List VV → AL → MM → Prop} {Q : QQ} {K : KK} {μ : MM} {a b x : Int} {w : Nat} (h : cl 270 (fun r a' μ' => K 11 [vI a, vI b, vI x, vU] [vI r] (alf 0 0 a') μ') [vI a, vI b] (some (w, 0, 0)) μ) : zk (fun pc => Nat.beq pc 11) cl 33 Q K 4 5 [vI a, vI b, vU, vU] [vI x] (some (w, 0, 0)) μ := h
set_option maxRecDepth 100000 in
theorem w_gap11 {cl : Nat → QQ → List VV → AL → MM → Prop} {Q : QQ} {K : KK} {μ : MM} {a b x o : Int} {w : Nat} (h : ((¬ ((o_sub o x) : Int) = 1) → (((¬ ((o_sub o x) : Int) = 8) → (Q (-1) (some (w, 0, 0)) μ)) ∧ ((¬ (¬ ((o_sub o x) : Int) = 8)) → ((¬ (8 : Int) = 0) ∧ ((¬ (6 : Int) = 0) ∧ ((((5 : Int) ≤ ((o_rem (o_div x 8) 6) : Int)) → (Q (-1) (some (w, 0, 0)) μ)) ∧ ((¬ ((5 : Int) ≤ ((o_rem (o_div x 8) 6) : Int))) → (Q (o_add (o_mul 2 x) 1) (some (w, 0, 0)) μ)))))))) ∧ ((¬ (¬ ((o_sub o x) : Int) = 1)) → ((¬ (8 : Int) = 0) ∧ ((((7 : Int) ≤ ((o_rem x 8) : Int)) → (((¬ ((o_sub o x) : Int) = 8) → (Q (-1) (some (w, 0, 0)) μ)) ∧ ((¬ (¬ ((o_sub o x) : Int) = 8)) → ((¬ (8 : Int) = 0) ∧ ((¬ (6 : Int) = 0) ∧ ((((5 : Int) ≤ ((o_rem (o_div x 8) 6) : Int)) → (Q (-1) (some (w, 0, 0)) μ)) ∧ ((¬ ((5 : Int) ≤ ((o_rem (o_div x 8) 6) : Int))) → (Q (o_add (o_mul 2 x) 1) (some (w, 0, 0)) μ)))))))) ∧ ((¬ ((7 : Int) ≤ ((o_rem x 8) : Int))) → (Q (o_mul 2 x) (some (w, 0, 0)) μ)))))) : zk (fun pc => false) cl 33 Q K 27 11 [vI a, vI b, vI x, vU] [vI o] (some (w, 0, 0)) μ := h
set_option maxRecDepth 100000 in
theorem w_notes0 {cl : Nat → QQ → List VV → AL → MM → Prop} {Q : QQ} {K : KK} {μ : MM} (h : K 125 [vR 29] [vR ((mup (mup (mup (mup (mup (mup (mup (mup (mup (mup (mup (mup (mup μ 29 0 30) 29 1 31) 29 2 32) 29 3 33) 29 4 34) 29 5 35) 29 6 36) 29 9 37) 29 10 38) 29 11 39) 29 12 40) 29 13 41) 29 14 42) 29 10)] (some (43, 13, 3540)) (mup (mup (mup (mup (mup (mup (mup (mup (mup (mup (mup (mup (mup μ 29 0 30) 29 1 31) 29 2 32) 29 3 33) 29 4 34) 29 5 35) 29 6 36) 29 9 37) 29 10 38) 29 11 39) 29 12 40) 29 13 41) 29 14 42)) : zk (fun pc => Nat.beq pc 125) cl 53 Q K 56 0 [vR 29] [] (some (30, 0, 0)) μ := h
set_option maxRecDepth 100000 in
theorem w_notes125 {cl : Nat → QQ → List VV → AL → MM → Prop} {Q : QQ} {K : KK} {μ : MM} (h : cl 268 (fun r a' μ' => K 129 [vR 29] [] (alf 13 3540 a') μ') [vR 38, vI (-1)] (some (43, 0, 0)) μ) : zk (fun pc => Nat.beq pc 129) cl 53 Q K 2 125 [vR 29] [vR 38] (some (43, 13, 3540)) μ := h
set_option maxRecDepth 100000 in
theorem w_notes129 {cl : Nat → QQ → List VV → AL → MM → Prop} {Q : QQ} {K : KK} {μ : MM} (h : K 133 [vR 29] [vR (μ 29 12)] (some (43, 13, 3540)) μ) : zk (fun pc => Nat.beq pc 133) cl 53 Q K 2 129 [vR 29] [] (some (43, 13, 3540)) μ := h
set_option maxRecDepth 100000 in
theorem w_notes133 {cl : Nat → QQ → List VV → AL → MM → Prop} {Q : QQ} {K : KK} {μ : MM} (h : cl 268 (fun r a' μ' => K 137 [vR 29] [] (alf 13 3540 a') μ') [vR 40, vI (-1)] (some (43, 0, 0)) μ) : zk (fun pc => Nat.beq pc 137) cl 53 Q K 2 133 [vR 29] [vR 40] (some (43, 13, 3540)) μ := h
set_option maxRecDepth 100000 in
theorem w_notes137 {cl : Nat → QQ → List VV → AL → MM → Prop} {Q : QQ} {K : KK} {μ : MM} (h : Q 0 (some (43, 13, 3540)) μ) : zk (fun pc => false) cl 53 Q K 1 137 [vR 29] [] (some (43, 13, 3540)) μ := h
set_option maxRecDepth 100000 in
theorem w_walks {cl : Nat → QQ → List VV → AL → MM → Prop} {Q : QQ} {K : KK} {μ : MM} {q : Int} (h : Q 0 (some (53, 9, 2160)) (mup (mup (mup (mup (mup (mup (mup (mup (mup (mup μ 43 1 44) 43 2 45) 43 3 46) 43 4 47) 43 5 48) 43 6 49) 43 7 50) 43 8 51) 43 9 52) 43 0 q)) : zk (fun pc => false) cl 87 Q K 42 0 [vR 43, vR q] [] (some (44, 0, 0)) μ := h
set_option maxRecDepth 100000 in
theorem w_loads {cl : Nat → QQ → List VV → AL → MM → Prop} {Q : QQ} {K : KK} {μ : MM} {q : Int} (h : K 8 [vR 53, vR q] [vR 3001, vR 53] (some (54, 0, 0)) μ) : zk (fun pc => Nat.beq pc 8) cl 42 Q K 4 0 [vR 53, vR q] [] (some (54, 0, 0)) μ := h
set_option maxRecDepth 100000 in
theorem w_law {cl : Nat → QQ → List VV → AL → MM → Prop} {Q : QQ} {K : KK} {μ : MM} (h : K 4 [vR 3000, vU, vU, vU] [vR 1, vR 1] (some (2, 1, 17)) μ) : zk (fun pc => Nat.beq pc 4) cl 0 Q K 2 0 [vR 3000, vU, vU, vU] [] (some (1, 0, 0)) μ := h
set_option maxRecDepth 100000 in
theorem w_six0 {cl : Nat → QQ → List VV → AL → MM → Prop} {Q : QQ} {K : KK} {μ : MM} (h : cl 1 (fun r a' μ' => K 21 [vR 1] [vR 3, vR 1] (alf 12 1654 a') μ') [vR 3] (some (4, 0, 0)) (mup μ 1 10 2)) : zk (fun pc => Nat.beq pc 21) cl 113 Q K 10 0 [vR 1] [] (some (2, 0, 0)) μ := h
set_option maxRecDepth 100000 in
theorem w_six21 {cl : Nat → QQ → List VV → AL → MM → Prop} {Q : QQ} {K : KK} {μ : MM} (h : cl 1 (fun r a' μ' => K 32 [vR 1] [vR 14, vR 1] (alf 23 2808 a') μ') [vR 14] (some (15, 0, 0)) (mup μ 1 11 3)) : zk (fun pc => Nat.beq pc 32) cl 113 Q K 5 21 [vR 1] [vR 3, vR 1] (some (14, 12, 1654)) μ := h
set_option maxRecDepth 100000 in
theorem w_six32 {cl : Nat → QQ → List VV → AL → MM → Prop} {Q : QQ} {K : KK} {μ : MM} (h : cl 31 (fun r a' μ' => K 48 [vR 1] [vR 25, vR 1] (alf 27 6171 a') μ') [vR 25] (some (26, 0, 0)) (mup (mup μ 1 12 14) 1 15 (-1))) : zk (fun pc => Nat.beq pc 48) cl 113 Q K 8 32 [vR 1] [vR 14, vR 1] (some (25, 23, 2808)) μ := h
set_option maxRecDepth 100000 in
theorem w_six48 {cl : Nat → QQ → List VV → AL → MM → Prop} {Q : QQ} {K : KK} {μ : MM} (h : cl 53 (fun r a' μ' => K 59 [vR 1] [vR 29, vR 1] (alf 41 9726 a') μ') [vR 29] (some (30, 0, 0)) (mup μ 1 0 25)) : zk (fun pc => Nat.beq pc 59) cl 113 Q K 5 48 [vR 1] [vR 25, vR 1] (some (29, 27, 6171)) μ := h
set_option maxRecDepth 100000 in
theorem w_six59 {cl : Nat → QQ → List VV → AL → MM → Prop} {Q : QQ} {K : KK} {μ : MM} (h : cl 87 (fun r a' μ' => K 74 [vR 1] [vR 43, vR 1] (alf 51 11898 a') μ') [vR 43, vR ((mup μ 1 1 29) 1 0)] (some (44, 0, 0)) (mup μ 1 1 29)) : zk (fun pc => Nat.beq pc 74) cl 113 Q K 7 59 [vR 1] [vR 29, vR 1] (some (43, 41, 9726)) μ := h
set_option maxRecDepth 100000 in
theorem w_six74 {cl : Nat → QQ → List VV → AL → MM → Prop} {Q : QQ} {K : KK} {μ : MM} (h : K 86 [vR 1] [vR ((mup μ 1 2 43) 1 0), vR 53, vR 53, vR 1] (some (54, 52, 11906)) (mup μ 1 2 43)) : zk (fun pc => Nat.beq pc 86) cl 113 Q K 6 74 [vR 1] [vR 43, vR 1] (some (53, 51, 11898)) μ := h
end
