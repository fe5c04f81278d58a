section
variable {l : Launch} {g : GG} {y : Nat} {Q : QQ} {Φ : PHI}
theorem ix_ok {i n : Int} (hr : -2147483648 ≤ i ∧ i < 2147483648) (h : 0 ≤ i ∧ i < n) : vp_in (Int32.ofInt i) n.toNat ∧ (Int32.ofInt i).toNatClampNeg = i.toNat := by
  refine ⟨vp_in_iff.mpr ?_, ?_⟩
  · rw [i32_to hr.1 hr.2]
    omega
  · show (Int32.ofInt i).toInt.toNat = i.toNat
    rw [i32_to hr.1 hr.2]
theorem sh_26 {r : Int} (h : (sh r).1 = 26) : r = 3000 := by
  unfold sh at h
  cases r with
  | negSucc n => simp at h
  | ofNat n =>
    simp only at h
    cases hb : Nat.blt n 170 with
    | true =>
      exfalso
      rw [hb] at h
      simp only [cond_true] at h
      have hall : raAll (fun e : Nat × Int => !Nat.beq e.1 26) shT = true := by decide +kernel
      have := raAll_get shT n hall
      rw [h] at this
      simp at this
    | false =>
      rw [hb] at h
      simp only [cond_false] at h
      cases hb1 : Nat.blt n 1030 with
      | true =>
        exfalso
        rw [hb1] at h
        simp only [cond_true] at h
        cases hb2 : Nat.blt n 1000 <;> rw [hb2] at h <;> simp at h
      | false =>
        rw [hb1] at h
        simp only [cond_false] at h
        cases hb2 : Nat.blt n 2030 with
        | true =>
          exfalso
          rw [hb2] at h
          simp only [cond_true] at h
          cases hb3 : Nat.blt n 2000 <;> rw [hb3] at h <;> simp at h
        | false =>
          rw [hb2] at h
          simp only [cond_false] at h
          cases hb3 : Nat.beq n 3000 with
          | true => have := Nat.eq_of_beq_eq_true hb3; subst this; rfl
          | false => rw [hb3] at h; simp at h
/-- a cell of bytes: ours, or a String's -/
theorem sh_21 {r : Int} (h : (sh r).1 = 21) : (∃ k : Nat, r = (k : Int) + 1 ∧ k < 169) ∨ ∃ j : Nat, j < 30 ∧ r = ((2000 + j : Nat) : Int) := by
  rcases Nat.lt_or_ge r.toNat 1000 with q | q
  · exact Or.inl (sh_id (by omega) (by omega) (by omega) q)
  · refine Or.inr ?_
    unfold sh at h
    cases r with
    | negSucc n => simp at h
    | ofNat n =>
      have q : 1000 ≤ n := q
      simp only at h
      have e0 : Nat.blt n 170 = false := by
        cases hb : Nat.blt n 170 with
        | true => have := Nat.blt_eq.mp hb; omega
        | false => rfl
      rw [e0] at h
      simp only [cond_false] at h
      cases hb1 : Nat.blt n 1030 with
      | true =>
        exfalso
        rw [hb1] at h
        simp only [cond_true] at h
        cases hb2 : Nat.blt n 1000 <;> rw [hb2] at h <;> simp at h
      | false =>
        rw [hb1] at h
        simp only [cond_false] at h
        cases hb2 : Nat.blt n 2030 with
        | true =>
          rw [hb2] at h
          simp only [cond_true] at h
          cases hb3 : Nat.blt n 2000 with
          | true => rw [hb3] at h; simp at h
          | false =>
            have h1 := Nat.blt_eq.mp hb2
            have h2 : 2000 ≤ n := by
              rcases Nat.lt_or_ge n 2000 with z | z
              · rw [Nat.blt_eq.mpr z] at hb3; cases hb3
              · exact z
            exact ⟨n - 2000, by omega, by show (n : Int) = _; omega⟩
        | false =>
          rw [hb2] at h
          simp only [cond_false] at h
          cases hb3 : Nat.beq n 3000 <;> rw [hb3] at h <;> simp at h
theorem alen_of {μ : MM} {r : Int} (h : (sh r).1 ≠ 26) : alen μ r = (sh r).2 := by
  unfold alen
  split
  · rename_i e
    exact absurd (by rw [e]) h
  · rename_i e
    rw [e]
theorem rfv_3000 (g : GG) : rfv g 3000 = .ref (gS g) := rfl
theorem sh_sb {j : Nat} (h : j < 30) : (sh ((2000 + j : Nat) : Int)) = (21, ((sbT.get j).length : Int)) := by
  show sh (Int.ofNat (2000 + j)) = _
  unfold sh
  simp only
  have e0 : Nat.blt (2000 + j) 170 = false := by
    cases hb : Nat.blt (2000 + j) 170 with
    | true => have := Nat.blt_eq.mp hb; omega
    | false => rfl
  have e1 : Nat.blt (2000 + j) 1030 = false := by
    cases hb : Nat.blt (2000 + j) 1030 with
    | true => have := Nat.blt_eq.mp hb; omega
    | false => rfl
  have e2 : Nat.blt (2000 + j) 2030 = true := Nat.blt_eq.mpr (by omega)
  have e3 : Nat.blt (2000 + j) 2000 = false := by
    cases hb : Nat.blt (2000 + j) 2000 with
    | true => have := Nat.blt_eq.mp hb; omega
    | false => rfl
  rw [e0, e1, e2, e3, show 2000 + j - 2000 = j by omega]
  rfl
theorem rdb_sb {μ : MM} {j : Nat} (h : j < 30) (i : Int) : rdb μ ((2000 + j : Nat) : Int) i = (sbT.get j).getD i.toNat 0 := by
  show rdb μ (Int.ofNat (2000 + j)) i = _
  unfold rdb
  simp only
  have e0 : Nat.blt (2000 + j) 2000 = false := by
    cases hb : Nat.blt (2000 + j) 2000 with
    | true => have := Nat.blt_eq.mp hb; omega
    | false => rfl
  rw [e0, show 2000 + j - 2000 = j by omega]
  rfl
theorem rdb_id {μ : MM} {k : Nat} (h : k < 169) (i : Int) : rdb μ ((k : Int) + 1) i = μ ((k : Int) + 1) i := by
  show rdb μ (Int.ofNat (k + 1)) i = _
  unfold rdb
  simp only
  rw [show Nat.blt (k + 1) 2000 = true from Nat.blt_eq.mpr (by omega)]
  rfl
theorem sbN_at {j : Nat} (h : j < 30) : sbN.getD j 0 = (sbT.get j).length := by
  unfold sbN
  rw [List.getD_eq_getElem?_getD, List.getElem?_map, List.getElem?_range h]
  rfl
theorem sbL_at {j : Nat} (h : j < 30) (i : Nat) : (sbL.getD j []).getD i 0 = Int32.ofInt ((sbT.get j).getD i 0) := by
  unfold sbL
  rw [List.getD_eq_getElem?_getD (i := j), List.getElem?_map, List.getElem?_range h]
  show ((sbT.get j).map Int32.ofInt).getD i 0 = _
  rw [List.getD_eq_getElem?_getD, List.getD_eq_getElem?_getD, List.getElem?_map]
  cases (sbT.get j)[i]? <;> rfl
theorem sb_rng (j i : Nat) : -2147483648 ≤ (sbT.get j).getD i 0 ∧ (sbT.get j).getD i 0 < 2147483648 := by
  have hall : raAll (fun e : List Int => e.all (fun x => decide (-2147483648 ≤ x ∧ x < 2147483648))) sbT = true := by decide +kernel
  exact getD_rng (raAll_get sbT j hall) i
theorem isL_arr {kk c : Nat} {i : Int} (hs : (sh ((kk : Int) + 1)).1 = c) (h1 : ¬ c < 13) (h2 : c ≠ 24) : isL ((kk : Int) + 1) i = false := by
  unfold isL
  rw [hs, decide_eq_false h2]
  cases hb : Nat.blt c 13 with
  | true => exact absurd (Nat.blt_eq.mp hb) h1
  | false => rfl
/-- reading an array of ours of ints, bytes, chars, booleans: its row given -/
theorem rd_arr {pc c tt : Nat} {ty : FieldType} (h1 : ¬ c < 13) (h2 : c ≠ 24) (h3 : c ≠ 25) (htt : (tys6 g)[tt]? = some (gA g c, ty)) {kk : Nat} (hk : kk < 169) (hs : (sh ((kk : Int) + 1)).1 = c) {al : AL} (ho : okr al ((kk : Int) + 1) = true) {μ : MM} {i : Int} (hi : 0 ≤ i ∧ i < (sh ((kk : Int) + 1)).2)
    (row : ∀ (p : Program) (e : Env) (R : Room) (s : State) (m : MethodId) (args : Array Value) (below : List Frame) (meth : Method) (cd : Code) (H : Heap) (locs : List Loc) (cells slots : Nat) (Qs : State → Prop) (lc : Array Slot) (rest : List Value) (ws : va_W) (a n : Nat) (f : Nat → Int32) (x : Int32), CX g y p R s m args meth cd → va_P (gC g, gI g) cls13 ws H → ws[kk]? = some (a, .inl (gA g c, n, .inl f)) → vp_in x n → W p l e R s m args below meth cd H locs cells slots Qs (F0 m (pc + 1) lc (.int (f x.toNatClampNeg) :: rest)) → W p l e R s m args below meth cd H locs cells slots Qs (F0 m pc lc (.int x :: .ref a :: rest)))
    {ls st : List VV} (k1 : WX l g y Φ (pc + 1) ls ((0, μ ((kk : Int) + 1) i) :: st) al μ) : WX l g y Φ pc ls ((0, i) :: (2, (kk : Int) + 1) :: st) al μ := by
  intro p e R s m args below meth cd H locs cells slots mc ms lc q1 q2 q3 q4 q5 q6
  have hr := (q6 (0, i) List.mem_cons_self).1 rfl
  obtain ⟨i1, i2⟩ := ix_ok hr hi
  show W p l e R s m args below meth cd H locs cells slots _ (F0 m pc lc (.int (Int32.ofInt i) :: rfv g ((kk : Int) + 1) :: st.map (cv g)))
  rw [rfv_id g hk]
  refine row p e R s m args below meth cd H locs cells slots _ lc _ (wl g μ (cnt al)) (gB g + kk) _ _ _ q1 q2.1.1 (by rw [wl_get g μ (okr_cnt ho hk), ceE_arr hs h1 h2 h3]) i1 ?_
  rw [i2, show ((i.toNat : Nat) : Int) = i by omega]
  have h9 := (q2.1.2.1 ((kk : Int) + 1) i).1 (isL_arr hs h1 h2)
  exact k1 p e R s m args below meth cd H locs cells slots mc ms lc q1 q2 q3 q4 q5 (wf_push (wf_of_i h9.1 h9.2) (fun w hw => List.mem_cons_of_mem _ (List.mem_cons_of_mem _ hw)) q6)
theorem ard_un {ok : Nat → Bool} {t pc : Nat} {f : MM → Int → Int → Int} {ls st : List VV} {al : AL} {μ : MM} (k1 : wgo (WX l g y Φ) pc 1 (ard ok t f ls st al μ)) (kk : ∀ (i r : Int) (st' : List VV), st = (0, i) :: (2, r) :: st' → ok (sh r).1 = true → okr al r = true → (0 ≤ i ∧ i < alen μ r) → WX l g y Φ (pc + 1) ls ((t, f μ r i) :: st') al μ → WX l g y Φ pc ls st al μ) : WX l g y Φ pc ls st al μ := by
  unfold ard at k1
  split at k1
  · rename_i i r st
    cases hb : (ok (sh r).1 && okr al r) with
    | false => rw [hb] at k1; exact k1.elim
    | true =>
      rw [hb] at k1
      simp only [Bool.and_eq_true] at hb
      have k1 : (0 ≤ i ∧ i < alen μ r) ∧ WX l g y Φ (pc + 1) ls ((t, f μ r i) :: st) al μ := k1
      exact kk i r st rfl hb.1 hb.2 k1.1 k1.2
  · exact k1.elim
theorem ws_iald {pc : Nat} (hd : decode (mB y) pc = .ok (.iaload, 1)) {ls st : List VV} {al : AL} {μ : MM} (k1 : wgo (WX l g y Φ) pc 1 (ard (fun k => Nat.beq k 20 || Nat.beq k 26) 0 (fun μ r i => μ r i) ls st al μ)) : WX l g y Φ pc ls st al μ := by
  refine ard_un k1 fun i r st' est hk ho hi kw => ?_
  subst est
  simp only [Bool.or_eq_true] at hk
  rcases hk with hk | hk
  · have hs := Nat.eq_of_beq_eq_true hk
    obtain ⟨kk, rfl, hkk⟩ := sh_small hs (by omega) (by omega) (by omega) (by omega)
    rw [alen_of (by omega)] at hi
    exact rd_arr (c := 20) (tt := 0) (ty := .int) (by omega) (by omega) (by omega) rfl hkk hs ho hi (fun p e R s m args below meth cd H locs cells slots Qs lc rest ws a n f x C hP ha hin k => va_iald C.1 C.2.1 C.2.2.2.2.2.2.2.2.2.1 hP kk 0 ha rfl hin hd k) kw
  · have hs := Nat.eq_of_beq_eq_true hk
    have er := sh_26 hs
    subst er
    have hi : 0 ≤ i ∧ i < μ 3000 (-1) := hi
    intro p e R s m args below meth cd H locs cells slots mc ms lc q1 q2 q3 q4 q5 q6
    have hr := (q6 (0, i) List.mem_cons_self).1 rfl
    obtain ⟨i1, i2⟩ := ix_ok hr hi
    obtain ⟨-, -, -, -, -, -, -, -, -, -, -, -, -, -, -, -, -, -, -, -, -, hSB, hBH, -⟩ := id q1
    refine va_sld q1.1 q1.2.1 q2.2.2.1 (Nat.lt_of_lt_of_le hSB hBH) (Nat.not_le.mpr hSB) q2.2.1 i1 hd ?_
    rw [i2, show ((i.toNat : Nat) : Int) = i by omega]
    have h9 := (q2.1.2.1 3000 i).1 (by show isL 3000 i = false; unfold isL; rw [hs]; rfl)
    exact kw p e R s m args below meth cd H locs cells slots mc ms lc q1 q2 q3 q4 q5 (wf_push (wf_of_i h9.1 h9.2) (fun w hw => List.mem_cons_of_mem _ (List.mem_cons_of_mem _ hw)) q6)
theorem ws_bald {pc : Nat} (hd : decode (mB y) pc = .ok (.baload, 1)) {ls st : List VV} {al : AL} {μ : MM} (k1 : wgo (WX l g y Φ) pc 1 (ard (fun k => Nat.beq k 21 || Nat.beq k 23) 0 rdb ls st al μ)) : WX l g y Φ pc ls st al μ := by
  refine ard_un k1 fun i r st' est hk ho hi kw => ?_
  subst est
  simp only [Bool.or_eq_true] at hk
  rcases hk with hk | hk
  · have hs := Nat.eq_of_beq_eq_true hk
    rw [alen_of (by omega)] at hi
    rcases sh_21 hs with ⟨kk, rfl, hkk⟩ | ⟨j, hj, rfl⟩
    · rw [rdb_id hkk] at kw
      exact rd_arr (c := 21) (tt := 1) (ty := .byte) (by omega) (by omega) (by omega) rfl hkk hs ho hi (fun p e R s m args below meth cd H locs cells slots Qs lc rest ws a n f x C hP ha hin k => va_bald C.1 C.2.1 C.2.2.2.2.2.2.2.2.2.1 hP kk 1 ha rfl hin hd k) kw
    · rw [rdb_sb hj] at kw
      rw [sh_sb hj] at hi
      intro p e R s m args below meth cd H locs cells slots mc ms lc q1 q2 q3 q4 q5 q6
      have hr := (q6 (0, i) List.mem_cons_self).1 rfl
      obtain ⟨i1, i2⟩ := ix_ok hr hi
      obtain ⟨-, -, -, -, -, -, -, -, -, -, -, -, -, -, hS, -⟩ := id q1
      show W p l e R s m args below meth cd H locs cells slots _ (F0 m pc lc (.int (Int32.ofInt i) :: rfv g ((2000 + j : Nat) : Int) :: st'.map (cv g)))
      rw [rfv_sb g hj]
      have h9 := sb_rng j i.toNat
      refine va_tb q1.1 q1.2.1 (hS.1 j hj).2.2.2 q2.2.1 (by rw [sbN_at hj]; exact i1) (v := .int (Int32.ofInt ((sbT.get j).getD i.toNat 0))) (by rw [i2, sbL_at hj]) hd ?_
      exact kw p e R s m args below meth cd H locs cells slots mc ms lc q1 q2 q3 q4 q5 (wf_push (wf_of_i h9.1 h9.2) (fun w hw => List.mem_cons_of_mem _ (List.mem_cons_of_mem _ hw)) q6)
  · have hs := Nat.eq_of_beq_eq_true hk
    obtain ⟨kk, rfl, hkk⟩ := sh_small hs (by omega) (by omega) (by omega) (by omega)
    rw [alen_of (by omega)] at hi
    rw [rdb_id hkk] at kw
    exact rd_arr (c := 23) (tt := 3) (ty := .boolean) (by omega) (by omega) (by omega) rfl hkk hs ho hi (fun p e R s m args below meth cd H locs cells slots Qs lc rest ws a n f x C hP ha hin k => va_zald C.1 C.2.1 C.2.2.2.2.2.2.2.2.2.1 hP kk 3 ha rfl hin hd k) kw
theorem ws_cald {pc : Nat} (hd : decode (mB y) pc = .ok (.caload, 1)) {ls st : List VV} {al : AL} {μ : MM} (k1 : wgo (WX l g y Φ) pc 1 (ard (fun k => Nat.beq k 22) 0 (fun μ r i => μ r i) ls st al μ)) : WX l g y Φ pc ls st al μ := by
  refine ard_un k1 fun i r st' est hk ho hi kw => ?_
  subst est
  have hs := Nat.eq_of_beq_eq_true hk
  obtain ⟨kk, rfl, hkk⟩ := sh_small hs (by omega) (by omega) (by omega) (by omega)
  rw [alen_of (by omega)] at hi
  exact rd_arr (c := 22) (tt := 2) (ty := .char) (by omega) (by omega) (by omega) rfl hkk hs ho hi (fun p e R s m args below meth cd H locs cells slots Qs lc rest ws a n f x C hP ha hin k => va_cald C.1 C.2.1 C.2.2.2.2.2.2.2.2.2.1 hP kk 2 ha rfl hin hd k) kw
theorem ws_lald {pc : Nat} (hd : decode (mB y) pc = .ok (.laload, 1)) {ls st : List VV} {al : AL} {μ : MM} (k1 : wgo (WX l g y Φ) pc 1 (ard (fun k => Nat.beq k 24) 1 (fun μ r i => μ r i) ls st al μ)) : WX l g y Φ pc ls st al μ := by
  refine ard_un k1 fun i r st' est hk ho hi kw => ?_
  subst est
  have hs := Nat.eq_of_beq_eq_true hk
  obtain ⟨kk, rfl, hkk⟩ := sh_small hs (by omega) (by omega) (by omega) (by omega)
  rw [alen_of (by omega)] at hi
  intro p e R s m args below meth cd H locs cells slots mc ms lc q1 q2 q3 q4 q5 q6
  have hr := (q6 (0, i) List.mem_cons_self).1 rfl
  obtain ⟨i1, i2⟩ := ix_ok hr hi
  show W p l e R s m args below meth cd H locs cells slots _ (F0 m pc lc (.int (Int32.ofInt i) :: rfv g ((kk : Int) + 1) :: st'.map (cv g)))
  rw [rfv_id g hkk]
  refine va_lald q1.1 q1.2.1 q1.2.2.2.2.2.2.2.2.2.1 q2.1.1 kk 4 (by rw [wl_get g μ (okr_cnt ho hkk), ceE_lng hs]) rfl i1 hd ?_
  rw [i2, show ((i.toNat : Nat) : Int) = i by omega]
  have h9 := (q2.1.2.1 ((kk : Int) + 1) i).2
  exact kw p e R s m args below meth cd H locs cells slots mc ms lc q1 q2 q3 q4 q5 (wf_push (wf_of_l h9.1 h9.2) (fun w hw => List.mem_cons_of_mem _ (List.mem_cons_of_mem _ hw)) q6)
end
