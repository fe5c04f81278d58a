section
variable {l : Launch} {g : GG} {y : Nat} {Q : QQ} {Φ : PHI}
set_option maxRecDepth 100000 in
theorem sh25 : (List.range 169).all (fun k => !(Nat.beq (sh ((k : Int) + 1)).1 25) || (Nat.beq k 82 && decide ((sh ((k : Int) + 1)).2 = 10))) = true := by decide +kernel
set_option maxRecDepth 100000 in
theorem shN : (List.range 169).all (fun k => decide (0 ≤ (sh ((k : Int) + 1)).2 ∧ (sh ((k : Int) + 1)).2 < 1000000)) = true := by decide +kernel
theorem shn {k : Nat} (h : k < 169) : 0 ≤ (sh ((k : Int) + 1)).2 ∧ (sh ((k : Int) + 1)).2 < 1000000 := of_decide_eq_true (List.all_eq_true.mp shN k (List.mem_range.mpr h))
theorem ws_aald {pc : Nat} (hd : decode (mB y) pc = .ok (.aaload, 1)) {ls st : List VV} {al : AL} {μ : MM} (k1 : wgo (WX l g y Φ) pc 1 (ard (fun k => Nat.beq k 25) 2 (fun _ r i => r + 1 + i) ls st al μ)) : WX l g y Φ pc ls st al μ := by
  refine ard_un k1 fun i r st' est hk ho hi kw => ?_
  subst est
  have hs := Nat.eq_of_beq_eq_true hk
  obtain ⟨kk, rfl, hkk⟩ := sh_small hs (by omega) (by omega) (by omega) (by omega)
  rw [alen_of (by omega)] at hi
  have h25 := List.all_eq_true.mp sh25 kk (List.mem_range.mpr hkk)
  simp only [hk, Bool.not_true, Bool.false_or, Bool.and_eq_true, decide_eq_true_eq] at h25
  have ek := Nat.eq_of_beq_eq_true h25.1
  subst ek
  have e10 := h25.2
  intro p e R s m args below meth cd H locs cells slots mc ms lc q1 q2 q3 q4 q5 q6
  have hr := (q6 (0, i) List.mem_cons_self).1 rfl
  obtain ⟨i1, i2⟩ := ix_ok hr hi
  show W p l e R s m args below meth cd H locs cells slots _ (F0 m pc lc (.int (Int32.ofInt i) :: rfv g (((82 : Nat) : Int) + 1) :: st'.map (cv g)))
  rw [rfv_id g hkk]
  have ha : (wl g μ (cnt al))[82]? = some (gB g + 82, .inl (gA g 25, (sh (((82 : Nat) : Int) + 1)).2.toNat, .inr (.inr (.inr (.inr (fun i => if i < (sh (((82 : Nat) : Int) + 1)).2.toNat then some (gB g + 82 + 1 + i) else none)))))) := by rw [wl_get g μ (okr_cnt ho hkk), ceE_rows hs]
  have hlt : (Int32.ofInt i).toNatClampNeg < (sh (((82 : Nat) : Int) + 1)).2.toNat := Nat.not_le.mp fun q => i1 (Or.inr q)
  have hK := q1.2.2.2.2.2.2.2.2.2.1
  refine W.aald (v := rfv g (((82 : Nat) : Int) + 1 + 1 + i)) (ty := .array .int) q1.1 q1.2.1 (q2.1.1 82 _ ha) ((hK.2 5 _ rfl).1 _ _) rfl (fun q => by cases q) (by show ¬ (_ ∨ (arrV _ _ _).slots.size ≤ _); rw [arrV_size]; exact i1) (by
    show (arrV _ _ _).slots[_]? = _
    rw [arrV_read _ _ hlt]
    show some (va_rf (if (Int32.ofInt i).toNatClampNeg < (sh (((82 : Nat) : Int) + 1)).2.toNat then some (gB g + 82 + 1 + (Int32.ofInt i).toNatClampNeg) else none)) = _
    rw [if_pos hlt, i2, show (((82 : Nat) : Int) + 1 + 1 + i) = ((83 + i.toNat : Nat) : Int) + 1 by omega, rfv_id g (by omega), show gB g + 82 + 1 + i.toNat = gB g + (83 + i.toNat) by omega]
    rfl) rfl rfl hd ?_
  exact kw p e R s m args below meth cd H locs cells slots mc ms lc q1 q2 q3 q4 q5 (wf_push (wf_r (by omega)) (fun w hw => List.mem_cons_of_mem _ (List.mem_cons_of_mem _ hw)) q6)
theorem awr_un {k t pc : Nat} {f : Int → Option Prop} {ls st : List VV} {al : AL} {μ : MM} (k1 : wgo (WX l g y Φ) pc 1 (awr k t f ls st al μ)) (kk : ∀ (x i r : Int) (st' : List VV), st = (t, x) :: (0, i) :: (2, r) :: st' → (sh r).1 = k → r.toNat < 1000 → okr al r = true → (0 ≤ i ∧ i < (sh r).2) → (∀ c, f x = some c → c) → WX l g y Φ (pc + 1) ls st' al (mup μ r i x) → WX l g y Φ pc ls st al μ) : WX l g y Φ pc ls st al μ := by
  unfold awr at k1
  split at k1
  · rename_i t' x i r st
    cases hb : (Nat.beq t' t && Nat.beq (sh r).1 k && Nat.blt r.toNat 1000 && okr al r) with
    | false => rw [hb] at k1; exact k1.elim
    | true =>
      rw [hb] at k1
      simp only [cond_true] at k1
      simp only [Bool.and_eq_true] at hb
      have et := Nat.eq_of_beq_eq_true hb.1.1.1
      subst et
      split at k1
      · rename_i ef
        have k1 : (0 ≤ i ∧ i < (sh r).2) ∧ WX l g y Φ (pc + 1) ls st al (mup μ r i x) := k1
        exact kk x i r st rfl (Nat.eq_of_beq_eq_true hb.1.1.2) (Nat.blt_eq.mp hb.1.2) hb.2 k1.1 (fun c hc => by rw [ef] at hc; cases hc) k1.2
      · rename_i c ef
        have k1 : ((0 ≤ i ∧ i < (sh r).2) ∧ c) ∧ WX l g y Φ (pc + 1) ls st al (mup μ r i x) := k1
        exact kk x i r st rfl (Nat.eq_of_beq_eq_true hb.1.1.2) (Nat.blt_eq.mp hb.1.2) hb.2 k1.1.1 (fun c' hc => by rw [ef] at hc; cases hc; exact k1.1.2) k1.2
  · exact k1.elim
theorem nar_of {ty : FieldType} {z : Int32} (h : narrow ty (.int z) = .int z) : vp_nar ty z = z := by
  unfold vp_nar
  rw [h]
theorem nar_byte8 {x : Int} (h : -128 ≤ x ∧ x ≤ 127) : narrow .byte (.int (Int32.ofInt x)) = .int (Int32.ofInt x) := by
  show Value.int _ = _
  congr 1
  rw [← Int32.toInt_inj, Int8.toInt_toInt32, Int32.toInt_toInt8, i32_to (by omega) (by omega), Int.bmod_def]
  omega
/-- writing an array of ours of ints, bytes, chars, booleans: its row given -/
theorem wr_arr {pc c : Nat} (h1 : ¬ c < 13) (h2 : c ≠ 24) (h3 : c ≠ 25) {kk : Nat} (hk : kk < 169) (hs : (sh ((kk : Int) + 1)).1 = c) {al : AL} (ho : okr al ((kk : Int) + 1) = true) {μ : MM} {i x : Int} (hi : 0 ≤ i ∧ i < (sh ((kk : Int) + 1)).2)
    (row : ∀ (p : Program) (e : Env) (R : Room) (s : State) (m : MethodId) (args : Array Value) (below : List Frame) (meth : Method) (cd : Code) (H : Heap) (locs : List Loc) (cells slots : Nat) (Qs : State → Prop) (lc : Array Slot) (rest : List Value) (ws : va_W) (a n : Nat) (f : Nat → Int32) (z : Int32), CX g y p R s m args meth cd → va_P (gC g, gI g) cls13 ws H → va_D (gP g) ws → va_S (gP g) s.heap H locs → ws[kk]? = some (a, .inl (gA g c, n, .inl f)) → vp_in z n →
      (∀ (H1 : Heap) (locs1 : List Loc), va_P (gC g, gI g) cls13 (ws.set kk (a, .inl (gA g c, n, .inl (upd f z.toNatClampNeg (Int32.ofInt x))))) H1 → va_S (gP g) s.heap H1 locs1 → W p l e R s m args below meth cd H1 locs1 cells slots Qs (F0 m (pc + 1) lc rest)) → W p l e R s m args below meth cd H locs cells slots Qs (F0 m pc lc (.int (Int32.ofInt x) :: .int z :: .ref a :: rest)))
    {ls st : List VV} (k1 : WX l g y Φ (pc + 1) ls st al (mup μ ((kk : Int) + 1) i x)) : WX l g y Φ pc ls ((0, x) :: (0, i) :: (2, (kk : Int) + 1) :: st) al μ := by
  intro p e R s m args below meth cd H locs cells slots mc ms lc q1 q2 q3 q4 q5 q6
  have hx := (q6 (0, x) List.mem_cons_self).1 rfl
  have hr := (q6 (0, i) (List.mem_cons_of_mem _ List.mem_cons_self)).1 rfl
  obtain ⟨i1, i2⟩ := ix_ok hr hi
  have hcn := okr_cnt ho hk
  show W p l e R s m args below meth cd H locs cells slots _ (F0 m pc lc (.int (Int32.ofInt x) :: .int (Int32.ofInt i) :: rfv g ((kk : Int) + 1) :: st.map (cv g)))
  rw [rfv_id g hk]
  refine row p e R s m args below meth cd H locs cells slots _ lc _ (wl g μ (cnt al)) (gB g + kk) _ _ _ q1 q2.1.1 (wl_D g μ _) q2.2.1 (by rw [wl_get g μ hcn, ceE_arr hs h1 h2 h3]) i1 fun H1 locs1 hP1 hS1 => ?_
  have ee : ceE g (mup μ ((kk : Int) + 1) i x) kk = .inl (gA g c, (sh ((kk : Int) + 1)).2.toNat, .inl (upd (fun j => Int32.ofInt (μ ((kk : Int) + 1) (j : Int))) (Int32.ofInt i).toNatClampNeg (Int32.ofInt x))) := by
    rw [ceE_arr hs h1 h2 h3, i2]
    congr 4
    funext j
    unfold upd
    by_cases q : j = i.toNat
    · rw [if_pos q, show ((j : Nat) : Int) = i by omega, mup_at]
    · rw [if_neg q, mup_pl (by omega)]
  rw [wl_set g (μ' := mup μ ((kk : Int) + 1) i x) hcn ee (fun j hj => ceE_other hj)] at hP1
  exact k1 p e R s m args below meth cd H1 locs1 cells slots mc ms lc q1 ⟨⟨hP1, wfm_mup q2.1.2.1 (fun _ => hx) (by simp only at hx; omega), zero_mup q2.1.2.2.1 hcn, phS_mup q2.1.2.2.2 (fun _ q => by rw [hs] at q; exact absurd q h1)⟩, hS1, SCR_mup q2.2.2 (by omega)⟩ q3 q4 q5 (fun v hv => q6 v (List.mem_cons_of_mem _ (List.mem_cons_of_mem _ (List.mem_cons_of_mem _ hv))))
theorem ws_iast {pc : Nat} (hd : decode (mB y) pc = .ok (.iastore, 1)) {ls st : List VV} {al : AL} {μ : MM} (k1 : wgo (WX l g y Φ) pc 1 (awr 20 0 (fun _ => none) ls st al μ)) : WX l g y Φ pc ls st al μ := by
  refine awr_un k1 fun x i r st' est hs h3 ho hi _ kw => ?_
  subst est
  obtain ⟨kk, rfl, hkk⟩ := sh_small hs (by omega) (by omega) (by omega) (by omega)
  exact wr_arr (c := 20) (by omega) (by omega) (by omega) hkk hs ho hi (fun p e R s m args below meth cd H locs cells slots Qs lc rest ws a n f z C hP hD hS ha hin k => va_iast C.1 C.2.1 C.2.2.2.2.2.2.2.2.2.1 hP hD hS kk 0 ha rfl hin hd (fun H1 locs1 a1 _ a3 => k H1 locs1 a1 a3)) kw
theorem ws_bast {pc : Nat} (hd : decode (mB y) pc = .ok (.bastore, 1)) {ls st : List VV} {al : AL} {μ : MM} (k1 : wgo (WX l g y Φ) pc 1 (awr 21 0 (fun x => some (-128 ≤ x ∧ x ≤ 127)) ls st al μ)) : WX l g y Φ pc ls st al μ := by
  refine awr_un k1 fun x i r st' est hs h3 ho hi hc kw => ?_
  subst est
  have hc := hc _ rfl
  obtain ⟨kk, rfl, hkk⟩ := sh_id (by omega) (by omega) (by omega) h3
  exact wr_arr (c := 21) (by omega) (by omega) (by omega) hkk hs ho hi (fun p e R s m args below meth cd H locs cells slots Qs lc rest ws a n f z C hP hD hS ha hin k => va_bast C.1 C.2.1 C.2.2.2.2.2.2.2.2.2.1 hP hD hS kk 1 ha rfl hin hd (fun H1 locs1 a1 _ a3 => k H1 locs1 (by rw [nar_of (nar_byte8 hc)] at a1; exact a1) a3)) kw
theorem ws_zast {pc : Nat} (hd : decode (mB y) pc = .ok (.bastore, 1)) {ls st : List VV} {al : AL} {μ : MM} (k1 : wgo (WX l g y Φ) pc 1 (awr 23 0 (fun x => some (x = 0 ∨ x = 1)) ls st al μ)) : WX l g y Φ pc ls st al μ := by
  refine awr_un k1 fun x i r st' est hs h3 ho hi hc kw => ?_
  subst est
  have hc := hc _ rfl
  obtain ⟨kk, rfl, hkk⟩ := sh_id (by omega) (by omega) (by omega) h3
  exact wr_arr (c := 23) (by omega) (by omega) (by omega) hkk hs ho hi (fun p e R s m args below meth cd H locs cells slots Qs lc rest ws a n f z C hP hD hS ha hin k => va_zast C.1 C.2.1 C.2.2.2.2.2.2.2.2.2.1 hP hD hS kk 3 ha rfl hin hd (fun H1 locs1 a1 _ a3 => k H1 locs1 (by rw [nar_of (nar_bool hc).1] at a1; exact a1) a3)) kw
theorem ws_cast {pc : Nat} (hd : decode (mB y) pc = .ok (.castore, 1)) {ls st : List VV} {al : AL} {μ : MM} (k1 : wgo (WX l g y Φ) pc 1 (awr 22 0 (fun x => some (0 ≤ x ∧ x ≤ 65535)) ls st al μ)) : WX l g y Φ pc ls st al μ := by
  refine awr_un k1 fun x i r st' est hs h3 ho hi hc kw => ?_
  subst est
  have hc := hc _ rfl
  obtain ⟨kk, rfl, hkk⟩ := sh_id (by omega) (by omega) (by omega) h3
  exact wr_arr (c := 22) (by omega) (by omega) (by omega) hkk hs ho hi (fun p e R s m args below meth cd H locs cells slots Qs lc rest ws a n f z C hP hD hS ha hin k => va_cast C.1 C.2.1 C.2.2.2.2.2.2.2.2.2.1 hP hD hS kk 2 ha rfl hin hd (fun H1 locs1 a1 _ a3 => k H1 locs1 (by rw [nar_of (nar_char hc).1] at a1; exact a1) a3)) kw
theorem ws_last {pc : Nat} (hd : decode (mB y) pc = .ok (.lastore, 1)) {ls st : List VV} {al : AL} {μ : MM} (k1 : wgo (WX l g y Φ) pc 1 (awr 24 1 (fun _ => none) ls st al μ)) : WX l g y Φ pc ls st al μ := by
  refine awr_un k1 fun x i r st' est hs h3 ho hi _ kw => ?_
  subst est
  obtain ⟨kk, rfl, hk⟩ := sh_id (by omega) (by omega) (by omega) h3
  intro p e R s m args below meth cd H locs cells slots mc ms lc q1 q2 q3 q4 q5 q6
  have hx := (q6 (1, x) List.mem_cons_self).2.1 rfl
  have hr := (q6 (0, i) (List.mem_cons_of_mem _ List.mem_cons_self)).1 rfl
  obtain ⟨i1, i2⟩ := ix_ok hr hi
  have hcn := okr_cnt ho hk
  show W p l e R s m args below meth cd H locs cells slots _ (F0 m pc lc (.long (Int64.ofInt x) :: .int (Int32.ofInt i) :: rfv g ((kk : Int) + 1) :: st'.map (cv g)))
  rw [rfv_id g hk]
  refine va_last q1.1 q1.2.1 q1.2.2.2.2.2.2.2.2.2.1 q2.1.1 (wl_D g μ _) q2.2.1 kk 4 (by rw [wl_get g μ hcn, ceE_lng hs]) rfl i1 hd fun H1 locs1 hP1 _ hS1 => ?_
  have ee : ceE g (mup μ ((kk : Int) + 1) i x) kk = .inl (gA g 24, (sh ((kk : Int) + 1)).2.toNat, .inr (.inl (vp_updL (fun j => Int64.ofInt (μ ((kk : Int) + 1) (j : Int))) (Int32.ofInt i).toNatClampNeg (Int64.ofInt x)))) := by
    rw [ceE_lng hs, i2]
    congr 5
    funext j
    unfold vp_updL
    by_cases q : j = i.toNat
    · rw [if_pos q, show ((j : Nat) : Int) = i by omega, mup_at]
    · rw [if_neg q, mup_pl (by omega)]
  rw [wl_set g (μ' := mup μ ((kk : Int) + 1) i x) hcn ee (fun j hj => ceE_other hj)] at hP1
  have hLt : isL ((kk : Int) + 1) i = true := by unfold isL; rw [hs]; rfl
  exact kw p e R s m args below meth cd H1 locs1 cells slots mc ms lc q1 ⟨⟨hP1, wfm_mup q2.1.2.1 (fun q => by rw [hLt] at q; cases q) hx, zero_mup q2.1.2.2.1 hcn, phS_mup q2.1.2.2.2 (fun _ q => by rw [hs] at q; exact absurd q (by decide))⟩, hS1, SCR_mup q2.2.2 (by omega)⟩ q3 q4 q5 (fun v hv => q6 v (List.mem_cons_of_mem _ (List.mem_cons_of_mem _ (List.mem_cons_of_mem _ hv))))
theorem ofN_ofI {n : Int} (h : 0 ≤ n) : Int32.ofNat n.toNat = Int32.ofInt n := by
  rw [← Int32.ofInt_eq_ofNat, show ((n.toNat : Nat) : Int) = n by omega]
theorem ws_alen {pc n : Nat} {u v : Int} (hd : decode (mB y) pc = .ok (.arraylength, 1)) {ls st : List VV} {al : AL} {μ : MM} (k1 : wgo (WX l g y Φ) pc 1 (stp y .arraylength n u v ls st al μ)) : WX l g y Φ pc ls st al μ := by
  unfold stp at k1
  simp only at k1
  split at k1
  · rename_i r st
    cases hb : (Nat.ble 20 (sh r).1 && Nat.ble (sh r).1 26 && okr al r) with
    | false => rw [hb] at k1; exact k1.elim
    | true =>
      rw [hb] at k1
      simp only [Bool.and_eq_true] at hb
      have b1 := Nat.le_of_ble_eq_true hb.1.1
      have b2 := Nat.le_of_ble_eq_true hb.1.2
      have k1 : WX l g y Φ (pc + 1) ls ((0, alen μ r) :: st) al μ := k1
      by_cases h26 : (sh r).1 = 26
      · have er := sh_26 h26
        subst er
        intro p e R s m args below meth cd H locs cells slots mc ms lc q1 q2 q3 q4 q5 q6
        obtain ⟨-, -, -, -, -, -, -, -, -, -, -, -, -, -, -, -, -, -, -, -, -, hSB, hBH, -⟩ := id q1
        have hL := q2.2.2
        refine va_slen q1.1 q1.2.1 hL.1 (Nat.lt_of_lt_of_le hSB hBH) (Nat.not_le.mpr hSB) q2.2.1 hd ?_
        rw [ofN_ofI hL.2.1]
        exact k1 p e R s m args below meth cd H locs cells slots mc ms lc q1 q2 q3 q4 q5 (wf_push (wf_of_i (by show -2147483648 ≤ μ 3000 (-1); have := hL.2.1; omega) hL.2.2) (fun w hw => List.mem_cons_of_mem _ hw) q6)
      · rw [alen_of h26] at k1
        have ours : (∃ k : Nat, r = (k : Int) + 1 ∧ k < 169) → WX l g y Φ pc ls ((2, r) :: st) al μ := by
          rintro ⟨kk, rfl, hk⟩
          have hn := shn hk
          intro p e R s m args below meth cd H locs cells slots mc ms lc q1 q2 q3 q4 q5 q6
          have fin := k1 p e R s m args below meth cd H locs cells slots mc ms lc q1 q2 q3 q4 q5 (wf_push (wf_of_i (by omega) (by omega)) (fun w hw => List.mem_cons_of_mem _ hw) q6)
          show W p l e R s m args below meth cd H locs cells slots _ (F0 m pc lc (rfv g ((kk : Int) + 1) :: st.map (cv g)))
          rw [rfv_id g hk]
          have hg := wl_get g μ (okr_cnt hb.2 hk)
          have hK := q1.2.2.2.2.2.2.2.2.2.1
          have ev := ofN_ofI hn.1
          rcases (show (sh ((kk : Int) + 1)).1 = 20 ∨ (sh ((kk : Int) + 1)).1 = 21 ∨ (sh ((kk : Int) + 1)).1 = 22 ∨ (sh ((kk : Int) + 1)).1 = 23 ∨ (sh ((kk : Int) + 1)).1 = 24 ∨ (sh ((kk : Int) + 1)).1 = 25 by omega) with hs | hs | hs | hs | hs | hs
          · exact va_alen q1.1 q1.2.1 hK q2.1.1 kk 0 (by rw [hg, ceE_arr hs (by omega) (by omega) (by omega)]) rfl ev hd fin
          · exact va_alen q1.1 q1.2.1 hK q2.1.1 kk 1 (by rw [hg, ceE_arr hs (by omega) (by omega) (by omega)]) rfl ev hd fin
          · exact va_alen q1.1 q1.2.1 hK q2.1.1 kk 2 (by rw [hg, ceE_arr hs (by omega) (by omega) (by omega)]) rfl ev hd fin
          · exact va_alen q1.1 q1.2.1 hK q2.1.1 kk 3 (by rw [hg, ceE_arr hs (by omega) (by omega) (by omega)]) rfl ev hd fin
          · exact va_alen q1.1 q1.2.1 hK q2.1.1 kk 4 (by rw [hg, ceE_lng hs]) rfl ev hd fin
          · exact va_alen q1.1 q1.2.1 hK q2.1.1 kk 5 (by rw [hg, ceE_rows hs]) rfl ev hd fin
        by_cases h21 : (sh r).1 = 21
        · rcases sh_21 h21 with h | ⟨j, hj, rfl⟩
          · exact ours h
          · rw [sh_sb hj] at k1
            intro p e R s m args below meth cd H locs cells slots mc ms lc q1 q2 q3 q4 q5 q6
            obtain ⟨-, -, -, -, -, -, -, -, -, -, -, -, -, -, hS, -⟩ := id q1
            show W p l e R s m args below meth cd H locs cells slots _ (F0 m pc lc (rfv g ((2000 + j : Nat) : Int) :: st.map (cv g)))
            rw [rfv_sb g hj]
            have hlen : (sbT.get j).length < 1000 := by
              have hall : raAll (fun e : List Int => Nat.blt e.length 1000) sbT = true := by decide +kernel
              exact Nat.blt_eq.mp (raAll_get sbT j hall)
            refine va_tlen q1.1 q1.2.1 (hS.1 j hj).2.2.2 q2.2.1 (v := Int32.ofInt ((sbT.get j).length : Int)) (by rw [sbN_at hj]; exact (Int32.ofInt_eq_ofNat).symm) hd ?_
            exact k1 p e R s m args below meth cd H locs cells slots mc ms lc q1 q2 q3 q4 q5 (wf_push (wf_of_i (by omega) (by omega)) (fun w hw => List.mem_cons_of_mem _ hw) q6)
        · exact ours (sh_small rfl (by omega) (by omega) h21 h26)
  · exact k1.elim
end
