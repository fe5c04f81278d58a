section
variable {l : Launch} {g : GG} {y : Nat} {Q : QQ} {Φ : PHI}
theorem sp_word (hy : y < 286) {k z : Nat} (h : chkSp y k z = true) (hz : ¬ z < 1000) : Cond.methodLink (mN y).cls k (mlN z) ∈ TG ∧ 1 ≤ mFr y ∧ 40 ≤ mLo y := by
  have hc := raAll_get mlT (lky y k) ml_ok
  unfold chkSp at h
  generalize mlT.get (lky y k) = e at h hc
  obtain ⟨key, z', nb, ps⟩ := e
  simp only [Bool.and_eq_true, Bool.not_eq_true'] at h
  obtain ⟨⟨⟨⟨⟨h1, h2⟩, h3⟩, h4⟩, h5⟩, h6⟩ := h
  have e1 := Nat.eq_of_beq_eq_true h1
  have e2 := Nat.blt_eq.mp h2
  have e3 := Nat.eq_of_beq_eq_true h3
  subst e1; subst e3; subst h6
  obtain ⟨d1, d2⟩ := ky_div y k e2
  unfold mlC at hc
  simp only [mlW, cond_false, d1, d2, ← on_y hy, decide_eq_true_eq] at hc
  exact ⟨TG_of TMl_in (by decide +kernel) (List.mem_of_getElem? hc), Nat.le_of_ble_eq_true h4, Nat.le_of_ble_eq_true h5⟩
set_option maxRecDepth 100000 in
theorem oi_code : Cond.code Lib.objectInit ⟨#[0xb1]⟩ 1 none ∈ TG := List.mem_filter.mpr ⟨List.mem_of_getElem? (i := 135) (by rfl), rfl⟩
theorem oi_inst : Cond.instanceMethod Lib.objectInit ∈ TG := TG_of TIl_in (by decide +kernel) (by decide +kernel)
theorem ws_oi (hy : y < 286) {k pc : Nat} {u v : Int} (hd : decode (mB y) pc = .ok (.invokespecial k, 3)) (hc : chkSp y k 1000 = true) {ls st : List VV} {al : AL} {μ : MM} (k1 : wgo (WX l g y Φ) pc 3 (stp y (.invokespecial k) 1000 u v ls st al μ)) : WX l g y Φ pc ls st al μ := by
  obtain ⟨hw, hf, hl⟩ := sp_word hy hc (by decide)
  unfold stp at k1
  simp only [show Nat.beq 1000 1000 = true from rfl, cond_true] at k1
  split at k1
  · rename_i r st
    cases hb : (Nat.blt (sh r).1 13 && okr al r && Nat.ble ((st.map (fun v => if v.1 = 1 then 2 else 1)).sum) 8) with
    | false => rw [hb] at k1; exact k1.elim
    | true =>
      rw [hb] at k1
      simp only [Bool.and_eq_true] at hb
      have k1 : WX l g y Φ (pc + 3) ls st al μ := k1
      have h13 := Nat.blt_eq.mp hb.1.1
      obtain ⟨kk, rfl, hkk⟩ := sh_small (r := r) (c := (sh r).1) rfl (by omega) (by omega) (by omega) (by omega)
      intro p e R s m args below meth cd H locs cells slots mc ms lc q1 q2 q3 q4 q5 q6
      have hts := q1.2.2.2.2.2.2.2.1
      have hRm := q1.2.2.2.2.2.2.2.2.1
      have h8 := Nat.le_of_ble_eq_true hb.2
      refine W.objInit q1.1 q1.2.1 q1.2.2.2.2.2.1 (hts _ hw) (hts _ oi_inst) (hts _ oi_code) (g := F0 m pc lc (((2, (kk : Int) + 1) :: st).map (cv g))) rfl (q4.2.1.trans q1.2.2.2.2.1.symm) (a := gB g + kk) (rest := st.map (cv g)) (by rw [List.map_cons, cv_ref, rfv_id g hkk]) hd (by omega) ?_ ?_
      · show 2 * 0 + _ + 12 ≤ _
        rw [cat_sum q1.ref]
        omega
      · exact k1 p e R s m args below meth cd H locs cells slots mc ms lc q1 q2 q3 q4 q5 (fun v hv => q6 v (List.mem_cons_of_mem _ hv))
  · exact k1.elim
theorem ckl20 (hy : y < 286) {k n : Nat} (h : (match ckT.get (lky y k) with | (key, c, _) => Nat.beq key (lky y k) && Nat.blt k 10000 && Nat.beq c 20 && Nat.beq n 0) = true) : n = 0 ∧ Cond.classLink (mN y).cls k "[I" ∈ TG := by
  have hc := raAll_get ckT (lky y k) ckl_ok
  generalize ckT.get (lky y k) = e at h hc
  obtain ⟨key, c, ps⟩ := e
  simp only [Bool.and_eq_true] at h
  obtain ⟨⟨⟨h1, h2⟩, h3⟩, h4⟩ := h
  have e1 := Nat.eq_of_beq_eq_true h1
  have e2 := Nat.blt_eq.mp h2
  have e3 := Nat.eq_of_beq_eq_true h3
  subst e1; subst e3
  obtain ⟨d1, d2⟩ := ky_div y k e2
  unfold ckC at hc
  simp only [ckW, d1, d2, ← on_y hy, decide_eq_true_eq] at hc
  exact ⟨Nat.eq_of_beq_eq_true h4, TG_of TKl_in (by decide +kernel) (List.mem_of_getElem? hc)⟩
theorem ws_castc (hy : y < 286) {k n pc : Nat} {u v : Int} (hd : decode (mB y) pc = .ok (.checkcast k, 3)) (hc : (match ckT.get (lky y k) with | (key, c, _) => Nat.beq key (lky y k) && Nat.blt k 10000 && Nat.beq c 20 && Nat.beq n 0) = true) {ls st : List VV} {al : AL} {μ : MM} (k1 : wgo (WX l g y Φ) pc 3 (stp y (.checkcast k) n u v ls st al μ)) : WX l g y Φ pc ls st al μ := by
  obtain ⟨rfl, hw⟩ := ckl20 hy hc
  unfold stp at k1
  simp only at k1
  split at k1
  · rename_i r st _
    cases hb : (Nat.beq (sh r).1 20 && okr al r) with
    | false => rw [hb] at k1; exact k1.elim
    | true =>
      rw [hb] at k1
      simp only [Bool.and_eq_true] at hb
      have k1 : WX l g y Φ (pc + 3) ls ((2, r) :: st) al μ := k1
      have hs := Nat.eq_of_beq_eq_true hb.1
      obtain ⟨kk, rfl, hkk⟩ := sh_small hs (by omega) (by omega) (by omega) (by omega)
      intro p e R s m args below meth cd H locs cells slots mc ms lc q1 q2 q3 q4 q5 q6
      have fin := k1 p e R s m args below meth cd H locs cells slots mc ms lc q1 q2 q3 q4 q5 q6
      rw [List.map_cons, cv_ref, rfv_id g hkk] at fin ⊢
      have hK := q1.2.2.2.2.2.2.2.2.2.1
      exact va_castA q1.1 q1.2.1 q1.2.2.2.2.2.1 (q1.2.2.2.2.2.2.2.1 _ hw) q2.1.1 kk (by rw [wl_get g μ (okr_cnt hb.2 hkk), ceE_arr hs (by decide) (by decide) (by decide)]) (hK.2 0 _ rfl).2 hd fin
  · exact k1.elim
theorem ws_copy (hy : y < 286) {k pc : Nat} {u v : Int} (hd : decode (mB y) pc = .ok (.invokestatic k, 3)) (hc : chkSp y k 1001 = true) {ls st : List VV} {al : AL} {μ : MM} (k1 : wgo (WX l g y Φ) pc 3 (stp y (.invokestatic k) 1001 u v ls st al μ)) : WX l g y Φ pc ls st al μ := by
  obtain ⟨hw, hf, hl⟩ := sp_word hy hc (by decide)
  unfold stp at k1
  simp only [show Nat.beq 1001 1001 = true from rfl, cond_true] at k1
  split at k1
  · rename_i n j r' i r st
    cases hb : (Nat.beq (sh r).1 20 && Nat.beq (sh r').1 20 && Nat.blt r.toNat 1000 && Nat.blt r'.toNat 1000 && decide (¬ r = r') && okr al r && okr al r' && Nat.ble ((st.map (fun v => if v.1 = 1 then 2 else 1)).sum) 8) with
    | false => rw [hb] at k1; exact k1.elim
    | true =>
      rw [hb] at k1
      simp only [Bool.and_eq_true, decide_eq_true_eq] at hb
      obtain ⟨⟨⟨⟨⟨⟨⟨b1, b2⟩, -⟩, -⟩, b5⟩, b6⟩, b7⟩, b8⟩ := hb
      have k1 : (0 ≤ i ∧ 0 ≤ j ∧ 0 ≤ n ∧ i + n ≤ (sh r).2 ∧ j + n ≤ (sh r').2) ∧ WX l g y Φ (pc + 3) ls st al (mcopy μ r i r' j n) := k1
      obtain ⟨⟨c1, c2, c3, c4, c5⟩, k1⟩ := k1
      have hs := Nat.eq_of_beq_eq_true b1
      have hs' := Nat.eq_of_beq_eq_true b2
      obtain ⟨kk, rfl, hkk⟩ := sh_small hs (by omega) (by omega) (by omega) (by omega)
      obtain ⟨kq, rfl, hkq⟩ := sh_small hs' (by omega) (by omega) (by omega) (by omega)
      have hne : kk ≠ kq := fun q => b5 (by rw [q])
      intro p e R s m args below meth cd H locs cells slots mc ms lc q1 q2 q3 q4 q5 q6
      have hts := q1.2.2.2.2.2.2.2.1
      have hRm := q1.2.2.2.2.2.2.2.2.1
      have hK := q1.2.2.2.2.2.2.2.2.2.1
      have rn := (q6 (0, n) List.mem_cons_self).1 rfl
      have rj := (q6 (0, j) (List.mem_cons_of_mem _ List.mem_cons_self)).1 rfl
      have ri := (q6 (0, i) (by simp)).1 rfl
      have tn := i32_to rn.1 rn.2
      have tj := i32_to rj.1 rj.2
      have ti := i32_to ri.1 ri.2
      have nn : (Int32.ofInt n).toNatClampNeg = n.toNat := by show (Int32.ofInt n).toInt.toNat = _; rw [tn]
      have nj : (Int32.ofInt j).toNatClampNeg = j.toNat := by show (Int32.ofInt j).toInt.toNat = _; rw [tj]
      have ni : (Int32.ofInt i).toNatClampNeg = i.toNat := by show (Int32.ofInt i).toInt.toNat = _; rw [ti]
      have hcn := okr_cnt b6 hkk
      have hcq := okr_cnt b7 hkq
      have h8 := Nat.le_of_ble_eq_true b8
      show W p l e R s m args below meth cd H locs cells slots _ (F0 m pc lc (.int (Int32.ofInt n) :: .int (Int32.ofInt j) :: rfv g ((kq : Int) + 1) :: .int (Int32.ofInt i) :: rfv g ((kk : Int) + 1) :: st.map (cv g)))
      rw [rfv_id g hkk, rfv_id g hkq]
      refine va_copyi q1.1 q1.2.1 (q1.2.2.2.2.1.trans q4.2.1.symm) q1.2.2.2.2.2.1 (hts _ hw) (hts _ (TG_of TRl_in (by decide +kernel) (by decide +kernel))) (hts _ (TG_of TSl_in (by decide +kernel) (by decide +kernel))) (hts _ (TG_of TNl_in (by decide +kernel) (by decide +kernel))) hK q2.1.1 (wl_D g μ _) q2.2.1 kk kq 0 0 (by rw [wl_get g μ hcn, ceE_arr hs (by decide) (by decide) (by decide)]) (by rw [wl_get g μ hcq, ceE_arr hs' (by decide) (by decide) (by decide)]) rfl rfl rfl (by rw [Int32.lt_iff_toInt_lt, ti]; show ¬ i < 0; omega) (by rw [Int32.lt_iff_toInt_lt, tj]; show ¬ j < 0; omega) (by rw [Int32.lt_iff_toInt_lt, tn]; show ¬ n < 0; omega) (by rw [ni, nn]; omega) (by rw [nj, nn]; omega) (fun i _ => rfl) (by omega) (by
        rw [cat_sum q1.ref, show nativeFrameWords "java/lang/System" "arraycopy" 5 = 7 from by decide +kernel]
        omega) hd fun H1 locs1 hP1 _ hS1 => ?_
      have ee : ceE g (mcopy μ ((kk : Int) + 1) i ((kq : Int) + 1) j n) kq = .inl (gA g 20, (sh ((kq : Int) + 1)).2.toNat, .inl (va_cpy (fun j => Int32.ofInt (μ ((kk : Int) + 1) (j : Int))) (fun j => Int32.ofInt (μ ((kq : Int) + 1) (j : Int))) (Int32.ofInt i).toNatClampNeg (Int32.ofInt j).toNatClampNeg (Int32.ofInt n).toNatClampNeg)) := by
        rw [ceE_arr hs' (by decide) (by decide) (by decide), ni, nj, nn]
        congr 4
        funext b
        unfold va_cpy mcopy
        by_cases q : j.toNat ≤ b ∧ b < j.toNat + n.toNat
        · rw [if_pos ⟨rfl, by omega, by omega⟩, if_pos q]
          congr 2
          omega
        · rw [if_neg (by omega), if_neg q]
      have eo : ∀ b, b ≠ kq → ceE g (mcopy μ ((kk : Int) + 1) i ((kq : Int) + 1) j n) b = ceE g μ b := fun b hb => ceE_congr (fun x _ => by unfold mcopy; rw [if_neg (fun q => by omega)])
      rw [wl_set g (μ' := mcopy μ ((kk : Int) + 1) i ((kq : Int) + 1) j n) hcq ee eo] at hP1
      have hrow : ∀ a b, a ≠ (kq : Int) + 1 → mcopy μ ((kk : Int) + 1) i ((kq : Int) + 1) j n a b = μ a b := fun a b ha => by unfold mcopy; rw [if_neg (fun q => ha q.1)]
      have hwm : wfm (mcopy μ ((kk : Int) + 1) i ((kq : Int) + 1) j n) := by
        intro a b
        by_cases q : a = (kq : Int) + 1 ∧ j ≤ b ∧ b < j + n
        · have e1 : mcopy μ ((kk : Int) + 1) i ((kq : Int) + 1) j n a b = μ ((kk : Int) + 1) (i + (b - j)) := by unfold mcopy; rw [if_pos q]
          rw [e1]
          have h9 := q2.1.2.1 ((kk : Int) + 1) (i + (b - j))
          exact ⟨fun _ => h9.1 (isL_arr hs (by decide) (by decide)), h9.2⟩
        · have e1 : mcopy μ ((kk : Int) + 1) i ((kq : Int) + 1) j n a b = μ a b := by unfold mcopy; rw [if_neg q]
          rw [e1]
          exact q2.1.2.1 a b
      have hph : phS al (mcopy μ ((kk : Int) + 1) i ((kq : Int) + 1) j n) := by
        have h9 := q2.1.2.2.2
        match al, h9 with
        | some _, h9 => exact h9
        | none, h9 =>
          intro a b ha hb hcc
          rw [hrow a b (fun q => by rw [q, hs'] at ha; omega)]
          exact h9 a b ha hb hcc
      exact k1 p e R s m args below meth cd H1 locs1 cells slots mc ms lc q1 ⟨⟨hP1, hwm, fun a b h1 h2 => by rw [hrow a b (by omega)]; exact q2.1.2.2.1 a b h1 h2, hph⟩, hS1, ⟨by
        have h9 := q2.2.2.1
        have e1 : ∀ b, mcopy μ ((kk : Int) + 1) i ((kq : Int) + 1) j n 3000 b = μ 3000 b := fun b => hrow 3000 b (by omega)
        simp only [e1]
        exact h9, by rw [hrow 3000 _ (by omega)]; exact q2.2.2.2⟩⟩ q3 q4 q5 (fun v hv => q6 v (by simp [hv]))
  · exact k1.elim
end
