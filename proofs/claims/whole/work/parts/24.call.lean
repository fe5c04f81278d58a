section
variable {l : Launch} {g : GG} {y : Nat} {Q : QQ} {Φ : PHI}
theorem chM_parts {z : Nat} (h1 : 1 ≤ z) (hz : z < 286) : ((mN z).cls ≠ "java/lang/invoke/MethodHandle" ∧ (mN z).cls ≠ "java/lang/invoke/VarHandle") ∧ Cond.initialized (mN z).cls ∈ TG ∧ (mcT.get z = 99 → Cond.static (mN z) ∈ TG) ∧ (mcT.get z ≠ 99 → Cond.instanceMethod (mN z) ∈ TG ∧ (bif Nat.blt (mcT.get z) 13 then cNm (mcT.get z) else "java/lang/String") = (mN z).cls ∧ mcT.get z ≤ 13 ∧ ((mN z).name = "<init>" ∨ Cond.selects (mN z).cls (mN z) (mN z) ∈ TG)) := by
  have hM := chM_all h1 hz
  simp only [chkM, Bool.and_eq_true, decide_eq_true_eq] at hM
  obtain ⟨⟨⟨⟨⟨-, -⟩, h3⟩, h4⟩, h5⟩, h6⟩ := hM
  refine ⟨⟨h3, h4⟩, TG_of TNl_in (by decide +kernel) h5, fun q => ?_, fun q => ?_⟩
  · rw [q] at h6
    exact TG_of TSl_in (by decide +kernel) (of_decide_eq_true h6)
  · have e : Nat.beq (mcT.get z) 99 = false := by
      cases hb : Nat.beq (mcT.get z) 99 with
      | false => rfl
      | true => exact absurd (Nat.eq_of_beq_eq_true hb) q
    rw [e] at h6
    simp only [cond_false, Bool.and_eq_true, decide_eq_true_eq, Bool.or_eq_true] at h6
    obtain ⟨⟨⟨a1, a2⟩, a3⟩, a4⟩ := h6
    exact ⟨TG_of TIl_in (by decide +kernel) a1, a2, Nat.le_of_ble_eq_true a3, a4.imp id (fun w => TG_of TVl_in (by decide +kernel) w)⟩
theorem st_split (g : GG) (u : Nat) (st : List VV) : st.map (cv g) = (((st.take u).reverse).map (cv g)).reverse ++ (st.drop u).map (cv g) := by
  rw [← List.map_reverse, List.reverse_reverse, ← List.map_append, List.take_append_drop]
theorem take_wf {u : Nat} {st : List VV} (h : ∀ v ∈ st, wfv v) : ∀ v ∈ (st.take u).reverse, wfv v := fun v hv => h v (List.mem_of_mem_take (List.mem_reverse.mp hv))
theorem drop_wf {u : Nat} {st : List VV} (h : ∀ v ∈ st, wfv v) : ∀ v ∈ st.drop u, wfv v := fun v hv => h v (List.mem_of_mem_drop hv)
theorem ws_static (hy : y < 286) {k n pc : Nat} {u v : Int} (hd : decode (mB y) pc = .ok (.invokestatic k, 3)) (hc : chkCall y k n u v false = true) {ls st : List VV} {al : AL} {μ : MM} (h : wcall (zcl (WS l g)) false y (WX l g y Φ) pc n u v ls st al μ) : WX l g y Φ pc ls st al μ := by
  obtain ⟨hrc, hlen, hcat8, hn, a, f, hal, hW⟩ := wcall_un h
  obtain ⟨hlk, hfr, hlo, hpar, hu, hv, h1n, -⟩ := ml_word hy hc
  unfold rcv at hrc
  simp only [Bool.and_eq_true] at hrc
  have hcat : catS (st.take u.toNat).reverse ≤ (miT.get n).1 := Nat.le_of_ble_eq_true hrc.1
  have hmc := Nat.eq_of_beq_eq_true hrc.2
  obtain ⟨hnm, hini, hstat, -⟩ := chM_parts h1n hn
  intro p e R s m args below meth cd H locs cells slots mc ms lc q1 q2 q3 q4 q5 q6 T hT X
  have hsz := sz_opt X hT q1 q2 q3
  have hM := met_of h1n hn hcat (alc_a hal) hW
  have hts := q1.2.2.2.2.2.2.2.1
  have hRm := q1.2.2.2.2.2.2.2.2.1
  have hpar' : (parseMethodDescriptor (mN n).desc).map (fun d => d.parameters.length) = some u.toNat := by rw [hpar]; simp
  have hAl : ((st.take u.toNat).reverse.map (cv g)).length = u.toNat := by simp; omega
  have hcr : 2 * (F0 m pc lc (st.map (cv g))).monitorRoom + (((st.drop u.toNat).map (cv g)).map fun v => v.category).sum ≤ 8 := lv_room (by rw [cat_sum q1.ref]; exact hcat8)
  have hPS : PreS s H (PcZ g a μ (st.take u.toNat).reverse) ((st.take u.toNat).reverse.map (cv g)) := ⟨PcZ_blind, pcz_of q1 q2 hal hsz (take_wf q6)⟩
  have hroom := alc_room hal q3
  refine run_cont (stR := st.drop u.toNat) (K' := fun r a' μ' => WX l g y Φ (pc + 3) ls (pshr v r (st.drop u.toNat)) (f a') μ') (A := ((st.take u.toNat).reverse.map (cv g)).toArray) q1 q2 q3 hal hsz hv q4 q5 (drop_wf q6) ?_ (fun x al' μ' hh => hh) T hT X
  rcases hlk with hlk | hlk
  · exact va_runS (Ts := TG) (own := (mN y).cls) ⟨q1.1, q1.2.1, q1.2.2.2.2.1, q1.2.2.2.2.2.1, hts⟩ hM ⟨callB_of u.toNat hts (good_z h1n hn) rfl rfl rfl (hts _ hini) (hts _ hlk) ⟨hnm.1, hnm.2, hpar'⟩ ⟨Nat.le_trans hfr hRm.1, Nat.le_trans hlo hRm.2⟩, hts _ (hstat hmc)⟩ hPS rfl hAl q4.2.1 (st_split g u.toNat st) hcr hd hroom
  · exact va_runSN (Ts := TG) (own := (mN y).cls) (host := "SixAcres") ⟨q1.1, q1.2.1, q1.2.2.2.2.1, q1.2.2.2.2.2.1, hts⟩ hM ⟨va_cnB u.toNat hts (good_z h1n hn) rfl rfl rfl (q1.2.2.2.2.2.2.2.2.2.2.1 _ hlk) (hts _ hini) ⟨hnm.1, hnm.2, hpar'⟩ ⟨Nat.le_trans hfr hRm.1, Nat.le_trans hlo hRm.2⟩, hts _ (hstat hmc), trivial⟩ hPS rfl hAl q4.2.1 (st_split g u.toNat st) hcr hd hroom
/-- the receiver -/
theorem rcv_of {n : Nat} {as : List VV} {al : AL} {μ : MM} {p : Program} {R : Room} {s : State} {m : MethodId} {args : Array Value} {meth : Method} {cd : Code} {H : Heap} {locs : List Loc} (h1n : 1 ≤ n) (hn : n < 286) (hmc : mcT.get n ≠ 99) {r : Int} (hs : (sh r).1 = mcT.get n) (ho : okr al r = true) (C : CX g y p R s m args meth cd) (hR : RP g al μ s H locs) : ∃ b : Nat, rfv g r = .ref b ∧ ∃ cell : Cell, H[b]? = some cell ∧ cell.vm.isStatics = false ∧ s.vm.findClass (mN n).cls = some cell.cls := by
  obtain ⟨-, -, -, hin⟩ := chM_parts h1n hn
  obtain ⟨-, hcls, h13, -⟩ := hin hmc
  by_cases hl : mcT.get n < 13
  · rw [show Nat.blt (mcT.get n) 13 = true from Nat.blt_eq.mpr hl] at hcls
    obtain ⟨kk, rfl, hkk⟩ := sh_small hs (by omega) (by omega) (by omega) (by omega)
    refine ⟨gB g + kk, rfv_id g hkk, ?_⟩
    have := va_recv (ci := mcT.get n) (q0 := kk) (a := gB g + kk) C.2.2.2.2.2.2.2.2.2.1 hR.1.1 (cls13_get hl) (by rw [wl_get g μ (okr_cnt ho hkk), ceE_obj hs hl])
    rw [← hcls]
    exact this
  · have e13 : mcT.get n = 13 := by omega
    rw [e13] at hs hcls
    obtain ⟨j, hj, rfl⟩ := sh_str hs
    obtain ⟨-, -, -, -, -, -, -, -, -, -, -, -, -, -, hS, -⟩ := id C
    refine ⟨gK g j, rfv_str g hj, ?_⟩
    rw [← hcls]
    exact vk_recv hS hj hR.2.1
theorem rcv_true {n : Nat} {al : AL} {as : List VV} (h : rcv al true n as = true) : catS as ≤ (miT.get n).1 ∧ mcT.get n ≠ 99 ∧ ∃ r as', as = (2, r) :: as' ∧ (sh r).1 = mcT.get n ∧ okr al r = true := by
  unfold rcv at h
  simp only [Bool.and_eq_true] at h
  refine ⟨Nat.le_of_ble_eq_true h.1, ?_⟩
  have h2 := h.2
  split at h2
  · rename_i r as'
    simp only [Bool.and_eq_true] at h2
    exact ⟨by have := Nat.le_of_ble_eq_true h2.1.2; omega, r, as', rfl, Nat.eq_of_beq_eq_true h2.1.1, h2.2⟩
  · cases h2
theorem ws_virtual (hy : y < 286) {k n pc : Nat} {u v : Int} (hd : decode (mB y) pc = .ok (.invokevirtual k, 3)) (hc : chkCall y k n u v true = true) (hnam : (mN n).name ≠ "<init>") (hmc : mcT.get n ≠ 99) {ls st : List VV} {al : AL} {μ : MM} (h : wcall (zcl (WS l g)) true y (WX l g y Φ) pc n u v ls st al μ) : WX l g y Φ pc ls st al μ := by
  obtain ⟨hrc, hlen, hcat8, hn, a, f, hal, hW⟩ := wcall_un h
  obtain ⟨hlk, hfr, hlo, hpar, hu, hv, h1n, -⟩ := ml_word hy hc
  obtain ⟨hcat, -, r, as', eas, hs, ho⟩ := rcv_true hrc
  obtain ⟨hnm, hini, -, hin⟩ := chM_parts h1n hn
  obtain ⟨hinst, -, -, hsel⟩ := hin hmc
  have hsel := hsel.resolve_left hnam
  intro p e R s m args below meth cd H locs cells slots mc ms lc q1 q2 q3 q4 q5 q6 T hT X
  have hsz := sz_opt X hT q1 q2 q3
  have hM := met_of h1n hn hcat (alc_a hal) hW
  have hts := q1.2.2.2.2.2.2.2.1
  have hRm := q1.2.2.2.2.2.2.2.2.1
  have hlenA : (st.take u.toNat).reverse.length = u.toNat := by simp; omega
  obtain ⟨b, hb, hrecv⟩ := rcv_of (y := y) h1n hn hmc hs ho q1 q2 (as := as')
  have hmap : (st.take u.toNat).reverse.map (cv g) = .ref b :: as'.map (cv g) := by rw [eas, List.map_cons, cv_ref, hb]
  have hl1 : as'.length + 1 = u.toNat := by rw [← hlenA, eas]; rfl
  have hpar' : (parseMethodDescriptor (mN n).desc).map (fun d => d.parameters.length) = some as'.length := by
    rw [hpar]
    congr 1
    show (u - 1).toNat = _
    omega
  have hcr : 2 * (F0 m pc lc (st.map (cv g))).monitorRoom + (((st.drop u.toNat).map (cv g)).map fun v => v.category).sum ≤ 8 := lv_room (by rw [cat_sum q1.ref]; exact hcat8)
  have hpz := pcz_of q1 q2 hal hsz (take_wf (u := u.toNat) q6)
  rw [hmap] at hpz
  have hPV : PreV s H (mN n).cls b (PcZ g a μ (st.take u.toNat).reverse) (as'.map (cv g)) := ⟨PcZ_blind, hrecv, hpz⟩
  have hstk : st.map (cv g) = (as'.map (cv g)).reverse ++ .ref b :: (st.drop u.toNat).map (cv g) := by
    rw [st_split g u.toNat st, hmap, List.reverse_cons, List.append_assoc]
    rfl
  have hroom := alc_room hal q3
  refine run_cont (stR := st.drop u.toNat) (K' := fun r a' μ' => WX l g y Φ (pc + 3) ls (pshr v r (st.drop u.toNat)) (f a') μ') (A := (Value.ref b :: as'.map (cv g)).toArray) q1 q2 q3 hal hsz hv q4 q5 (drop_wf q6) ?_ (fun x al' μ' hh => hh) T hT X
  rcases hlk with hlk | hlk
  · exact va_runV (Ts := TG) (own := (mN y).cls) (C := (mN n).cls) ⟨q1.1, q1.2.1, q1.2.2.2.2.1, q1.2.2.2.2.2.1, hts⟩ hM ⟨callB_of as'.length hts (good_z h1n hn) rfl rfl rfl (hts _ hini) (hts _ hlk) ⟨hnm.1, hnm.2, hpar'⟩ ⟨Nat.le_trans hfr hRm.1, Nat.le_trans hlo hRm.2⟩, hts _ hinst, hts _ hsel⟩ hPV rfl (by simp) q4.2.1 hstk hcr hd hroom
  · exact va_runVN (Ts := TG) (own := (mN y).cls) (C := (mN n).cls) (host := "SixAcres") ⟨q1.1, q1.2.1, q1.2.2.2.2.1, q1.2.2.2.2.2.1, hts⟩ hM ⟨va_cnB as'.length hts (good_z h1n hn) rfl rfl rfl (q1.2.2.2.2.2.2.2.2.2.2.1 _ hlk) (hts _ hini) ⟨hnm.1, hnm.2, hpar'⟩ ⟨Nat.le_trans hfr hRm.1, Nat.le_trans hlo hRm.2⟩, hts _ hinst, hts _ hsel⟩ hPV rfl (by simp) q4.2.1 hstk hcr hd hroom
theorem ws_special (hy : y < 286) {k n pc : Nat} {u v : Int} (hd : decode (mB y) pc = .ok (.invokespecial k, 3)) (hc : chkCall y k n u v true = true) (hnam : (mN n).name = "<init>") (hmc : mcT.get n ≠ 99) (hret : mRt n = none) {ls st : List VV} {al : AL} {μ : MM} (h : wcall (zcl (WS l g)) true y (WX l g y Φ) pc n u v ls st al μ) : WX l g y Φ pc ls st al μ := by
  obtain ⟨hrc, hlen, hcat8, hn, a, f, hal, hW⟩ := wcall_un h
  obtain ⟨hlk, hfr, hlo, hpar, hu, hv, h1n, -⟩ := ml_word hy hc
  obtain ⟨hcat, -, r, as', eas, hs, ho⟩ := rcv_true hrc
  obtain ⟨hnm, hini, -, hin⟩ := chM_parts h1n hn
  obtain ⟨hinst, -, -, -⟩ := hin hmc
  intro p e R s m args below meth cd H locs cells slots mc ms lc q1 q2 q3 q4 q5 q6 T hT X
  have hsz := sz_opt X hT q1 q2 q3
  have hM := met_of h1n hn hcat (alc_a hal) hW
  have hts := q1.2.2.2.2.2.2.2.1
  have hRm := q1.2.2.2.2.2.2.2.2.1
  have hlenA : (st.take u.toNat).reverse.length = u.toNat := by simp; omega
  obtain ⟨b, hb, -⟩ := rcv_of (y := y) h1n hn hmc hs ho q1 q2 (as := as')
  have hmap : (st.take u.toNat).reverse.map (cv g) = .ref b :: as'.map (cv g) := by rw [eas, List.map_cons, cv_ref, hb]
  have hl1 : as'.length + 1 = u.toNat := by rw [← hlenA, eas]; rfl
  have hpar' : (parseMethodDescriptor (mN n).desc).map (fun d => d.parameters.length) = some as'.length := by
    rw [hpar]
    congr 1
    show (u - 1).toNat = _
    omega
  have hcr : 2 * (F0 m pc lc (st.map (cv g))).monitorRoom + (((st.drop u.toNat).map (cv g)).map fun v => v.category).sum ≤ 8 := lv_room (by rw [cat_sum q1.ref]; exact hcat8)
  have hpz := pcz_of q1 q2 hal hsz (take_wf (u := u.toNat) q6)
  rw [hmap] at hpz
  have hPS : PreS s H (PcZ g a μ (st.take u.toNat).reverse) (.ref b :: as'.map (cv g)) := ⟨PcZ_blind, hpz⟩
  have hstk : st.map (cv g) = (as'.map (cv g)).reverse ++ .ref b :: (st.drop u.toNat).map (cv g) := by
    rw [st_split g u.toNat st, hmap, List.reverse_cons, List.append_assoc]
    rfl
  have hroom := alc_room hal q3
  have hgood := good_z h1n hn
  refine run_cont (stR := st.drop u.toNat) (K' := fun r a' μ' => WX l g y Φ (pc + 3) ls (pshr v r (st.drop u.toNat)) (f a') μ') (A := (Value.ref b :: as'.map (cv g)).toArray) q1 q2 q3 hal hsz hv q4 q5 (drop_wf q6) ?_ (fun x al' μ' hh => hh) T hT X
  have hw : (cWd n :: TG) = Cond.code (mN n) (mB n) (miT.get n).1 none :: TG := by rw [← hret]
  rcases hlk with hlk | hlk
  · exact va_runI (Ts := TG) (own := (mN y).cls) ⟨q1.1, q1.2.1, q1.2.2.2.2.1, q1.2.2.2.2.2.1, hts⟩ hM ⟨callB_of as'.length hts hgood hw rfl rfl (hts _ hini) (hts _ hlk) ⟨hnm.1, hnm.2, hpar'⟩ ⟨Nat.le_trans hfr hRm.1, Nat.le_trans hlo hRm.2⟩, hnam, hts _ hinst⟩ hPS rfl (by simp) q4.2.1 hstk hcr hd hroom
  · exact va_runIN (Ts := TG) (own := (mN y).cls) (host := "SixAcres") ⟨q1.1, q1.2.1, q1.2.2.2.2.1, q1.2.2.2.2.2.1, hts⟩ hM ⟨va_cnB as'.length hts hgood hw rfl rfl (q1.2.2.2.2.2.2.2.2.2.2.1 _ hlk) (hts _ hini) ⟨hnm.1, hnm.2, hpar'⟩ ⟨Nat.le_trans hfr hRm.1, Nat.le_trans hlo hRm.2⟩, hnam, hts _ hinst⟩ hPS rfl (by simp) q4.2.1 hstk hcr hd hroom
end
