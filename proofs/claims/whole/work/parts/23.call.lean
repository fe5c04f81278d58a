section
variable {l : Launch} {g : GG} {y : Nat} {Q : QQ} {Φ : PHI}
theorem good_z {z : Nat} (h1 : 1 ≤ z) (hz : z < 286) : GoodIn TG (cWd z :: TG) := by
  have key : cWd z ∈ TG := List.mem_filter.mpr ⟨List.mem_of_getElem? (cW_all h1 hz), rfl⟩
  intro w hw
  rcases List.mem_cons.mp hw with rfl | hw
  · exact ⟨key, Or.inl rfl⟩
  · exact ⟨hw, good_of_word (List.mem_filter.mp hw).2⟩
theorem ml_word (hy : y < 286) {k z : Nat} {u v : Int} {b : Bool} (h : chkCall y k z u v b = true) : ((Cond.methodLink (mN y).cls k (mN z) ∈ TG) ∨ Cond.methodLinkNest (mN y).cls k (mN z) "SixAcres" ∈ TXl) ∧ mFr z + 1 ≤ mFr y ∧ 8 + ((miT.get z).1 + 11) + mLo z ≤ mLo y ∧ (parseMethodDescriptor (mN z).desc).map (fun d => d.parameters.length) = some (u - (bif b then 1 else 0)).toNat ∧ (bif b then (1 : Int) else 0) ≤ u ∧ v = rtk (mRt z) ∧ 1 ≤ z ∧ z < 286 := by
  have hc := raAll_get mlT (lky y k) ml_ok
  unfold chkCall at h
  generalize mlT.get (lky y k) = e at h hc
  obtain ⟨key, z', nb, ps⟩ := e
  simp only [Bool.and_eq_true, decide_eq_true_eq] at h
  obtain ⟨⟨⟨⟨⟨⟨⟨⟨⟨h1, h2⟩, h3⟩, h4⟩, h5⟩, h6⟩, h7⟩, h8⟩, h9⟩, h10⟩ := h
  have e1 := Nat.eq_of_beq_eq_true h1
  have e2 := Nat.blt_eq.mp h2
  have e3 := Nat.eq_of_beq_eq_true h3
  subst e1; subst e3
  obtain ⟨d1, d2⟩ := ky_div y k e2
  refine ⟨?_, Nat.le_of_ble_eq_true h4, Nat.le_of_ble_eq_true h5, h6, h7, h8, Nat.le_of_ble_eq_true h9, Nat.blt_eq.mp h10⟩
  have hlt : Nat.blt z' 1000 = true := Nat.blt_eq.mpr (by have := Nat.blt_eq.mp h10; omega)
  unfold mlC at hc
  simp only [mlW, mlN, hlt, cond_true, d1, d2, ← on_y hy, decide_eq_true_eq] at hc
  cases nb with
  | false => exact Or.inl (TG_of TMl_in (by decide +kernel) (List.mem_of_getElem? hc))
  | true => exact Or.inr (List.mem_of_getElem? hc)
theorem wcall_un {b : Bool} {pc n : Nat} {u v : Int} {ls st : List VV} {al : AL} {μ : MM} {K : KK} {cl : Nat → QQ → List VV → AL → MM → Prop} (h : wcall cl b y K pc n u v ls st al μ) : rcv al b n (st.take u.toNat).reverse = true ∧ u.toNat ≤ st.length ∧ ((st.drop u.toNat).map (fun v => if v.1 = 1 then 2 else 1)).sum ≤ 8 ∧ n < 286 ∧ ∃ a f, alc al y n = some (a, f) ∧ cl n (fun r a' μ' => K (pc + 3) ls (pshr v r (st.drop u.toNat)) (f a') μ') (st.take u.toNat).reverse a μ := by
  unfold wcall at h
  cases hb : (rcv al b n (st.take u.toNat).reverse && Nat.ble u.toNat st.length && Nat.ble (((st.drop u.toNat).map (fun v => if v.1 = 1 then 2 else 1)).sum) 8 && Nat.blt n 286) with
  | false => rw [hb] at h; exact h.elim
  | true =>
    rw [hb] at h
    simp only [cond_true] at h
    simp only [Bool.and_eq_true] at hb
    refine ⟨hb.1.1.1, Nat.le_of_ble_eq_true hb.1.1.2, Nat.le_of_ble_eq_true hb.1.2, Nat.blt_eq.mp hb.2, ?_⟩
    cases ha : alc al y n with
    | none => rw [ha] at h; exact h.elim
    | some af =>
      obtain ⟨a, f⟩ := af
      rw [ha] at h
      exact ⟨a, f, rfl, h⟩
theorem alc_a {al : AL} {z : Nat} {a : AL} {f : AL → AL} (h : alc al y z = some (a, f)) : alz z a := by
  unfold alc at h
  match al, h with
  | none, h =>
    simp only at h
    cases hb : (Nat.beq (miT.get z).2.1 0 && Nat.beq (miT.get z).2.2 0) with
    | false => rw [hb] at h; cases h
    | true =>
      rw [hb] at h
      simp only [cond_true, Option.some.injEq, Prod.mk.injEq] at h
      obtain ⟨rfl, rfl⟩ := h
      simp only [Bool.and_eq_true] at hb
      exact ⟨Nat.eq_of_beq_eq_true hb.1, Nat.eq_of_beq_eq_true hb.2⟩
  | some (w, c, sl), h =>
    simp only at h
    cases hb : (Nat.ble (c + (miT.get z).2.1) (miT.get y).2.1 && Nat.ble (sl + (miT.get z).2.2) (miT.get y).2.2) with
    | false => rw [hb] at h; cases h
    | true =>
      rw [hb] at h
      simp only [cond_true, Option.some.injEq, Prod.mk.injEq] at h
      obtain ⟨rfl, rfl⟩ := h
      exact ⟨rfl, rfl⟩
theorem alc_rp {al : AL} {z : Nat} {a : AL} {f : AL → AL} {μ : MM} {H : Heap} (h : alc al y z = some (a, f)) (hR : RPU g al μ H) : RPU g a μ H := by
  unfold alc at h
  match al, h, hR with
  | none, h, hR =>
    simp only at h
    cases hb : (Nat.beq (miT.get z).2.1 0 && Nat.beq (miT.get z).2.2 0) with
    | false => rw [hb] at h; cases h
    | true =>
      rw [hb] at h
      simp only [cond_true, Option.some.injEq, Prod.mk.injEq] at h
      obtain ⟨rfl, rfl⟩ := h
      exact hR
  | some (w, c, sl), h, hR =>
    simp only at h
    cases hb : (Nat.ble (c + (miT.get z).2.1) (miT.get y).2.1 && Nat.ble (sl + (miT.get z).2.2) (miT.get y).2.2) with
    | false => rw [hb] at h; cases h
    | true =>
      rw [hb] at h
      simp only [cond_true, Option.some.injEq, Prod.mk.injEq] at h
      obtain ⟨rfl, rfl⟩ := h
      exact hR
theorem alc_sz {al : AL} {z : Nat} {a : AL} {f : AL → AL} {H : Heap} {U : State} (h : alc al y z = some (a, f)) (hU : U.heap = H) (hsz : szh g al H) : szq g U a := by
  unfold alc at h
  match al, h, hsz with
  | none, h, _ =>
    simp only at h
    cases hb : (Nat.beq (miT.get z).2.1 0 && Nat.beq (miT.get z).2.2 0) with
    | false => rw [hb] at h; cases h
    | true =>
      rw [hb] at h
      simp only [cond_true, Option.some.injEq, Prod.mk.injEq] at h
      obtain ⟨rfl, rfl⟩ := h
      trivial
  | some (w, c, sl), h, hsz =>
    simp only at h
    cases hb : (Nat.ble (c + (miT.get z).2.1) (miT.get y).2.1 && Nat.ble (sl + (miT.get z).2.2) (miT.get y).2.2) with
    | false => rw [hb] at h; cases h
    | true =>
      rw [hb] at h
      simp only [cond_true, Option.some.injEq, Prod.mk.injEq] at h
      obtain ⟨rfl, rfl⟩ := h
      show U.heap.size + 0 = _
      rw [hU]
      exact hsz
theorem alc_room {al : AL} {z : Nat} {a : AL} {f : AL → AL} {R : Room} {s : State} {cells slots mc ms : Nat} (h : alc al y z = some (a, f)) (hA : ACC y R s g al cells slots mc ms) : cells + (miT.get z).2.1 ≤ R.cells ∧ slots + (miT.get z).2.2 ≤ R.slots := by
  unfold alc at h
  match al, h, hA with
  | none, h, hA =>
    simp only at h
    cases hb : (Nat.beq (miT.get z).2.1 0 && Nat.beq (miT.get z).2.2 0) with
    | false => rw [hb] at h; cases h
    | true =>
      simp only [Bool.and_eq_true] at hb
      have b1 := Nat.eq_of_beq_eq_true hb.1
      have b2 := Nat.eq_of_beq_eq_true hb.2
      obtain ⟨a1, a2, a3, a4⟩ := hA
      omega
  | some (w, c, sl), h, hA =>
    simp only at h
    cases hb : (Nat.ble (c + (miT.get z).2.1) (miT.get y).2.1 && Nat.ble (sl + (miT.get z).2.2) (miT.get y).2.2) with
    | false => rw [hb] at h; cases h
    | true =>
      simp only [Bool.and_eq_true] at hb
      have b1 := Nat.le_of_ble_eq_true hb.1
      have b2 := Nat.le_of_ble_eq_true hb.2
      obtain ⟨a1, a2, a3, a4, a5, a6, a7⟩ := hA
      omega
theorem cat_sum (hF : gF g = .null ∨ ∃ a, gF g = .ref a) : ∀ st : List VV, ((st.map (cv g)).map fun v => v.category).sum = (st.map (fun v => if v.1 = 1 then 2 else 1)).sum
  | [] => rfl
  | v :: st => by
    simp only [List.map_cons, List.sum_cons, cv_cat g hF, cat_sum hF st]
/-- the state at a call gives what the callee's contract asks -/
theorem pcz_of {al a : AL} {f : AL → AL} {z : Nat} {μ : MM} {as : List VV} {p : Program} {R : Room} {s : State} {m : MethodId} {args : Array Value} {meth : Method} {cd : Code} {H : Heap} {locs : List Loc} (C : CX g y p R s m args meth cd) (hR : RP g al μ s H locs) (hal : alc al y z = some (a, f)) (hsz : szh g al H) (hwf : ∀ v ∈ as, wfv v) : ∀ U : State, U.heap = H → s.WarmedH U.vm → PcZ g a μ as ((as.map (cv g)).toArray) U := by
  intro U hU hW
  obtain ⟨-, -, -, -, -, -, -, -, -, -, -, -, -, -, -, -, -, -, -, -, -, hSB, hBH, -⟩ := id C
  exact ⟨rfl, CXU_move C.2.2.2.2.2.2.2.2.2 hR.2.1 hU hW, by rw [hU]; exact alc_rp hal hR.1, SCR_move hR.2.2 hR.2.1 hU hW.alike hSB hBH, hwf, alc_sz hal hU hsz⟩
theorem sz_opt {p : Program} {e : Env} {R : Room} {s : State} {m : MethodId} {args : Array Value} {below : List Frame} {meth : Method} {cd : Code} {T : State} {H : Heap} {locs : List Loc} {cells slots mc ms : Nat} {al : AL} {μ : MM} (X : Stand p l e R s m args below meth cd T locs cells slots) (hT : T.heap = H) (C : CX g y p R s m args meth cd) (hR : RP g al μ s H locs) (hA : ACC y R s g al cells slots mc ms) : szh g al H := by
  match al, hR, hA with
  | none, _, _ => trivial
  | some (z, c, sl), hR, hA => exact sz_of X hT C hR hA
end
