section
variable {l : Launch} {g : GG} {y : Nat} {Q : QQ}
/-! calls -/
theorem Met_ofF {y : MethodName} {ws ws' : List Cond} {rm : Room} {Pc : Array Value → State → Prop} {Qc : Array Value → State → Outcome → State → Prop} {mc ms : Nat} {free : Addr → Prop} {cc : ByteArray} {maxL : Nat} {ret : Option FieldType}
    (hy : plainFor y = true) (hw : ws = Cond.code y cc maxL ret :: ws')
    (body : ∀ p e s m args below meth c s₁, BodyLoose p l y (headSpec ws rm) cc maxL ret e s m args below meth c s₁ → c.maxLocals = maxL → Pc args s →
      W p l e (headSpec ws rm).room s m args below meth c s.heap [] 0 0 (MQ below Qc args s mc ms free) (entryFrame m args maxL)) : Met l y ws rm Pc Qc mc ms free := by
  refine MetFree.of_bodySF (code := cc) (maxLocals := maxL) (ret := ret) hy ?_ ?_
  · intro args s m h hn
    obtain ⟨meth, c, h1, h2, h3, h4, h5, h6, -, -⟩ := Cond.code_spec hn (atoms_spec (ws := ws) h _ (by rw [hw]; exact List.mem_cons_self))
    exact ⟨meth, c, h1, h2, h3, h4, h5, h6⟩
  · intro p e s m args below meth c s₁ B hml hP _
    have hh0 : s₁.heap = s.heap := by rw [B.state]; rfl
    obtain ⟨t, a1, o, b1, b2, b3⟩ := body p e s m args below meth c s₁ B hml hP s₁ hh0 (Stand.of_body B)
    exact ⟨t, o, a1, b1, b2, ⟨b3.1, b3.2⟩⟩
def catS (as : List VV) : Nat := (as.map (fun v => if v.1 = 1 then 2 else 1)).sum
theorem ent_len : ∀ (as : List VV) (n : Nat), catS as ≤ n → (ent n as).length = n
  | [], n, _ => by simp [ent]
  | (0, x) :: as, n, h => by
    have h : 1 + catS as ≤ n := h
    show (ent (n - 1) as).length + 1 = n
    rw [ent_len as (n - 1) (by omega)]
    omega
  | (1, x) :: as, n, h => by
    have h : 2 + catS as ≤ n := h
    show (ent (n - 2) as).length + 1 + 1 = n
    rw [ent_len as (n - 2) (by omega)]
    omega
  | (t + 2, x) :: as, n, h => by
    have h : 1 + catS as ≤ n := h
    show (ent (n - 1) as).length + 1 = n
    rw [ent_len as (n - 1) (by omega)]
    omega
theorem ent_arg (hF : gF g = .null ∨ ∃ a, gF g = .ref a) : ∀ (as : List VV) (n j i : Nat) (v : VV), (ent n as)[i]? = some v → ¬ v.1 = 3 → (j + i, cv g v) ∈ lv_args j (as.map (cv g))
  | [], n, j, i, v, h, hv => by
    exfalso
    have : v = vU := List.eq_of_mem_replicate (List.mem_of_getElem? h)
    exact hv (by rw [this])
  | (0, x) :: as, n, j, i, v, h, hv => by
    show _ ∈ (j, cv g (0, x)) :: lv_args (if (cv g (0, x)).category = 2 then j + 2 else j + 1) (as.map (cv g))
    rw [cv_cat g hF]
    match i, h with
    | 0, h => cases h; exact List.mem_cons_self
    | i + 1, h => exact List.mem_cons_of_mem _ (by have := ent_arg hF as (n - 1) (j + 1) i v h hv; rw [show j + (i + 1) = j + 1 + i by omega]; exact this)
  | (1, x) :: as, n, j, i, v, h, hv => by
    show _ ∈ (j, cv g (1, x)) :: lv_args (if (cv g (1, x)).category = 2 then j + 2 else j + 1) (as.map (cv g))
    rw [cv_cat g hF]
    match i, h with
    | 0, h => cases h; exact List.mem_cons_self
    | 1, h => cases h; exact absurd rfl hv
    | i + 2, h => exact List.mem_cons_of_mem _ (by have := ent_arg hF as (n - 2) (j + 2) i v h hv; rw [show j + (i + 2) = j + 2 + i by omega]; exact this)
  | (t + 2, x) :: as, n, j, i, v, h, hv => by
    show _ ∈ (j, cv g (t + 2, x)) :: lv_args (if (cv g (t + 2, x)).category = 2 then j + 2 else j + 1) (as.map (cv g))
    rw [cv_cat g hF, if_neg (show ¬ t + 2 = 1 by omega)]
    match i, h with
    | 0, h => cases h; exact List.mem_cons_self
    | i + 1, h => exact List.mem_cons_of_mem _ (by have := ent_arg hF as (n - 1) (j + 1) i v h hv; rw [show j + (i + 1) = j + 1 + i by omega]; exact this)
theorem ent_mem : ∀ (as : List VV) (n : Nat) (v : VV), v ∈ ent n as → v ∈ as ∨ v = vU
  | [], n, v, h => Or.inr (List.eq_of_mem_replicate h)
  | (0, x) :: as, n, v, h => by
    rcases List.mem_cons.mp h with rfl | h
    · exact Or.inl List.mem_cons_self
    · exact (ent_mem as _ v h).imp (List.mem_cons_of_mem _) id
  | (1, x) :: as, n, v, h => by
    rcases List.mem_cons.mp h with rfl | h
    · exact Or.inl List.mem_cons_self
    · rcases List.mem_cons.mp h with rfl | h
      · exact Or.inr rfl
      · exact (ent_mem as _ v h).imp (List.mem_cons_of_mem _) id
  | (t + 2, x) :: as, n, v, h => by
    rcases List.mem_cons.mp h with rfl | h
    · exact Or.inl List.mem_cons_self
    · exact (ent_mem as _ v h).imp (List.mem_cons_of_mem _) id
theorem lg_len (hF : gF g = .null ∨ ∃ a, gF g = .ref a) : ∀ as : List VV, (lg_sl (as.map (cv g))).length = catS as
  | [] => rfl
  | v :: as => by
    have ih := lg_len hF as
    unfold lg_sl at ih ⊢
    rw [List.map_cons, List.flatMap_cons, List.length_append, ih, cv_cat g hF]
    show _ = (if v.1 = 1 then 2 else 1) + catS as
    by_cases q : v.1 = 1
    · rw [if_pos q, if_pos rfl]; rfl
    · rw [if_neg q, if_neg (by decide)]; rfl
theorem LSR_ent (hF : gF g = .null ∨ ∃ a, gF g = .ref a) {as : List VV} {n : Nat} (h : catS as ≤ n) : LSR g n (ent n as) ((lg_sl (as.map (cv g)) ++ List.replicate (n - (lg_sl (as.map (cv g))).length) Slot.unset).toArray) := by
  have hl := lv_entry (as.map (cv g)) (n := n) (by rw [lg_len hF]; exact h)
  exact ⟨ent_len as n h, hl.1, hl.2.1, fun i v hi hv => hl.2.2 (i, cv g v) (by have := ent_arg hF as n 0 i v hi hv; rw [Nat.zero_add] at this; exact this)⟩
def rmZ (z : Nat) : Room := { frames := mFr z, cells := (miT.get z).2.1, slots := (miT.get z).2.2, locals := mLo z }
def PcZ (g : GG) (a : AL) (μ : MM) (as : List VV) : Array Value → State → Prop := va_Pc (as.map (cv g)) (fun U => CXU g U ∧ RPU g a μ U.heap ∧ SCR g μ U ∧ (∀ v ∈ as, wfv v) ∧ szq g U a)
theorem PcZ_blind {a : AL} {μ : MM} {as : List VV} : FrameBlind (PcZ g a μ as) := by
  intro A U gf mk h
  obtain ⟨h1, ⟨h2, h3⟩, h4, h5, h6, h7⟩ := h
  have hS : va_S (gP g) U.heap U.heap [] := va_S.rf
  refine ⟨h1, ⟨va_K.moved (u := U) (U := U.calling gf mk A) (Vm.Alike.refl U.vm) h2, EXT_move (U := U.calling gf mk A) h3 hS rfl (State.WarmedH.refl U)⟩, h4, ⟨h5.1.moved (U := U.calling gf mk A) (Vm.Alike.refl U.vm), h5.2⟩, h6, h7⟩
def alz (z : Nat) (a : AL) : Prop := match a with
  | none => (miT.get z).2.1 = 0 ∧ (miT.get z).2.2 = 0
  | some (_, c, s) => c = 0 ∧ s = 0
/-- the contract of a method out of its walk -/
theorem met_of {z : Nat} (h1z : 1 ≤ z) (hz : z < 286) {K : QQ} {as : List VV} {a : AL} {μ : MM} (hcat : catS as ≤ (miT.get z).1) (ha : alz z a)
    (hW : WS l g z K 0 (ent (miT.get z).1 as) [] a μ) : Met l (mN z) (cWd z :: TG) (rmZ z) (PcZ g a μ as) (QC g z a.isNone K) (miT.get z).2.1 (miT.get z).2.2 (gP g) := by
  have hM := chM_all h1z hz
  simp only [chkM, Bool.and_eq_true, decide_eq_true_eq] at hM
  refine Met_ofF (cc := mB z) (maxL := (miT.get z).1) (ret := mRt z) hM.1.1.1.1.2 rfl ?_
  intro p e s m args below meth c s₁ B hml hv
  obtain ⟨rfl, hcx, hrp, hscr, hwf, hszq⟩ := hv
  have hts := atoms_spec (ws := cWd z :: TG) B.pre
  have C : CX g z p (headSpec (cWd z :: TG) (rmZ z)).room s m ((as.map (cv g)).toArray) meth c := ⟨B.exec, B.bytes, B.returns, B.notSynchronized, hml, findClass_of_methodNamed B.named, (name_of_methodNamed B.named B.method).1, fun w hw => hts w (List.mem_cons_of_mem _ hw), ⟨Nat.le_refl _, Nat.le_refl _⟩, hcx⟩
  rw [lg_entry_eq]
  refine hW p e _ s m _ below meth c s.heap [] 0 0 _ _ _ C ⟨hrp, va_S.rf, hscr⟩ ?_ (LSR_ent C.ref hcat) (fun v hv => ?_) (fun v hv => by cases hv)
  · match a, ha, hszq with
    | none, ha, _ => exact ⟨ha.1.symm, ha.2.symm, Nat.zero_le _, Nat.zero_le _⟩
    | some (w, c, sl), ha, hszq =>
      obtain ⟨rfl, rfl⟩ := ha
      exact ⟨rfl, rfl, rfl, rfl, Nat.le_refl _, Nat.le_refl _, hszq⟩
  · rcases ent_mem as _ v hv with q | q
    · exact hwf v q
    · rw [q]; exact wf_u
end
