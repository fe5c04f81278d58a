section
variable {l : Launch} {g : GG} {y : Nat}
def PcC (g : GG) (a : AL) (μ : MM) (as : List VV) : Array Value → State → Prop := fun A U => PcZ g a μ as A U ∧ ODD g U
theorem PcC_blind {a : AL} {μ : MM} {as : List VV} : FrameBlind (PcC g a μ as) := by
  intro A U gf mk h
  exact ⟨PcZ_blind A U gf mk h.1, ODD_move (U := U.calling gf mk A) h.2 h.1.2.1.2 (va_S.rf (A := gP g) (H0 := U.heap)) rfl (State.WarmedH.refl U)⟩
theorem nox_of {p : Program} {e : Env} {rm : Room} {cc : ByteArray} {maxL : Nat} {ret : Option FieldType} {x : MethodName} {ws : List Cond} {bytes : ByteArray} {maxL' : Nat} {ret' : Option FieldType} {s s₁ : State} {m : MethodId} {args : Array Value} {below : List Frame} {meth : Method} {c : Code} (B : BodyLoose p l x (headSpec ws rm) cc maxL ret e s m args below meth c s₁) (hc : (Cond.code x bytes maxL' ret').before args s = true) : NOX s args below := by
  intro m' meth' c' hf hm hcd
  have hfr := B.frames.symm.trans hf
  simp only [List.cons.injEq, Frame.invoking.injEq, and_true] at hfr
  subst hfr
  obtain ⟨meth2, c2, h1, h2, -, -, -, -, h3, -⟩ := Cond.code_spec B.named hc
  cases h1.symm.trans hm
  cases h2.symm.trans hcd
  simpa using h3
/-- the contract 'it dies' of a method out of its walk -/
theorem die_of {z : Nat} (h1z : 1 ≤ z) (hz : z < 286) (hpl : plainName (mN z).cls = true) {as : List VV} {a : AL} {μ : MM} (hcat : catS as ≤ (miT.get z).1) (ha : alz z a)
    (hW : WX l g z (PhC g) 0 (ent (miT.get z).1 as) [] a μ) : dd_Dies l (mN z) (headSpec (cWd z :: TG) (rmZ z)) (PcC g a μ as) := by
  refine dd_of (cc := mB z) (maxL := (miT.get z).1) (ret := mRt z) hpl rfl ?_
  intro p e s m args below meth c s₁ B hml hv
  obtain ⟨⟨rfl, hcx, hrp, hscr, hwf, hszq⟩, hodd⟩ := hv
  have hts := atoms_spec (ws := cWd z :: TG) B.pre
  have C : CX g z p (headSpec (cWd z :: TG) (rmZ z)).room s m ((as.map (cv g)).toArray) meth c := ⟨B.exec, B.bytes, B.returns, B.notSynchronized, hml, findClass_of_methodNamed B.named, (name_of_methodNamed B.named B.method).1, fun w hw => hts w (List.mem_cons_of_mem _ hw), ⟨Nat.le_refl _, Nat.le_refl _⟩, hcx⟩
  have hnx := nox_of B (hts _ List.mem_cons_self)
  rw [lg_entry_eq]
  intro T hT X
  obtain ⟨t, a1, b1⟩ := hW p e _ s m _ below meth c s.heap [] 0 0 (miT.get z).2.1 (miT.get z).2.2 _ C ⟨hrp, va_S.rf, hscr⟩ (by
    match a, ha, hszq with
    | none, ha, _ => exact ⟨ha.1.symm, ha.2.symm, Nat.zero_le _, Nat.zero_le _⟩
    | some (w, c, sl), ha, hszq =>
      obtain ⟨rfl, rfl⟩ := ha
      exact ⟨rfl, rfl, rfl, rfl, Nat.le_refl _, Nat.le_refl _, hszq⟩) (LSR_ent C.ref hcat) (fun v hv => by
    rcases ent_mem as _ v hv with q | q
    · exact hwf v q
    · rw [q]; exact wf_u) (fun v hv => by cases hv) T hT X
  exact ⟨t, a1, b1 hodd hnx⟩
/-- a call of a constructor that dies -/
theorem ws_die (hy : y < 286) {k n pc : Nat} {u v : Int} (hd : decode (mB y) pc = .ok (.invokespecial k, 3)) (hc : chkCall y k n u v true = true) (hnam : (mN n).name = "<init>") (hmc : mcT.get n ≠ 99) (hret : mRt n = none) (hpl : plainName (mN n).cls = true) {ls st : List VV} {al : AL} {μ : MM} {K : KK}
    (h : wcall (fun z _ as a μ => WX l g z (PhC g) 0 (ent (miT.get z).1 as) [] a μ) true y K pc n u v ls st al μ) : WX l g y (PhC g) pc ls st al μ := by
  obtain ⟨hrc, hlen, hcat8, hn, a, f, hal, hW⟩ := wcall_un h
  obtain ⟨hlk, hfr, hlo, hpar, hu, hv, h1n, -⟩ := ml_word hy hc
  obtain ⟨hcat, -, r, as', eas, hs, ho⟩ := rcv_true hrc
  obtain ⟨hnm, hini, -, hin⟩ := chM_parts h1n hn
  obtain ⟨hinst, -, -, -⟩ := hin hmc
  intro p e R s m args below meth cd H locs cells slots mc ms lc q1 q2 q3 q4 q5 q6 T hT X
  by_cases hodd : ODD g s ∧ NOX s args below
  case neg => exact ⟨_, Steps.refl _, fun h1 h2 => absurd ⟨h1, h2⟩ hodd⟩
  have hsz := sz_opt X hT q1 q2 q3
  have hM := die_of h1n hn hpl hcat (alc_a hal) hW
  have hts := q1.2.2.2.2.2.2.2.1
  have hRm := q1.2.2.2.2.2.2.2.2.1
  have hlenA : (st.take u.toNat).reverse.length = u.toNat := by simp; omega
  obtain ⟨b, hb, -⟩ := rcv_of (y := y) h1n hn hmc hs ho q1 q2 (as := as')
  have hmap : (st.take u.toNat).reverse.map (cv g) = .ref b :: as'.map (cv g) := by rw [eas, List.map_cons, cv_ref, hb]
  have hl1 : as'.length + 1 = u.toNat := by rw [← hlenA, eas]; rfl
  have hpar' : (parseMethodDescriptor (mN n).desc).map (fun d => d.parameters.length) = some as'.length := by
    rw [hpar]
    congr 1
    show (u - 1).toNat = _
    omega
  have hlens : ∀ sig, parseMethodDescriptor (mN n).desc = some sig → (as'.map (cv g)).length = sig.parameters.length := by
    intro sig hsig
    rw [hsig] at hpar'
    simp only [Option.map_some, Option.some.injEq] at hpar'
    rw [List.length_map]
    exact hpar'.symm
  have hcr : 2 * (F0 m pc lc ((st.drop u.toNat).map (cv g))).monitorRoom + (((st.drop u.toNat).map (cv g)).map fun v => v.category).sum ≤ 8 := lv_room (by rw [cat_sum q1.ref]; exact hcat8)
  have hpz := pcz_of q1 q2 hal hsz (take_wf (u := u.toNat) q6)
  rw [hmap] at hpz
  have hstk : st.map (cv g) = (as'.map (cv g)).reverse ++ .ref b :: (st.drop u.toNat).map (cv g) := by
    rw [st_split g u.toNat st, hmap, List.reverse_cons, List.append_assoc]
    rfl
  have hroom := alc_room hal q3
  have hgood := good_z h1n hn
  have hw : cWd n = Cond.code (mN n) (mB n) (miT.get n).1 none := by show Cond.code (mN n) (mB n) (miT.get n).1 (mRt n) = _; rw [hret]
  have hcode : (Cond.code (mN n) (mB n) (miT.get n).1 none).before args s = true := by rw [← hw]; exact hts _ (hgood _ List.mem_cons_self).1
  have hplat : e.platform.magicAccessors = ({} : Platform).magicAccessors := by rw [X.admits.platform]
  have key : ∀ (tm : MethodId) (vm' : Vm), s.methodNamed? (mN n) = some tm → s.WarmedH vm' → (∀ target, (∀ acts, Steps p.tables e below (doInvoke e ((T.setVm vm').setTop { (F0 m pc lc (st.map (cv g))) with stack := (st.drop u.toNat).map (cv g) }) acts tm (.ref b :: as'.map (cv g)).toArray).1 target) → Steps p.tables e below (T.setTop (F0 m pc lc (st.map (cv g)))) target) → ∃ t, Steps p.tables e below (T.setTop (F0 m pc lc (st.map (cv g)))) t ∧ PhC g p e s args below mc ms al.isNone t := by
    intro tm vm' hnamed hW₁ hstep
    have X₁ := X.noted hW₁
    obtain ⟨t, b1, b2⟩ := dd_back (bytes := mB n) (maxL := (miT.get n).1) (ret := none) (Wd := 8) hM PcC_blind (Nat.le_trans hfr hRm.1) (Nat.le_trans hlo hRm.2) (pay_in hts hgood) (by rw [← hw]; exact List.mem_cons_self) (fun a' U hWU => word_at hWU (Or.inl (by first | rfl | simp [Cond.onTables, Cond.keeps, Cond.steady])) (hts _ hini)) X₁ (g := F0 m pc lc ((st.drop u.toNat).map (cv g))) rfl (q4.2.1.trans q1.2.2.2.2.1.symm) (by rw [q1.2.1]; exact hd) hcr (X₁.named hnamed) (as := (.ref b :: as'.map (cv g)).toArray) ⟨hpz (T.setVm vm') hT hW₁, ODD_move hodd.1 q1.2.2.2.2.2.2.2.2.2.2 q2.2.1 (show (T.setVm vm').heap = H from hT) hW₁⟩ hroom.1 hroom.2 (hodd.2 m meth cd X.frames X.method X.code) q1.2.2.2.1 rfl rfl
    exact ⟨t, hstep _ (fun acts => by rw [doInvoke_state]; exact b1), fun _ _ => b2⟩
  rcases hlk with hlk | hlk
  · obtain ⟨mk, methM, cM, kP, vm₁, hnamed, -, -, -, -, -, -, -, hW₁, hstep₁⟩ := Steps.initColdArgs (tb := p.tables) (e := e) X.here q1.1 X.warmed hplat q1.2.2.2.2.2.1 hnam hnm (hts _ hlk) (hts _ hinst) hcode (f := F0 m pc lc (st.map (cv g))) rfl hlens hstk (by rw [q1.2.1]; exact hd)
    exact key mk vm₁ hnamed hW₁ hstep₁
  · obtain ⟨mk, methM, cM, kP, vm₁, hnamed, -, -, -, -, -, -, -, hW₁, hstep₁⟩ := Steps.initColdArgsNest (tb := p.tables) (e := e) X.here q1.1 X.warmed hplat q1.2.2.2.2.2.1 hnam hnm (va_Nw.use rfl (q1.2.2.2.2.2.2.2.2.2.2.1 _ hlk)) (hts _ hinst) hcode (f := F0 m pc lc (st.map (cv g))) rfl hlens hstk (by rw [q1.2.1]; exact hd)
    exact key mk vm₁ hnamed hW₁ hstep₁
end
