section
/-! A START THAT THE STATEMENT ALLOWS, ODD AS ABOVE, REFUTES THE CLAIM -/
def lx_P (b : Addr) (xs : List Int32) (args : Array Value) (s : State) : Prop := args = #[.ref b] ∧ s.IntsAt b xs ∧ xs.length ≤ 3072 ∧ (Jvm.Cond.and given_1 narrow_1).before args s = true
theorem lx_pre {args : Array Value} {s : State} (h : (Jvm.Cond.and given_1 narrow_1).before args s = true) (hr : rest_1_c.before args s = true) : ∃ (b : Addr) (xs : List Int32), lx_P b xs args s := by
  have hs := flat_of_before _ h
  have hq := flat_of_before _ hr
  have hc : (Cond.count 1).before args s = true := hs _ (by decide +kernel)
  have harr : (Cond.arrayOf (.arg 0) .int).before args s = true := hs _ (by decide +kernel)
  have hle : (Cond.le (.length (.arg 0)) (.int 3072)).before args s = true := hs _ (by decide +kernel)
  have hlen : (Cond.isInt (.length (.arg 0))).before args s = true := hq _ (by decide +kernel)
  have hall : (Cond.all (.arg 0) (.isInt (.elem (.arg 0) (.index 0)))).before args s = true := hq _ (by decide +kernel)
  obtain ⟨b, xs, hb, hx⟩ := State.ints_of_pre rfl harr hlen hall
  have hsm : xs.length < 2 ^ 31 := hx.choose_spec.2.2.2
  have hev : (Term.length (.arg 0)).eval args s none [] s = some (.int xs.length.toInt32) := hx.length_eval hb
  have hv := Cond.le_ints hev (show (Term.int 3072).eval args s none [] s = some (.int 3072) from rfl)
  have hd : xs.length.toInt32 ≤ 3072 := by
    simpa [Cond.before, Cond.holds, hv] using hle
  have hN : xs.length ≤ 3072 := (Int32.ofNat_le_ofNat hsm (by decide)).mp (show Int32.ofNat xs.length ≤ Int32.ofNat 3072 from hd)
  exact ⟨b, xs, Cond.one_arg hc (show args[0]? = some (.ref b) from hb), hx, hN, h⟩
theorem law_dd (l : Launch) : dd_Dies l x (headSpec (Jvm.Cond.code x code maxLocals ret :: tables_1) room_1) (fun args s => (∃ b xs, lx_P b xs args s) ∧ OD s) := by
  intro p e ha hc hk s m args below hf happ hP
  obtain ⟨⟨b, xs, rfl, hx, hbd, hgv⟩, hod⟩ := hP
  obtain ⟨meth, c, s₁, B, hml, hS⟩ := Jvm.Free.enter (p := p) (code := code) (maxLocals := maxLocals) (ret := ret) (by decide) (fun args s m h hn => by
    obtain ⟨meth, c, h1, h2, h3, h4, h5, h6, -, -⟩ := Cond.code_spec hn (atoms_spec (ws := Jvm.Cond.code x code maxLocals ret :: tables_1) h _ List.mem_cons_self)
    exact ⟨meth, c, h1, h2, h3, h4, h5, h6⟩) ha hc hk hf happ
  obtain ⟨t, a1, b1⟩ := law_odd B hml hx hbd hgv hod
  exact ⟨t, hS.trans a1, b1⟩
theorem odd_refutes {l : Launch} {p : Program} {e : Env} {s : State} {m : MethodId} {args : Array Value} {below : List Frame} (hfl : l.flags = flags0) (hb : ∀ g r, below ≠ .native g :: r)
    (h : AtStart classFile x code maxLocals ret World_1 tables_1 room_1 Calls_1 rest_1 Pre_1 l p e s m args below) (hod : OD s) : ¬ Claimed_1_1 := by
  intro hC
  obtain ⟨hL, hWd, hadm, -, hcas, hclk, hfr, hfit, hheap, happ, hcalls, hrest, hpre⟩ := h
  obtain ⟨n, o, hw, hrun, hend, hpost⟩ := hC l hfl hL hWd p e hadm hcas hclk s m args below hfr hfit hheap happ ⟨hcalls, hrest, hpre⟩
  obtain ⟨v, rfl⟩ : ∃ v, o = .returned v := by
    have h1 : limb_1_1.after args s o (stepsAlone p.tables e n s) = true := hpost.1
    cases o with
    | returned v => exact ⟨v, rfl⟩
    | _ => simp [limb_1_1, Cond.after, Cond.holds, Cond.value] at h1
  obtain ⟨t, ⟨k, hk, wk⟩, hcert⟩ := law_dd l p e hadm hcas hclk s m args below hfr ((Spec.applies_iff_loose hfr).mp happ).1 ⟨lx_pre hpre hrest, hod⟩
  rcases Nat.lt_or_ge n k with hlt | hge
  · exact hend.not_within (wk n hlt)
  · obtain ⟨j, rfl⟩ := Nat.exists_eq_add_of_le hge
    rw [stepsAlone_add, hk] at hend
    refine Refuse.Alive.not_returned hb (hcert.doomed e j fun i hi => ?_) v hend
    have := hw (k + i) (by omega)
    rwa [stepsAlone_add, hk] at this
end
