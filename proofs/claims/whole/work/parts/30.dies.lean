section
variable {p : Program} {l : Launch} {e : Env} {R : Room} {s : State} {m : MethodId} {args : Array Value} {below : List Frame} {meth : Method} {c : Code} {T : State} {locs : List Loc} {cells slots : Nat}
/-! A METHOD THAT NEVER RETURNS, SAID AS A CONTRACT: the walk comes to a certified state -/
def dd_Dies (l : Launch) (y : MethodName) (S : Spec) (P : Array Value → State → Prop) : Prop :=
  ∀ (p : Program) (e : Env), l.admits e → FairCas e.choices → FairClock e.choices → ∀ (s : State) (m : MethodId) (args : Array Value) (below : List Frame),
    s.frames = .invoking m args :: below → S.appliesLoose y e.platform s = true → P args s → ∃ t, Steps p.tables e below s t ∧ Refuse.Cert p.tables below t
theorem dd_of {y : MethodName} {ws ws' : List Cond} {rm : Room} {Pc : Array Value → State → Prop} {cc : ByteArray} {maxL : Nat} {ret : Option FieldType}
    (hy : plainName y.cls = true) (hw : ws = Cond.code y cc maxL ret :: ws')
    (body : ∀ p e s m args below meth c s₁, BodyLoose p l y (headSpec ws rm) cc maxL ret e s m args below meth c s₁ → c.maxLocals = maxL → Pc args s →
      W p l e (headSpec ws rm).room s m args below meth c s.heap [] 0 0 (fun t => Refuse.Cert p.tables below t) (entryFrame m args maxL)) : dd_Dies l y (headSpec ws rm) Pc := by
  intro p e ha hc hk s m args below hf happ hP
  obtain ⟨meth, c, s₁, B, hml, hS⟩ := Jvm.Free.enter (p := p) (code := cc) (maxLocals := maxL) (ret := ret) hy (fun args s m h hn => by
    obtain ⟨meth, c, h1, h2, h3, h4, h5, h6, -, -⟩ := Cond.code_spec hn (atoms_spec (ws := ws) h _ (by rw [hw]; exact List.mem_cons_self))
    exact ⟨meth, c, h1, h2, h3, h4, h5, h6⟩) ha hc hk hf happ
  obtain ⟨t, a1, b1⟩ := body p e s m args below meth c s₁ B hml hP s₁ (by rw [B.state]; rfl) (Stand.of_body B)
  exact ⟨t, hS.trans a1, b1⟩
/-- a certificate over the invoker's frame is one over what lies below it -/
theorem dd_up {tb : Tables} {g : JFrame} {t : State} (hx : Refuse.Misses c g.pc) (hm : t.vm.method? m = some meth) (hcode : meth.code = some c) (hl : meth.locks = false) (hgm : g.method = m) (h1 : g.locked = none) (h2 : g.entered = [])
    (h : Refuse.Cert tb (.java g :: below) t) : Refuse.Cert tb below t := by
  obtain ⟨V, I, H, hv, hi⟩ := h
  exact ⟨_, _, Refuse.holds_via H hx hcode hl hgm h1 h2, ⟨hv, hm⟩, .inl hi⟩
/-- a certified state's next one is certified, while the frames lie above -/
theorem dd_next {tb : Tables} {t : State} (hw : Within t below) (h : Refuse.Cert tb below t) : Refuse.Cert tb below (stepThread tb e t).1 := by
  obtain ⟨V, I, H, hv, hi⟩ := h
  exact ⟨V, I, H, H.vm e t hv, H.step e t hv hi hw⟩
/-- the invoked method dies: so the invoker's walk comes to a certified state -/
theorem dd_via {y : MethodName} {S : Spec} {P : Array Value → State → Prop} (hY : dd_Dies l y S P) (ha : l.admits e) (hc : FairCas e.choices) (hk : FairClock e.choices)
    {u : State} {my : MethodId} {as : Array Value} {g : JFrame} (hfr : u.frames = .java g :: below) (happ : S.appliesLoose y e.platform (u.pushFrame (.invoking my as)) = true) (hP : P as (u.pushFrame (.invoking my as)))
    (hx : Refuse.Misses c g.pc) (hm : u.vm.method? m = some meth) (hcode : meth.code = some c) (hl : meth.locks = false) (hgm : g.method = m) (h1 : g.locked = none) (h2 : g.entered = []) :
    ∃ t, Steps p.tables e below (doInvoke e u [] my as).1 t ∧ Refuse.Cert p.tables below t := by
  have ho : u.cur < u.threads.size := State.cur_lt_of_frames hfr
  obtain ⟨th, ht, -⟩ := State.frames_cons hfr
  have hf' : (u.pushFrame (.invoking my as)).frames = .invoking my as :: u.frames := Refuse.frames_pushFrame _ ho
  obtain ⟨hrun, hable, halone, -⟩ := (Spec.appliesLoose_iff hf').mp happ
  have hgo : (u.pushFrame (.invoking my as)).goesOn := ⟨hrun, hable, halone⟩
  have hstep : (stepThread p.tables e (u.pushFrame (.invoking my as))).1 = (doInvoke e u [] my as).1 := by
    rw [stepThread_invoking hf', doInvoke_state e u [], State.pushFrame, State.setFrames_setFrames, State.setFrames_self ht]
  obtain ⟨t, ⟨n, hn, wn⟩, hcert⟩ := hY p e ha hc hk (u.pushFrame (.invoking my as)) my as u.frames hf' happ hP
  rw [hfr] at hcert wn
  have hw0 : Within (u.pushFrame (.invoking my as)) (.java g :: below) := ⟨[.invoking my as], by rw [hf', hfr]; rfl, by simp, by simp⟩
  have hm1 : (stepThread p.tables e (u.pushFrame (.invoking my as))).1.vm.method? m = some meth := stepThread_method? p.tables e (show (u.pushFrame (.invoking my as)).vm.method? m = some meth from hm)
  cases n with
  | zero =>
    cases hn
    refine ⟨_, Steps.refl _, ?_⟩
    rw [← hstep]
    exact dd_up hx hm1 hcode hl hgm h1 h2 (dd_next hw0 hcert)
  | succ k =>
    rw [stepsAlone_succ _ hgo, hstep] at hn
    refine ⟨t, ⟨k, hn, fun j hj => ?_⟩, dd_up hx ?_ hcode hl hgm h1 h2 hcert⟩
    · have := wn (j + 1) (by omega)
      rw [stepsAlone_succ _ hgo, hstep] at this
      exact Within.weaken (mid := [.java g]) this
    · rw [← hn, ← hstep]
      exact Refuse.stepsAlone_method? p.tables e k hm1
/-- the same from a point of a walk -/
theorem dd_back {y : MethodName} {ws : List Cond} {rm : Room} {Pc : Array Value → State → Prop} {bytes : ByteArray} {maxL Wd : Nat} {ret : Option FieldType} (hM : dd_Dies l y (headSpec ws rm) Pc) (hbl : FrameBlind Pc)
    (hfr : rm.frames + 1 ≤ R.frames) (hlo : Wd + (maxL + 11) + rm.locals ≤ R.locals) (hws : ∀ w ∈ ws, ∀ (a' : Array Value) (U : State), s.WarmedH U.vm → w.before a' U = true) (hcw : Cond.code y bytes maxL ret ∈ ws)
    (hini : ∀ (a' : Array Value) (U : State), s.WarmedH U.vm → (Cond.initialized y.cls).before a' U = true) (X : Stand p l e R s m args below meth c T locs cells slots) {g : JFrame} (hg : g.method = m) (hsize : g.locals.size = c.maxLocals) {ig : Instr} {len : Nat} (hdg : decode c.code g.pc = .ok (ig, len))
    (hW : 2 * g.monitorRoom + (g.stack.map fun v => v.category).sum ≤ Wd) {mk : MethodId} (hn : T.methodNamed? y = some mk) {as : Array Value} (hPc : Pc as T) (hcells : cells + rm.cells ≤ R.cells) (hslots : slots + rm.slots ≤ R.slots)
    (hx : c.exceptionTable = #[]) (hl : meth.locks = false) (h1 : g.locked = none) (h2 : g.entered = []) : ∃ t, Steps p.tables e below (doInvoke e (T.setTop g) [] mk as).1 t ∧ Refuse.Cert p.tables below t := by
  obtain ⟨methY, cY, hmY, hcY, -, hlY, -, -, -, -⟩ := Cond.code_spec hn (hws _ hcw as T X.warmed)
  obtain ⟨kY, hkY, -⟩ := className_of_methodNamed hn
  have hinitY : kY.init = .initialized := Cond.initialized_spec (findClass_of_methodNamed hn) hkY (hini as T X.warmed)
  have h : At T g.method c below := by rw [hg]; exact X.here
  have happ : (headSpec ws rm).appliesLoose y e.platform (T.calling g mk as) = true :=
    Spec.appliesLoose_calling (g := g) h hdg hn hkY hinitY (X.room_calling (g := g) (R' := (headSpec ws rm).room) hsize hmY hcY hfr (by rw [hlY]; show _ + _ + (maxL + 11) + rm.locals ≤ _; omega) hcells hslots) (atoms_intro fun w hw => hws w hw _ _ X.warmed)
  have hF : (T.setTop g).frames = .java g :: below := by rw [State.frames_setTop' _ X.here.top, X.tail]
  exact dd_via hM X.admits X.cas X.clock hF happ (hbl as T g mk hPc) (Refuse.Misses.of_empty hx) (show T.vm.method? m = some meth from X.method') X.code hl hg h1 h2
end
