section
variable {l : Launch} {g : GG} {y : Nat}
/-! THE ODD START: the cell of the first static array is of a class 'Odd' (an array of ints too), whose own clone() goes round and round -/
def odN : MethodName := ⟨"Odd", "clone", "()Ljava/lang/Object;"⟩
def obN : MethodName := ⟨"java/lang/Object", "clone", "()Ljava/lang/Object;"⟩
def odB : ByteArray := .mk #[0xa7, 0x00, 0x00]
def odW : List Cond := [.selects "Odd" obN odN, .instanceMethod odN, .code odN odB 1 (some (.object "java/lang/Object"))]
def ODD (g : GG) (s : State) : Prop := (∀ w ∈ odW, va_Nw w s) ∧ ∃ cell : Cell, s.heap[gT g 0]? = some cell ∧ s.vm.findClass "Odd" = some cell.cls ∧ cell.vm.isStatics = false
def NOX (s : State) (args : Array Value) (below : List Frame) : Prop := ∀ (m : MethodId) (meth : Method) (c : Code), s.frames = .invoking m args :: below → s.vm.method? m = some meth → meth.code = some c → c.exceptionTable = #[]
/-- from an odd start the walk comes to a certified state -/
def PhC (g : GG) : PHI := fun p _ s args below _ _ _ t => ODD g s → NOX s args below → Refuse.Cert p.tables below t
theorem odW_good : odW.all goodWord = true := by decide +kernel
theorem ODD_move {s U : State} {H : Heap} {locs : List Loc} (h : ODD g s) (hE : EXT g s) (hS : va_S (gP g) s.heap H locs) (hU : U.heap = H) (hW : s.WarmedH U.vm) : ODD g U := by
  obtain ⟨h1, cell, h2, h3, h4⟩ := h
  obtain ⟨-, -, -, -, -, ⟨cl, -, -, -, -, -, -, hA⟩, -⟩ := hE
  refine ⟨fun w hw => word_at hW (good_of_word (List.all_eq_true.mp odW_good w hw)) (h1 w hw), cell, ?_, ?_, h4⟩
  · rw [hU, hS.2.1 _ (Array.getElem?_eq_some_iff.mp h2).1 hA]
    exact h2
  · rw [hW.alike.findClass]
    exact h3
theorem od_in1 : Cond.methodLink "SixAcres$Loads" 15 ⟨"[I", "clone", "()Ljava/lang/Object;"⟩ ∈ TG := List.mem_filter.mpr ⟨by decide +kernel, by decide +kernel⟩
theorem od_in2 : Cond.sameMethod "[I" "java/lang/Object" "clone" "()Ljava/lang/Object;" ∈ TG := List.mem_filter.mpr ⟨by decide +kernel, by decide +kernel⟩
theorem od_in3 : Cond.native obN ∈ TG := List.mem_filter.mpr ⟨by decide +kernel, by decide +kernel⟩
theorem od_in4 : Cond.instanceMethod obN ∈ TG := List.mem_filter.mpr ⟨by decide +kernel, by decide +kernel⟩
theorem od_room : 1 ≤ mFr 42 ∧ 20 ≤ mLo 42 := by decide +kernel
theorem od_dec : decode (mB 42) 8 = .ok (.invokevirtual 15, 3) := by decide +kernel
theorem od_cls : (mN 42).cls = "SixAcres$Loads" := by decide +kernel
/-- at the call of clone() the machine goes round in Odd's own -/
theorem cl_dies {ls st : List VV} {al : AL} {μ : MM} (h8 : (st.map (fun v => if v.1 = 1 then 2 else 1)).sum ≤ 8) : WX l g 42 (PhC g) 8 ls ((2, 3001) :: st) al μ := by
  intro p e R s m args below meth c H locs cells slots mc ms lc q1 q2 q3 q4 q5 q6 T hT X
  by_cases hodd : ODD g s ∧ NOX s args below
  case neg => exact ⟨_, Steps.refl _, fun h1 h2 => absurd ⟨h1, h2⟩ hodd⟩
  obtain ⟨⟨hw, cell, hcell, hfc, hnst⟩, hnox⟩ := hodd
  obtain ⟨-, -, -, -, -, ⟨cl, -, -, -, -, -, -, hA⟩, -⟩ := q1.2.2.2.2.2.2.2.2.2.2
  have hts := q1.2.2.2.2.2.2.2.1
  have hRm := q1.2.2.2.2.2.2.2.2.1
  have hcT : T.heap[gT g 0]? = some cell := by rw [hT, q2.2.1.2.1 _ (Array.getElem?_eq_some_iff.mp hcell).1 hA]; exact hcell
  obtain ⟨r0, kO, r, hn, hrm, hkO, N⟩ := NativeOf.of_instance (hts _ od_in3) (hts _ od_in4) (ps := []) (ret := some (.object "java/lang/Object")) (by decide +kernel)
  obtain ⟨c2, r2, m2, s1, s2, s3, s4, kP, hkP, hkPi⟩ := Cond.selects_spec (hw (.selects "Odd" obN odN) (by simp [odW]))
  cases hfc.symm.trans s1
  cases (State.methodFound?_of_named hn ⟨by decide, by decide⟩).symm.trans s2
  obtain ⟨mo, methO, hnO, hmO, hstO, habO⟩ := Cond.instanceMethod_spec (hw (.instanceMethod odN) (by simp [odW]))
  cases s3.symm.trans hnO
  obtain ⟨methO', cO, hmO', hcO, hbO, hlO, -, hlkO, hexO, hsigO⟩ := Cond.code_spec hnO (hw (.code odN odB 1 (some (.object "java/lang/Object"))) (by simp [odW]))
  cases hmO.symm.trans hmO'
  have hselP : selectMethod e.platform s.vm cell.cls r0 = .method m2 := by rw [Launch.admits_selectMethod X.admits]; exact s4
  have hown : s.vm.findClass "SixAcres$Loads" = some m.cls := by rw [← od_cls]; exact q1.2.2.2.2.2.1
  have hstk : (F0 m 8 lc (((2, 3001) :: st).map (cv g))).stack = ([] : List Value).reverse ++ .ref (gT g 0) :: st.map (cv g) := rfl
  obtain ⟨vm', X', step⟩ := X.invokevirtualUp q1.1 hown (hts _ od_in1) (hts _ od_in2) ⟨by decide, by decide⟩ hn hrm N.static hcT (fun z h => by rw [h] at hnst; cases hnst) hselP hmO habO hkP hkPi (g := F0 m 8 lc (((2, 3001) :: st).map (cv g))) rfl (argsL := []) (rest := st.map (cv g)) (by rw [N.sig]; rfl) hstk (by rw [q1.2.1]; exact od_dec)
  have hmv : vm'.method? m2 = some methO := (X'.warmed.alike.method? (m := m2)).trans hmO
  have hfull := X'.notFull (g := F0 m 8 lc (st.map (cv g))) (q4.2.1.trans q1.2.2.2.2.1.symm) (vars := cO.maxLocals) (Nat.le_trans od_room.1 hRm.1) (by
    show 2 * (F0 m 8 lc (st.map (cv g))).monitorRoom + ((st.map (cv g)).map fun v => v.category).sum + (cO.maxLocals + 11) ≤ R.locals
    have h9 := lv_room (m := m) (pc := 8) (ls := lc) (st := st.map (cv g)) (rest := st.map (cv g)) (by rw [cat_sum q1.ref]; exact h8)
    have h10 := od_room.2
    have h11 := hRm.2
    rw [hlO]
    omega)
  have hjava := doInvoke_java (e := e) (acts := []) (args := (Value.ref (gT g 0) :: ([] : List Value)).toArray) (s := (T.setVm vm').setTop (F0 m 8 lc (st.map (cv g)))) (m := m2) (meth := methO) (code := cO) hmv hcO hlkO hfull
  refine ⟨_, step _ (fun acts => by rw [doInvoke_state]; exact Steps.refl _), fun _ _ => ?_⟩
  rw [hjava.1]
  have hF : ((T.setVm vm').setTop (F0 m 8 lc (st.map (cv g)))).frames = .java (F0 m 8 lc (st.map (cv g))) :: below := by rw [State.frames_setTop' _ X'.here.top, X'.tail]
  refine dd_up (g := F0 m 8 lc (st.map (cv g))) (Refuse.Misses.of_empty (hnox m meth c X.frames X.method X.code)) (show vm'.method? m = some meth from X'.method') X.code q1.2.2.2.1 rfl rfl rfl ?_
  refine Refuse.cert_topP (f := { method := m2, pc := 0, locals := argsToLocals (Value.ref (gT g 0) :: ([] : List Value)).toArray cO.maxLocals, stack := [], locked := none }) (D := (· ∈ [0])) (Refuse.closedP_of_check q1.1 hbO (by decide +kernel)) (by simpa using hexO) (show vm'.method? m2 = some methO from hmv) (State.plainMethod.of_named (x := odN) (by decide +kernel) (X'.named hnO) hmv) hcO ?_ rfl (by simp)
  rw [Refuse.frames_pushFrame _ (State.cur_lt_of_frames hF), hF]
end
