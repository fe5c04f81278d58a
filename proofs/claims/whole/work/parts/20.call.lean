section
variable {l : Launch} {g : GG} {y : Nat} {Q : QQ}
/-! what is outside, in another state -/
theorem SCR_move {μ : MM} {s t : State} {H : Heap} {locs : List Loc} (h : SCR g μ s) (hS : va_S (gP g) s.heap H locs) (ht : t.heap = H) (hvm : s.vm.Alike t.vm) (h1 : gS g < gB g) (h2 : gB g ≤ s.heap.size) : SCR g μ t := by
  refine ⟨?_, h.2⟩
  rw [ht]
  exact (h.1.moved hvm).kept (hS.2.1 _ (Nat.lt_of_lt_of_le h1 h2) (Nat.not_le.mpr h1))
theorem SCR_back {μ : MM} {s t : State} {H : Heap} {locs : List Loc} (h : SCR g μ t) (hS : va_S (gP g) s.heap H locs) (ht : t.heap = H) (hvm : t.vm.Alike s.vm) (h1 : gS g < gB g) (h2 : gB g ≤ s.heap.size) : SCR g μ s := by
  refine ⟨?_, h.2⟩
  have hq := hS.2.1 _ (Nat.lt_of_lt_of_le h1 h2) (Nat.not_le.mpr h1)
  have h9 := h.1.moved hvm
  rw [ht] at h9
  exact h9.kept hq.symm
theorem va_Nw_warmW {w : Cond} (hw : w ∈ TXl) {s U : State} (hW : s.WarmedH U.vm) (h : va_Nw w s) : va_Nw w U := by
  have hk : TXl.all (fun w => match w with | .fieldLinkNest _ _ _ _ _ _ => true | .methodLinkNest _ _ _ _ => true | _ => false) = true := by decide +kernel
  have := List.all_eq_true.mp hk w hw
  cases w <;> first | (cases this; done) | exact h.warmF hW | exact h.warmM hW
theorem AOA_moved {u U : State} (hvm : u.vm.Alike U.vm) (h : va_Nw (.arrayOver (.array .int)) u) : va_Nw (.arrayOver (.array .int)) U := by
  unfold va_Nw Cond.before Cond.holds at h ⊢
  simp only [Cond.value] at h ⊢
  rw [hvm.findClass, hvm.findClass]
  cases f1 : u.vm.findClass (FieldType.array FieldType.int).toString with
  | none => rw [f1] at h; simp at h
  | some comp =>
    rw [f1] at h
    simp only [Option.bind_some] at h ⊢
    have hb : (U.vm.classes.findIdx? fun (x : Class) => match x.kind with | .array component _ => component == comp | _ => false) = (u.vm.classes.findIdx? fun (x : Class) => match x.kind with | .array component _ => component == comp | _ => false) := by
      have e1 := va_idx_bare U.vm comp
      have e2 := va_idx_bare u.vm comp
      have e3 : U.vm.bare = u.vm.bare := by first | exact hvm.bare_eq | exact hvm.bare_eq.symm
      rw [e3] at e1
      exact e1.symm.trans e2
    have hb' := hb
    cases hi : (u.vm.classes.findIdx? fun (x : Class) => match x.kind with | .array component _ => component == comp | _ => false) with
    | none =>
      exfalso
      have h9 := (congrArg (fun o : Option Nat => (o.bind (fun c => (u.vm.classes[c]?).map fun (k : Class) => match k.kind with | .array _ ty => decide (ty = FieldType.array FieldType.int) && decide (u.vm.findClass ("[" ++ (FieldType.array FieldType.int).toString) = some c) | _ => false) == some true)) hi).symm.trans h
      simp at h9
    | some c =>
      have h9 := (congrArg (fun o : Option Nat => (o.bind (fun c => (u.vm.classes[c]?).map fun (k : Class) => match k.kind with | .array _ ty => decide (ty = FieldType.array FieldType.int) && decide (u.vm.findClass ("[" ++ (FieldType.array FieldType.int).toString) = some c) | _ => false) == some true)) hi).symm.trans h
      refine (congrArg (fun o : Option Nat => (o.bind (fun c => (U.vm.classes[c]?).map fun (k : Class) => match k.kind with | .array _ ty => decide (ty = FieldType.array FieldType.int) && decide (u.vm.findClass ("[" ++ (FieldType.array FieldType.int).toString) = some c) | _ => false) == some true)) (hb'.trans hi)).trans ?_
      simp only [Option.bind_some] at h9 ⊢
      cases hk : u.vm.classes[c]? with
      | none => rw [hk] at h9; simp at h9
      | some k =>
        obtain ⟨k', hk', he⟩ := hvm.2.2 _ _ hk
        rw [hk] at h9
        rw [hk']
        have : k'.kind = k.kind := by rw [he]
        simpa [this] using h9
theorem EXT_move {s U : State} {H : Heap} {locs : List Loc} (h : EXT g s) (hS : va_S (gP g) s.heap H locs) (hU : U.heap = H) (hW : s.WarmedH U.vm) : EXT g U := by
  obtain ⟨h1, h2, h3, h4, h5, h6, h7, h8, h9, h10, h11, h12, h13, h14⟩ := h
  have hvm := hW.alike
  have hk : ∀ a : Nat, a < s.heap.size → ¬ gP g a → U.heap[a]? = s.heap[a]? := fun a q1 q2 => by rw [hU]; exact hS.2.1 a q1 q2
  refine ⟨fun w hw => va_Nw_warmW hw hW (h1 w hw), ?_, ?_, fun j hj => (h4 j hj).warm hW, (h5.moved hvm).kept hk, (h6.moved hvm).kept hk, (h7.moved hvm).kept hk, (h8.moved hvm).kept hk, (h9.moved hvm).kept hk, (h10.moved hvm).kept hk, (h11.moved hvm).kept hk, h12, by rw [hU]; exact Nat.le_trans h13 hS.1, h14⟩
  · exact h2.warmC hW
  · exact AOA_moved hvm h3
theorem CXU_move {s U : State} {H : Heap} {locs : List Loc} (h : CXU g s) (hS : va_S (gP g) s.heap H locs) (hU : U.heap = H) (hW : s.WarmedH U.vm) : CXU g U :=
  ⟨va_K.moved hW.alike h.1, EXT_move h.2 hS hU hW⟩
/-! returns -/
theorem fin_ret {p : Program} {R : Room} {s : State} {m : MethodId} {args : Array Value} {meth : Method} {cd : Code} {H : Heap} {locs : List Loc} {al : AL} {μ : MM} {x : Int} {cells slots mc ms : Nat} (C : CX g y p R s m args meth cd) (hR : RP g al μ s H locs) (hA : ACC y R s g al cells slots mc ms) (hk : aok y al = true) (hQ : Q x al μ) (h0 : rtk (mRt y) = 0 ∨ rtk (mRt y) = 2 → -2147483648 ≤ x ∧ x < 2147483648) (h1 : rtk (mRt y) = 1 → -9223372036854775808 ≤ x ∧ x < 9223372036854775808) : cells = mc ∧ slots = ms ∧ ∀ t : State, t.heap = H → s.WarmedH t.vm → QC g y al.isNone Q args s (.returned (rvl g y x)) t := by
  obtain ⟨-, -, -, -, -, -, -, -, -, -, -, -, -, -, -, -, -, -, -, -, -, hSB, hBH, -⟩ := id C
  have key : cells = mc ∧ slots = ms ∧ szq g s al := by
    match al, hA, hk with
    | none, hA, _ => exact ⟨hA.1, hA.2.1, trivial⟩
    | some (z, c, sl), hA, hk =>
      obtain ⟨a1, a2, a3, a4, a5, a6, a7⟩ := hA
      simp only [aok, Bool.and_eq_true] at hk
      have b1 := Nat.eq_of_beq_eq_true hk.1
      have b2 := Nat.eq_of_beq_eq_true hk.2
      exact ⟨by omega, by omega, a7⟩
  refine ⟨key.1, key.2.1, fun t ht hW => ⟨x, al, μ, rfl, hQ, h0, h1, by rw [ht]; exact hR.1, SCR_move hR.2.2 hR.2.1 ht hW.alike hSB hBH, hk, rfl, key.2.2, hR.2.1.F ht⟩⟩
theorem rvl_i {x : Int} (h : rtk (mRt y) = 0) : rvl g y x = some (.int (Int32.ofInt x)) := by unfold rvl; rw [h]; rfl
theorem rvl_l {x : Int} (h : rtk (mRt y) = 1) : rvl g y x = some (.long (Int64.ofInt x)) := by unfold rvl; rw [h]; rfl
theorem rvl_r {x : Int} (h : rtk (mRt y) = 2) : rvl g y x = some (rfv g x) := by unfold rvl; rw [h]; rfl
theorem rvl_v {x : Int} (h : rtk (mRt y) = 3) : rvl g y x = none := by unfold rvl; rw [h]; rfl
theorem ws_zret {pc : Nat} {x : Int} {ty : FieldType} (hd : decode (mB y) pc = .ok (.ireturn, 1)) (ht : mRt y = some ty) (hk : rtk (some ty) = 0) (hn : narrow ty (.int (Int32.ofInt x)) = .int (Int32.ofInt x)) {ls : List VV} {al : AL} {μ : MM} (ha : aok y al = true) (hQ : Q x al μ) : WS l g y Q pc ls [(0, x)] al μ := by
  intro p e R s m args below meth cd H locs cells slots mc ms lc q1 q2 q3 q4 q5 q6
  have hx := (q6 (0, x) List.mem_cons_self).1 rfl
  obtain ⟨e1, e2, hf⟩ := fin_ret q1 q2 q3 ha hQ (fun _ => hx) (fun h => by rw [ht, hk] at h; cases h)
  subst e1; subst e2
  rw [rvl_i (by rw [ht]; exact hk)] at hf
  exact W.zret (v := Int32.ofInt x) q1.1 q1.2.1 (q1.2.2.1.trans ht) hn hf q2.2.1.2.2 hd q1.2.2.2.1
theorem ws_lret {pc : Nat} {x : Int} (hd : decode (mB y) pc = .ok (.lreturn, 1)) (ht : mRt y = some .long) {ls : List VV} {al : AL} {μ : MM} (ha : aok y al = true) (hQ : Q x al μ) : WS l g y Q pc ls [(1, x)] al μ := by
  intro p e R s m args below meth cd H locs cells slots mc ms lc q1 q2 q3 q4 q5 q6
  have hx := (q6 (1, x) List.mem_cons_self).2.1 rfl
  obtain ⟨e1, e2, hf⟩ := fin_ret q1 q2 q3 ha hQ (fun h => by rw [ht] at h; rcases h with h | h <;> cases h) (fun _ => hx)
  subst e1; subst e2
  rw [rvl_l (by rw [ht]; rfl)] at hf
  exact W.lret (v := Int64.ofInt x) q1.1 q1.2.1 (q1.2.2.1.trans ht) hf q2.2.1.2.2 hd q1.2.2.2.1
theorem ws_aret {pc : Nat} {x : Int} {ty : FieldType} (hd : decode (mB y) pc = .ok (.areturn, 1)) (ht : mRt y = some ty) (hty : (∃ n, ty = .object n) ∨ ∃ t, ty = .array t) {ls : List VV} {al : AL} {μ : MM} (ha : aok y al = true) (hQ : Q x al μ) : WS l g y Q pc ls [(2, x)] al μ := by
  intro p e R s m args below meth cd H locs cells slots mc ms lc q1 q2 q3 q4 q5 q6
  have hk : rtk (mRt y) = 2 := by rw [ht]; rcases hty with ⟨n, rfl⟩ | ⟨t, rfl⟩ <;> rfl
  obtain ⟨e1, e2, hf⟩ := fin_ret q1 q2 q3 ha hQ (fun _ => (q6 (2, x) List.mem_cons_self).2.2 rfl) (fun h => by rw [hk] at h; cases h)
  subst e1; subst e2
  rw [rvl_r hk] at hf
  exact W.aret (v := rfv g x) q1.1 q1.2.1 (q1.2.2.1.trans ht) hty (rfv_or g q1.ref x) hf q2.2.1.2.2 hd q1.2.2.2.1
theorem ws_vret {pc : Nat} (hd : decode (mB y) pc = .ok (.return_, 1)) (ht : mRt y = none) {ls : List VV} {al : AL} {μ : MM} (ha : aok y al = true) (hQ : Q 0 al μ) : WS l g y Q pc ls [] al μ := by
  intro p e R s m args below meth cd H locs cells slots mc ms lc q1 q2 q3 q4 q5 q6
  obtain ⟨e1, e2, hf⟩ := fin_ret q1 q2 q3 ha hQ (fun h => by rw [ht] at h; rcases h with h | h <;> cases h) (fun h => by rw [ht] at h; cases h)
  subst e1; subst e2
  rw [rvl_v (by rw [ht]; rfl)] at hf
  exact W.vret q1.1 q1.2.1 (q1.2.2.1.trans ht) hf q2.2.1.2.2 hd q1.2.2.2.1
end
