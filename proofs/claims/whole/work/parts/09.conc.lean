section
/-! WHAT AN ABSTRACT STATE SAYS OF THE MACHINE'S -/
abbrev GG : Type := Nat × (Nat → Nat) × (Nat → Nat) × (Nat → Nat) × Nat × Value × (Nat → ClassId) × (Nat → Nat → Nat) × (Nat → ClassId)
abbrev gB (g : GG) : Nat := g.1
abbrev gK (g : GG) : Nat → Nat := g.2.1
abbrev gV (g : GG) : Nat → Nat := g.2.2.1
abbrev gT (g : GG) : Nat → Nat := g.2.2.2.1
abbrev gS (g : GG) : Nat := g.2.2.2.2.1
abbrev gF (g : GG) : Value := g.2.2.2.2.2.1
abbrev gC (g : GG) : Nat → ClassId := g.2.2.2.2.2.2.1
abbrev gI (g : GG) : Nat → Nat → Nat := g.2.2.2.2.2.2.2.1
abbrev gA (g : GG) : Nat → ClassId := g.2.2.2.2.2.2.2.2
abbrev gP (g : GG) : Nat → Prop := fun q => gB g ≤ q
def rfv (g : GG) (r : Int) : Value := match r with
  | .negSucc _ => .null
  | .ofNat n => if n = 0 then .null else if n < 1000 then .ref (gB g + (n - 1)) else if n < 2000 then .ref (gK g (n - 1000)) else if n < 3000 then .ref (gV g (n - 2000)) else if n = 3000 then .ref (gS g) else if n = 3001 then .ref (gT g 0) else if n = 3002 then .ref (gT g 1) else gF g
def cv (g : GG) (v : VV) : Value := match v.1 with
  | 0 => .int (Int32.ofInt v.2)
  | 1 => .long (Int64.ofInt v.2)
  | _ => rfv g v.2
def wfv (v : VV) : Prop := (v.1 = 0 → -2147483648 ≤ v.2 ∧ v.2 < 2147483648) ∧ (v.1 = 1 → -9223372036854775808 ≤ v.2 ∧ v.2 < 9223372036854775808) ∧ (v.1 = 2 → -2147483648 ≤ v.2 ∧ v.2 < 2147483648)
def fvl (g : GG) (c j : Nat) (x : Int) : Value := match clk c j with
  | 1 => .long (Int64.ofInt x)
  | 2 => rfv g x
  | 3 => rfv g x
  | _ => .int (Int32.ofInt x)
def ceE (g : GG) (μ : MM) (k : Nat) : va_E :=
  if (sh ((k : Int) + 1)).1 < 13 then .inr ((sh ((k : Int) + 1)).1, (List.range (cNf (sh ((k : Int) + 1)).1)).map (fun j => fvl g (sh ((k : Int) + 1)).1 j (μ ((k : Int) + 1) (j : Int))))
  else if (sh ((k : Int) + 1)).1 = 24 then .inl (gA g 24, (sh ((k : Int) + 1)).2.toNat, .inr (.inl (fun j => Int64.ofInt (μ ((k : Int) + 1) (j : Int)))))
  else if (sh ((k : Int) + 1)).1 = 25 then .inl (gA g 25, (sh ((k : Int) + 1)).2.toNat, .inr (.inr (.inr (.inr (fun i => if i < (sh ((k : Int) + 1)).2.toNat then some (gB g + k + 1 + i) else none)))))
  else .inl (gA g (sh ((k : Int) + 1)).1, (sh ((k : Int) + 1)).2.toNat, .inl (fun j => Int32.ofInt (μ ((k : Int) + 1) (j : Int))))
def wl (g : GG) (μ : MM) (z : Nat) : va_W := (List.range z).map (fun k => (gB g + k, ceE g μ k))
def cnt (al : AL) : Nat := match al with
  | none => 169
  | some (z, _, _) => z - 1
def isL (r i : Int) : Bool := decide ((sh r).1 = 24) || (Nat.blt (sh r).1 13 && decide (clk (sh r).1 i.toNat = 1))
def wfm (μ : MM) : Prop := ∀ r i, (isL r i = false → -2147483648 ≤ μ r i ∧ μ r i < 2147483648) ∧ (-9223372036854775808 ≤ μ r i ∧ μ r i < 9223372036854775808)
def phS (al : AL) (μ : MM) : Prop := match al with
  | none => ∀ r k : Int, (sh r).1 < 13 → 0 ≤ k → clk (sh r).1 k.toNat = 2 → μ r k = sf r k
  | some (z, _, _) => 1 ≤ z ∧ z ≤ 170
def cls13 : List vw_C := (List.range 13).map (fun c => (cNm c, cFd c, cNf c))
def tys6 (g : GG) : List (ClassId × FieldType) := [(gA g 20, .int), (gA g 21, .byte), (gA g 22, .char), (gA g 23, .boolean), (gA g 24, .long), (gA g 25, .array .int)]
def TG : List Cond := lw_tbl.filter goodWord
/-- what is outside the cells that are made: Strings, static arrays, statics, nest links -/
def sbL : List (List Int32) := (List.range 30).map (fun j => (sbT.get j).map Int32.ofInt)
def sbN : List Nat := (List.range 30).map (fun j => (sbT.get j).length)
def stx : List String := ["T", "may pay draw water if or and not home shop roof passage stair tap floor people since below sky owner ", "mpdwioan", ";+-*/(){}<>=", "", "#", "mkC;T", "pkEC;T", "dk0;T", "wk0;T", "iA", "PF", "+P^+F", "-P^-F", "MQ", "*M^*Q", "/M^/Q", "0", "v", "(E)", "LB", "oL^|B", "OG", "aO^&G", "nO^!", "{A}", "ER", "<E^<", ">E^>", "=E^="]
def EXT (g : GG) (U : State) : Prop :=
  (∀ w ∈ TXl, va_Nw w U) ∧ va_Nw (.castable "[I" "java/lang/Cloneable") U ∧ va_Nw (.arrayOver (.array .int)) U ∧
  (∀ j, j < 30 → vk_R "SixAcres$Reader" (srI.getD j 0) (stx.getD j "") (gK g j) U) ∧ vk_S 30 sbN sbL (gK g) (gV g) (gP g) U U.heap ∧
  va_T .int (gT g 0) 8 (fun j => .int (Int32.ofInt ((fwT 3001).getD j 0))) (gP g) U U.heap ∧ va_T .int (gT g 1) 8 (fun j => .int (Int32.ofInt ((fwT 3002).getD j 0))) (gP g) U U.heap ∧
  va_Z "java/lang/String" "COMPACT_STRINGS" "Z" (.int 1) (gP g) U U.heap ∧ va_Z "SixAcres$Loads" "FIRST_WEIGHT" "[I" (.ref (gT g 0)) (gP g) U U.heap ∧ va_Z "SixAcres$Loads" "FIRST_BEARS" "[I" (.ref (gT g 1)) (gP g) U U.heap ∧
  va_Z "jdk/internal/util/Preconditions" "SIOOBE_FORMATTER" "Ljava/util/function/BiFunction;" (gF g) (gP g) U U.heap ∧ gS g < gB g ∧ gB g ≤ U.heap.size ∧ (gF g = .null ∨ ∃ a, gF g = .ref a)
def SCR (g : GG) (μ : MM) (U : State) : Prop := va_X (gS g) (μ 3000 (-1)).toNat (fun j => Int32.ofInt (μ 3000 (j : Int))) U U.heap ∧ 0 ≤ μ 3000 (-1) ∧ μ 3000 (-1) < 2147483648
def CXU (g : GG) (U : State) : Prop := va_K (gC g, gI g) cls13 (tys6 g) U ∧ EXT g U
def CX (g : GG) (y : Nat) (p : Program) (R : Room) (s : State) (m : MethodId) (args : Array Value) (meth : Method) (c : Code) : Prop :=
  p.tables.exec = Jvm.exec ∧ c.code = mB y ∧ meth.sig.returnType = mRt y ∧ meth.locks = false ∧ c.maxLocals = (miT.get y).1 ∧ s.vm.findClass (mN y).cls = some m.cls ∧ meth.name = (mN y).name ∧ (∀ w ∈ TG, w.before args s = true) ∧ (mFr y ≤ R.frames ∧ mLo y ≤ R.locals) ∧ CXU g s
/-- the memory in a heap -/
def RPU (g : GG) (al : AL) (μ : MM) (H : Heap) : Prop := va_P (gC g, gI g) cls13 (wl g μ (cnt al)) H ∧ wfm μ ∧ (∀ r i : Int, (cnt al : Int) < r → r < 1000 → μ r i = 0) ∧ phS al μ
def RP (g : GG) (al : AL) (μ : MM) (s : State) (H : Heap) (locs : List Loc) : Prop := RPU g al μ H ∧ va_S (gP g) s.heap H locs ∧ SCR g μ s
def ACC (y : Nat) (R : Room) (s : State) (g : GG) (al : AL) (cells slots mc ms : Nat) : Prop := match al with
  | none => cells = mc ∧ slots = ms ∧ cells ≤ R.cells ∧ slots ≤ R.slots
  | some (z, c, sl) => cells = c ∧ slots = sl ∧ mc = (miT.get y).2.1 ∧ ms = (miT.get y).2.2 ∧ mc ≤ R.cells ∧ ms ≤ R.slots ∧ s.heap.size + c = gB g + (z - 1)
def LSR (g : GG) (n : Nat) (ls : List VV) (lc : Array Slot) : Prop := ls.length = n ∧ lc.size = n ∧ lv_wf lc ∧ ∀ (i : Nat) (v : VV), ls[i]? = some v → ¬ v.1 = 3 → lc[i]? = some (.val (cv g v))
def rvl (g : GG) (y : Nat) (x : Int) : Option Value := match rtk (mRt y) with
  | 0 => some (.int (Int32.ofInt x))
  | 1 => some (.long (Int64.ofInt x))
  | 2 => some (rfv g x)
  | _ => none
def szq (g : GG) (st : State) (al : AL) : Prop := match al with
  | none => True
  | some (z, c, _) => st.heap.size + c = gB g + (z - 1)
def QC (g : GG) (y : Nat) (ph : Bool) (Q : QQ) : Array Value → State → Outcome → State → Prop := fun _ st oc t => ∃ (x : Int) (al : AL) (μ : MM), oc = .returned (rvl g y x) ∧ Q x al μ ∧ (rtk (mRt y) = 0 ∨ rtk (mRt y) = 2 → -2147483648 ≤ x ∧ x < 2147483648) ∧ (rtk (mRt y) = 1 → -9223372036854775808 ≤ x ∧ x < 9223372036854775808) ∧ RPU g al μ t.heap ∧ SCR g μ t ∧ aok y al = true ∧ al.isNone = ph ∧ szq g st al ∧ va_F (gP g) st t
/-- the end that a walk comes to: program, surroundings, start, arguments, frames below, room used, phase, state -/
abbrev PHI : Type := Program → Env → State → Array Value → List Frame → Nat → Nat → Bool → State → Prop
def WX (l : Launch) (g : GG) (y : Nat) (Φ : PHI) : KK := fun pc ls st al μ =>
  ∀ (p : Program) (e : Env) (R : Room) (s : State) (m : MethodId) (args : Array Value) (below : List Frame) (meth : Method) (c : Code) (H : Heap) (locs : List Loc) (cells slots mc ms : Nat) (lc : Array Slot),
    CX g y p R s m args meth c → RP g al μ s H locs → ACC y R s g al cells slots mc ms → LSR g (miT.get y).1 ls lc → (∀ v ∈ ls, wfv v) → (∀ v ∈ st, wfv v) →
    W p l e R s m args below meth c H locs cells slots (Φ p e s args below mc ms al.isNone) (F0 m pc lc (st.map (cv g)))
def WS (l : Launch) (g : GG) : PT := fun y Q => WX l g y (fun _ _ s args below mc ms ph => MQ below (QC g y ph Q) args s mc ms (gP g))
/-! small rows -/
theorem i32_to {x : Int} (h1 : -2147483648 ≤ x) (h2 : x < 2147483648) : (Int32.ofInt x).toInt = x := by
  rw [Int32.toInt_ofInt, Int.bmod_def]
  simp only [Int32.size]
  omega
theorem i64_to {x : Int} (h1 : -9223372036854775808 ≤ x) (h2 : x < 9223372036854775808) : (Int64.ofInt x).toInt = x := by
  rw [Int64.toInt_ofInt, Int.bmod_def]
  simp only [Int64.size]
  omega
theorem cv_int (g : GG) (x : Int) : cv g (0, x) = .int (Int32.ofInt x) := rfl
theorem cv_long (g : GG) (x : Int) : cv g (1, x) = .long (Int64.ofInt x) := rfl
theorem cv_ref (g : GG) (x : Int) : cv g (2, x) = rfv g x := rfl
theorem cv_i (g : GG) (z : Int32) : cv g (0, z.toInt) = .int z := by rw [cv_int, Int32.ofInt_toInt]
theorem cv_l (g : GG) (z : Int64) : cv g (1, z.toInt) = .long z := by rw [cv_long, Int64.ofInt_toInt]
theorem wf_i (z : Int32) : wfv (0, z.toInt) := ⟨fun _ => ⟨Int32.le_toInt z, Int32.toInt_lt z⟩, fun h => (by cases h), fun h => (by cases h)⟩
theorem wf_l (z : Int64) : wfv (1, z.toInt) := ⟨fun h => (by cases h), fun _ => ⟨Int64.le_toInt z, Int64.toInt_lt z⟩, fun h => (by cases h)⟩
theorem wf_r {x : Int} (h : -2147483648 ≤ x ∧ x < 2147483648) : wfv (2, x) := ⟨fun h => (by cases h), fun h => (by cases h), fun _ => h⟩
theorem wf_u : wfv vU := ⟨fun h => (by cases h), fun h => (by cases h), fun h => (by cases h)⟩
theorem wf_of_i {x : Int} (h1 : -2147483648 ≤ x) (h2 : x < 2147483648) : wfv (0, x) := ⟨fun _ => ⟨h1, h2⟩, fun h => (by cases h), fun h => (by cases h)⟩
theorem wf_of_l {x : Int} (h1 : -9223372036854775808 ≤ x) (h2 : x < 9223372036854775808) : wfv (1, x) := ⟨fun h => (by cases h), fun _ => ⟨h1, h2⟩, fun h => (by cases h)⟩
theorem rfv_or (g : GG) (h : gF g = .null ∨ ∃ a, gF g = .ref a) (r : Int) : rfv g r = .null ∨ ∃ a, rfv g r = .ref a := by
  unfold rfv
  split
  · exact Or.inl rfl
  · split
    · exact Or.inl rfl
    · split
      · exact Or.inr ⟨_, rfl⟩
      · split
        · exact Or.inr ⟨_, rfl⟩
        · split
          · exact Or.inr ⟨_, rfl⟩
          · split
            · exact Or.inr ⟨_, rfl⟩
            · split
              · exact Or.inr ⟨_, rfl⟩
              · split
                · exact Or.inr ⟨_, rfl⟩
                · exact h
theorem rfv_cat (g : GG) (h : gF g = .null ∨ ∃ a, gF g = .ref a) (r : Int) : (rfv g r).category = 1 := by
  rcases rfv_or g h r with e | ⟨a, e⟩ <;> rw [e] <;> rfl
theorem cv_cat (g : GG) (h : gF g = .null ∨ ∃ a, gF g = .ref a) (v : VV) : (cv g v).category = if v.1 = 1 then 2 else 1 := by
  obtain ⟨t, x⟩ := v
  match t with
  | 0 => rfl
  | 1 => rfl
  | t + 2 => exact rfv_cat g h x
theorem CX.ref {g : GG} {y : Nat} {p : Program} {R : Room} {s : State} {m : MethodId} {args : Array Value} {meth : Method} {c : Code} (h : CX g y p R s m args meth c) : gF g = .null ∨ ∃ a, gF g = .ref a := by
  obtain ⟨-, -, -, -, -, -, -, -, -, -, -, -, -, -, -, -, -, -, -, -, -, -, -, h⟩ := h
  exact h
theorem Zmono_WS (l : Launch) (g : GG) : Zmono (WS l g) := by
  intro y Q Q' pc ls st al μ hQ h p e R s m args below meth c H locs cells slots mc ms lc h1 h2 h3 h4 h5 h6 T hT X
  obtain ⟨t, a, o, b1, b2, ⟨x, al', μ', c1, c2, c3⟩, b4⟩ := h p e R s m args below meth c H locs cells slots mc ms lc h1 h2 h3 h4 h5 h6 T hT X
  exact ⟨t, a, o, b1, b2, ⟨x, al', μ', c1, hQ _ _ _ c2, c3⟩, b4⟩
end
