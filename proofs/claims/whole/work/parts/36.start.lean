section
/-! WHAT THE STATEMENT GIVES OF THE START, AS THE ABSTRACT MACHINE WANTS IT -/
def FLw : List Cond := flatC (Jvm.Cond.and given_1 narrow_1)
def tmS (i : Nat) : Term := .string "SixAcres$Reader" (srI.getD i 0)
def sPos : List Nat := [31, 36, 141, 153, 169, 173, 178, 187, 197, 206, 215, 221, 227, 236, 245, 251, 260, 269, 274, 279, 286, 292, 301, 307, 316, 324, 331, 337, 345, 353]
def sEx (i : Nat) : List Cond := [.exactly (tmS i) "java/lang/String", .eq (.field (tmS i) "java/lang/String" "coder" "B") (.int 0), .arrayOf (.field (tmS i) "java/lang/String" "value" "[B") .byte, .eq (.length (.field (tmS i) "java/lang/String" "value" "[B")) (.int (Int32.ofNat (sbN.getD i 0)))] ++ (List.range (sbN.getD i 0)).map (fun j => .eq (.elem (.field (tmS i) "java/lang/String" "value" "[B") (.int (Int32.ofNat j))) (.int ((sbL.getD i []).getD j 0)))
set_option maxRecDepth 100000 in
theorem sEx_ok : (List.range 30).all (fun i => decide ((FLw.drop (sPos.getD i 0)).take (4 + sbN.getD i 0) = sEx i)) = true := by decide +kernel
theorem sEx_in {i : Nat} (h : i < 30) {w : Cond} (hw : w ∈ sEx i) : w ∈ FLw := by
  have h1 := of_decide_eq_true (List.all_eq_true.mp sEx_ok i (List.mem_range.mpr h))
  rw [← h1] at hw
  exact List.mem_of_mem_drop (List.mem_of_mem_take hw)
set_option maxRecDepth 100000 in
theorem sRef_ok : (List.range 30).all (fun i => decide (Cond.stringRef "SixAcres$Reader" (srI.getD i 0) (stx.getD i "") ∈ lw_tbl)) = true := by decide +kernel
set_option maxRecDepth 100000 in
theorem sLen_ok : (List.range 30).all (fun i => decide (sbN.getD i 0 < 2 ^ 31) && decide ((sbL.getD i []).length = sbN.getD i 0)) = true := by decide +kernel
/-- two of the texts are never of one length and alike -/
def sSame (i j : Nat) : Bool := decide (sbN.getD i 0 = sbN.getD j 0) && (List.range (sbN.getD i 0)).all (fun k => decide ((sbL.getD i []).getD k 0 = (sbL.getD j []).getD k 0))
set_option maxRecDepth 100000 in
theorem sDif_ok : (List.range 30).all (fun i => (List.range 30).all (fun j => decide (i = j) || !sSame i j)) = true := by decide +kernel
set_option maxRecDepth 100000 in
theorem inst_ok : (List.range 13).all (fun c => decide (Cond.instantiable (cNm c) (cNf c) ∈ lw_tbl)) = true := by decide +kernel
theorem st_str {args : Array Value} {s : State} {A : Nat → Prop} (hF : ∀ w ∈ FLw, w.before args s = true) (hA : ∀ a : Nat, a < s.heap.size → ¬ A a) : ∃ adK adV : Nat → Nat, vk_S 30 sbN sbL adK adV A s s.heap ∧ ∀ i : Nat, i < 30 → (tmS i).eval args s none [] s = some (.ref (adK i)) := by
  have h0 : ∀ i : Nat, ∃ q : Nat × Nat, i < 30 → (tmS i).eval args s none [] s = some (.ref q.1) ∧ va_O "java/lang/String" q.1 A s s.heap ∧ va_OF "java/lang/String" "coder" "B" (.int 0) q.1 A s s.heap ∧ va_OF "java/lang/String" "value" "[B" (.ref q.2) q.1 A s s.heap ∧ va_T .byte q.2 (sbN.getD i 0) (fun j => .int ((sbL.getD i []).getD j 0)) A s s.heap := by
    intro i
    by_cases hi : i < 30
    · have hl := List.all_eq_true.mp sLen_ok i (List.mem_range.mpr hi)
      simp only [Bool.and_eq_true, decide_eq_true_eq] at hl
      obtain ⟨aK, aV, hS, hE⟩ := vk_Sof (args := args) (s := s) (N := 1) (tm := fun _ => tmS i) (len := [sbN.getD i 0]) (byt := [sbL.getD i []]) (A := A)
        (fun k hk => by (obtain rfl : k = 0 := by omega); exact hl.1)
        (fun k hk => hF _ (sEx_in hi (by simp [sEx])))
        (fun k hk => hF _ (sEx_in hi (by simp [sEx])))
        (fun k hk => hF _ (sEx_in hi (by simp [sEx])))
        (fun k hk => by (obtain rfl : k = 0 := by omega); exact hF _ (sEx_in hi (by simp [sEx])))
        (fun k hk j hj => by
          (obtain rfl : k = 0 := by omega)
          exact hF _ (sEx_in hi (List.mem_append_right _ (List.mem_map.mpr ⟨j, List.mem_range.mpr hj, rfl⟩))))
        (fun k j hk hj hne => absurd (show k = j by omega) hne) hA
      have h1 := hS.1 0 (by omega)
      exact ⟨(aK 0, aV 0), fun _ => ⟨hE 0 (by omega), h1.1, h1.2.1, h1.2.2.1, h1.2.2.2⟩⟩
    · exact ⟨(0, 0), fun h => absurd h hi⟩
  obtain ⟨ad, had⟩ := Classical.axiomOfChoice h0
  refine ⟨fun i => (ad i).1, fun i => (ad i).2, ⟨fun i hi => (had i hi).2, fun i j hi hj e => ?_⟩, fun i hi => (had i hi).1⟩
  have e : (ad i).1 = (ad j).1 := e
  obtain ⟨-, -, -, ⟨cf, k, fi, f, cell, a1, a2, a3, a4, a5, -⟩, hTi⟩ := had i hi
  obtain ⟨-, -, -, ⟨cf', k', fi', f', cell', b1, b2, b3, b4, b5, -⟩, hTj⟩ := had j hj
  rw [e] at a3
  cases a3.symm.trans b3
  cases a1.symm.trans b1
  have ev : (ad i).2 = (ad j).2 := Value.ref.inj (Option.some.inj (a5.symm.trans b5))
  rw [ev] at hTi
  obtain ⟨c1, p1, -, -, p4, p5, p6, -⟩ := hTi
  obtain ⟨c2, q1, -, -, q4, q5, q6, -⟩ := hTj
  cases p1.symm.trans q1
  have hli := List.all_eq_true.mp sLen_ok i (List.mem_range.mpr hi)
  have hlj := List.all_eq_true.mp sLen_ok j (List.mem_range.mpr hj)
  simp only [Bool.and_eq_true, decide_eq_true_eq] at hli hlj
  have en : sbN.getD i 0 = sbN.getD j 0 := by
    have h9 := congrArg Int32.toInt (p5.symm.trans q5)
    rw [Int32.toInt_ofNat_of_lt (by omega), Int32.toInt_ofNat_of_lt (by omega)] at h9
    omega
  have hd := List.all_eq_true.mp (List.all_eq_true.mp sDif_ok i (List.mem_range.mpr hi)) j (List.mem_range.mpr hj)
  simp only [Bool.or_eq_true, decide_eq_true_eq, Bool.not_eq_true'] at hd
  rcases hd with hd | hd
  · exact hd
  · exfalso
    have : sSame i j = true := by
      simp only [sSame, Bool.and_eq_true, decide_eq_true_eq]
      refine ⟨en, List.all_eq_true.mpr fun k hk => decide_eq_true ?_⟩
      have hk1 := List.mem_range.mp hk
      have h9 := (p6 k hk1).symm.trans (q6 k (by omega))
      exact Value.int.inj (Option.some.inj h9)
    rw [this] at hd
    cases hd
theorem st_sta {args : Array Value} {s : State} {A : Nat → Prop} (hF : ∀ w ∈ FLw, w.before args s = true) (hA : ∀ a : Nat, a < s.heap.size → ¬ A a) (nm : String) (r : Int)
    (h1 : Cond.arrayOf (.static "SixAcres$Loads" nm "[I") .int ∈ FLw) (h2 : Cond.eq (.length (.static "SixAcres$Loads" nm "[I")) (.int (Int32.ofNat 8)) ∈ FLw) (h3 : ∀ j : Nat, j < 8 → Cond.eq (.elem (.static "SixAcres$Loads" nm "[I") (.int (Int32.ofNat j))) (.int (Int32.ofInt ((fwT r).getD j 0))) ∈ FLw) :
    ∃ t : Nat, (Term.static "SixAcres$Loads" nm "[I").eval args s none [] s = some (.ref t) ∧ va_T .int t 8 (fun j => .int (Int32.ofInt ((fwT r).getD j 0))) A s s.heap :=
  va_Tof (by omega) (hF _ h1) (va_eqt (hF _ h2)) (fun j hj => va_eqt (hF _ (h3 j hj))) hA
set_option maxRecDepth 100000 in
theorem fw_ok : (decide (Cond.arrayOf (.static "SixAcres$Loads" "FIRST_WEIGHT" "[I") .int ∈ FLw) && decide (Cond.eq (.length (.static "SixAcres$Loads" "FIRST_WEIGHT" "[I")) (.int (Int32.ofNat 8)) ∈ FLw) && (List.range 8).all (fun j => decide (Cond.eq (.elem (.static "SixAcres$Loads" "FIRST_WEIGHT" "[I") (.int (Int32.ofNat j))) (.int (Int32.ofInt ((fwT 3001).getD j 0))) ∈ FLw))) = true := by decide +kernel
set_option maxRecDepth 100000 in
theorem fb_ok : (decide (Cond.arrayOf (.static "SixAcres$Loads" "FIRST_BEARS" "[I") .int ∈ FLw) && decide (Cond.eq (.length (.static "SixAcres$Loads" "FIRST_BEARS" "[I")) (.int (Int32.ofNat 8)) ∈ FLw) && (List.range 8).all (fun j => decide (Cond.eq (.elem (.static "SixAcres$Loads" "FIRST_BEARS" "[I") (.int (Int32.ofNat j))) (.int (Int32.ofInt ((fwT 3002).getD j 0))) ∈ FLw))) = true := by decide +kernel
set_option maxRecDepth 100000 in
theorem ff_ok : (decide (Cond.eq (.static "java/lang/String" "COMPACT_STRINGS" "Z") (.int 1) ∈ FLw) && decide (Cond.isRef (.static "jdk/internal/util/Preconditions" "SIOOBE_FORMATTER" "Ljava/util/function/BiFunction;") ∈ FLw)) = true := by decide +kernel
def stL : List Cond := [.laysStatic "SixAcres$Loads" "FIRST_WEIGHT" "[I", .laysStatic "SixAcres$Loads" "FIRST_BEARS" "[I", .initialized "SixAcres$Loads", .laysStatic "java/lang/String" "COMPACT_STRINGS" "Z", .initialized "java/lang/String", .laysStatic "jdk/internal/util/Preconditions" "SIOOBE_FORMATTER" "Ljava/util/function/BiFunction;", .initialized "jdk/internal/util/Preconditions", .castable "[I" "java/lang/Cloneable", .arrayOver (.array .int), .arrayClass .int, .arrayClass .byte, .arrayClass .char, .arrayClass .boolean, .arrayClass .long]
set_option maxRecDepth 100000 in
theorem stL_in : stL.all (fun w => decide (w ∈ lw_tbl)) = true := by decide +kernel
theorem stL_at {args : Array Value} {s : State} (hts : ∀ w ∈ lw_tbl, w.before args s = true) {w : Cond} (hw : w ∈ stL) : w.before args s = true := hts w (of_decide_eq_true (List.all_eq_true.mp stL_in w hw))
/-- a word on the tables says the same of whatever arguments -/
theorem st_nw {args : Array Value} {s : State} {w : Cond} (hw : w ∈ TXl) (h : w.before args s = true) : va_Nw w s := by
  have hk : TXl.all (fun w => match w with | .fieldLinkNest _ _ _ _ _ _ => true | .methodLinkNest _ _ _ _ => true | _ => false) = true := by decide +kernel
  have := List.all_eq_true.mp hk w hw
  cases w <;> first | (cases this; done) | exact h
end
