section
variable {l : Launch} {g : GG} {y : Nat} {Q : QQ} {Φ : PHI}
def RowS (l : Launch) (g : GG) (y pc pc' : Nat) (st st' : List Value) : Prop := ∀ (p : Program) (e : Env) (R : Room) (s : State) (m : MethodId) (args : Array Value) (below : List Frame) (meth : Method) (c : Code) (H : Heap) (locs : List Loc) (cells slots : Nat) (Qs : State → Prop) (lc : Array Slot),
  CX g y p R s m args meth c → W p l e R s m args below meth c H locs cells slots Qs (F0 m pc' lc st') → W p l e R s m args below meth c H locs cells slots Qs (F0 m pc lc st)
theorem RowS.ws {pc pc' : Nat} {ls st st' : List VV} {al : AL} {μ : MM} (h : RowS l g y pc pc' (st.map (cv g)) (st'.map (cv g))) (hw : (∀ v ∈ st, wfv v) → ∀ v ∈ st', wfv v) (k : WX l g y Φ pc' ls st' al μ) : WX l g y Φ pc ls st al μ := by
  intro p e R s m args below meth c H locs cells slots mc ms lc h1 h2 h3 h4 h5 h6
  exact h _ _ _ _ _ _ _ _ _ _ _ _ _ _ _ h1 (k p e R s m args below meth c H locs cells slots mc ms lc h1 h2 h3 h4 h5 (hw h6))
theorem map_i (z : Int32) (st : List VV) : List.map (cv g) ((0, z.toInt) :: st) = .int z :: st.map (cv g) := by rw [List.map_cons, cv_i]
theorem map_l (z : Int64) (st : List VV) : List.map (cv g) ((1, z.toInt) :: st) = .long z :: st.map (cv g) := by rw [List.map_cons, cv_l]
theorem wf_push {v : VV} {st st' : List VV} (hv : wfv v) (h : ∀ w ∈ st', w ∈ st) : (∀ w ∈ st, wfv w) → ∀ w ∈ v :: st', wfv w := by
  intro q w hw
  rcases List.mem_cons.mp hw with rfl | hw
  · exact hv
  · exact q w (h w hw)
/-- int, int -> int -/
theorem ws_bi {f : Int → Int → Int} (F : Int32 → Int32 → Int32) (hf : ∀ a b, f a b = (F (Int32.ofInt a) (Int32.ofInt b)).toInt) {pc : Nat} (row : ∀ (x z : Int32) (rest : List Value), RowS l g y pc (pc + 1) (.int z :: .int x :: rest) (.int (F x z) :: rest)) {ls st : List VV} {al : AL} {μ : MM} (k : wgo (WX l g y Φ) pc 1 (bi f ls st al μ)) : WX l g y Φ pc ls st al μ := by
  unfold bi at k
  split at k
  · rename_i b a st
    have k : WX l g y Φ (pc + 1) ls ((0, f a b) :: st) al μ := k
    rw [hf] at k
    refine RowS.ws (st' := (0, (F (Int32.ofInt a) (Int32.ofInt b)).toInt) :: st) ?_ (wf_push (wf_i _) (fun w hw => List.mem_cons_of_mem _ (List.mem_cons_of_mem _ hw))) k
    rw [map_i]
    exact row _ _ _
  · exact k.elim
theorem ws_biD {f : Int → Int → Int} (F : Int32 → Int32 → Int32) (hf : ∀ a b, f a b = (F (Int32.ofInt a) (Int32.ofInt b)).toInt) {pc : Nat} (row : ∀ (x z : Int32) (rest : List Value), ¬ z = 0 → RowS l g y pc (pc + 1) (.int z :: .int x :: rest) (.int (F x z) :: rest)) {ls st : List VV} {al : AL} {μ : MM} (k : wgo (WX l g y Φ) pc 1 (biD f ls st al μ)) : WX l g y Φ pc ls st al μ := by
  unfold biD at k
  split at k
  · rename_i b a st
    have k : ¬ b = 0 ∧ WX l g y Φ (pc + 1) ls ((0, f a b) :: st) al μ := k
    obtain ⟨hb, k⟩ := k
    rw [hf] at k
    intro p e R s m args below meth c H locs cells slots mc ms lc h1 h2 h3 h4 h5 h6
    have hr := (h6 (0, b) List.mem_cons_self).1 rfl
    have hz : ¬ Int32.ofInt b = 0 := by
      intro q
      have := i32_to hr.1 hr.2
      rw [q, Int32.toInt_zero] at this
      exact hb this.symm
    refine RowS.ws (st' := (0, (F (Int32.ofInt a) (Int32.ofInt b)).toInt) :: st) ?_ (wf_push (wf_i _) (fun w hw => List.mem_cons_of_mem _ (List.mem_cons_of_mem _ hw))) k p e R s m args below meth c H locs cells slots mc ms lc h1 h2 h3 h4 h5 h6
    rw [map_i]
    exact row _ _ _ hz
  · exact k.elim
theorem ws_bl {f : Int → Int → Int} (F : Int64 → Int64 → Int64) (hf : ∀ a b, f a b = (F (Int64.ofInt a) (Int64.ofInt b)).toInt) {pc : Nat} (row : ∀ (x z : Int64) (rest : List Value), RowS l g y pc (pc + 1) (.long z :: .long x :: rest) (.long (F x z) :: rest)) {ls st : List VV} {al : AL} {μ : MM} (k : wgo (WX l g y Φ) pc 1 (bl f ls st al μ)) : WX l g y Φ pc ls st al μ := by
  unfold bl at k
  split at k
  · rename_i b a st
    have k : WX l g y Φ (pc + 1) ls ((1, f a b) :: st) al μ := k
    rw [hf] at k
    refine RowS.ws (st' := (1, (F (Int64.ofInt a) (Int64.ofInt b)).toInt) :: st) ?_ (wf_push (wf_l _) (fun w hw => List.mem_cons_of_mem _ (List.mem_cons_of_mem _ hw))) k
    rw [map_l]
    exact row _ _ _
  · exact k.elim
theorem ws_blD {f : Int → Int → Int} (F : Int64 → Int64 → Int64) (hf : ∀ a b, f a b = (F (Int64.ofInt a) (Int64.ofInt b)).toInt) {pc : Nat} (row : ∀ (x z : Int64) (rest : List Value), ¬ z = 0 → RowS l g y pc (pc + 1) (.long z :: .long x :: rest) (.long (F x z) :: rest)) {ls st : List VV} {al : AL} {μ : MM} (k : wgo (WX l g y Φ) pc 1 (blD f ls st al μ)) : WX l g y Φ pc ls st al μ := by
  unfold blD at k
  split at k
  · rename_i b a st
    have k : ¬ b = 0 ∧ WX l g y Φ (pc + 1) ls ((1, f a b) :: st) al μ := k
    obtain ⟨hb, k⟩ := k
    rw [hf] at k
    intro p e R s m args below meth c H locs cells slots mc ms lc h1 h2 h3 h4 h5 h6
    have hr := (h6 (1, b) List.mem_cons_self).2.1 rfl
    have hz : ¬ Int64.ofInt b = 0 := by
      intro q
      have := i64_to hr.1 hr.2
      rw [q, Int64.toInt_zero] at this
      exact hb this.symm
    refine RowS.ws (st' := (1, (F (Int64.ofInt a) (Int64.ofInt b)).toInt) :: st) ?_ (wf_push (wf_l _) (fun w hw => List.mem_cons_of_mem _ (List.mem_cons_of_mem _ hw))) k p e R s m args below meth c H locs cells slots mc ms lc h1 h2 h3 h4 h5 h6
    rw [map_l]
    exact row _ _ _ hz
  · exact k.elim
/-- one int -> int -/
theorem ws_ui {f : Int → Int} (F : Int32 → Int32) (hf : ∀ a, f a = (F (Int32.ofInt a)).toInt) {pc : Nat} (row : ∀ (x : Int32) (rest : List Value), RowS l g y pc (pc + 1) (.int x :: rest) (.int (F x) :: rest)) {ls st : List VV} {al : AL} {μ : MM} (k : wgo (WX l g y Φ) pc 1 (un 0 0 f ls st al μ)) : WX l g y Φ pc ls st al μ := by
  unfold un at k
  split at k
  · rename_i t a st
    cases hb : Nat.beq t 0 with
    | false => rw [hb] at k; exact k.elim
    | true =>
      rw [hb] at k
      have ht : t = 0 := Nat.eq_of_beq_eq_true hb
      subst ht
      have k : WX l g y Φ (pc + 1) ls ((0, f a) :: st) al μ := k
      rw [hf] at k
      refine RowS.ws (st' := (0, (F (Int32.ofInt a)).toInt) :: st) ?_ (wf_push (wf_i _) (fun w hw => List.mem_cons_of_mem _ hw)) k
      rw [map_i]
      exact row _ _
  · exact k.elim
theorem ws_i2l {pc : Nat} (hd : decode (mB y) pc = .ok (.i2l, 1)) {ls st : List VV} {al : AL} {μ : MM} (k : wgo (WX l g y Φ) pc 1 (un 0 1 (fun a => a) ls st al μ)) : WX l g y Φ pc ls st al μ := by
  unfold un at k
  split at k
  · rename_i t a st
    cases hb : Nat.beq t 0 with
    | false => rw [hb] at k; exact k.elim
    | true =>
      rw [hb] at k
      have ht : t = 0 := Nat.eq_of_beq_eq_true hb
      subst ht
      have k : WX l g y Φ (pc + 1) ls ((1, a) :: st) al μ := k
      intro p e R s m args below meth c H locs cells slots mc ms lc h1 h2 h3 h4 h5 h6
      have hr := (h6 (0, a) List.mem_cons_self).1 rfl
      have e1 : (Int32.ofInt a).toInt64 = Int64.ofInt a := by
        rw [← Int64.toInt_inj, Int32.toInt_toInt64, i32_to hr.1 hr.2, i64_to (by omega) (by omega)]
      refine lv_i2l h1.1 h1.2.1 hd e1 ?_
      exact k p e R s m args below meth c H locs cells slots mc ms lc h1 h2 h3 h4 h5 (wf_push (wf_of_l (by omega) (by omega)) (fun w hw => List.mem_cons_of_mem _ hw) h6)
  · exact k.elim
theorem ws_l2i {pc : Nat} (hd : decode (mB y) pc = .ok (.l2i, 1)) {ls st : List VV} {al : AL} {μ : MM} (k : wgo (WX l g y Φ) pc 1 (un 1 0 o_l2i ls st al μ)) : WX l g y Φ pc ls st al μ := by
  unfold un at k
  split at k
  · rename_i t a st
    cases hb : Nat.beq t 1 with
    | false => rw [hb] at k; exact k.elim
    | true =>
      rw [hb] at k
      have ht : t = 1 := Nat.eq_of_beq_eq_true hb
      subst ht
      have k : WX l g y Φ (pc + 1) ls ((0, ((Int64.ofInt a).toInt32).toInt) :: st) al μ := k
      refine RowS.ws (st' := (0, ((Int64.ofInt a).toInt32).toInt) :: st) ?_ (wf_push (wf_i _) (fun w hw => List.mem_cons_of_mem _ hw)) k
      rw [map_i]
      exact fun p e R s m args below meth c H locs cells slots Qs lc C k => lv_l2i C.1 C.2.1 hd rfl k
  · exact k.elim
theorem ws_lcmp {pc : Nat} (hd : decode (mB y) pc = .ok (.lcmp, 1)) {ls st : List VV} {al : AL} {μ : MM} {n : Nat} {u v : Int} (k : wgo (WX l g y Φ) pc 1 (stp y .lcmp n u v ls st al μ)) : WX l g y Φ pc ls st al μ := by
  unfold stp at k
  simp only at k
  split at k
  · rename_i b a st
    have k : WX l g y Φ (pc + 1) ls ((0, o_lcmp a b) :: st) al μ := k
    intro p e R s m args below meth c H locs cells slots mc ms lc h1 h2 h3 h4 h5 h6
    have hb := (h6 (1, b) List.mem_cons_self).2.1 rfl
    have ha := (h6 (1, a) (List.mem_cons_of_mem _ List.mem_cons_self)).2.1 rfl
    have e1 : lg_cmp (Int64.ofInt a) (Int64.ofInt b) = Int32.ofInt (o_lcmp a b) := by
      unfold lg_cmp o_lcmp
      simp only [gt_iff_lt, Int64.lt_iff_toInt_lt, ← Int64.toInt_inj, i64_to ha.1 ha.2, i64_to hb.1 hb.2]
      rcases Int.lt_trichotomy a b with q | q | q
      · rw [if_neg (by omega), if_neg (by omega), if_pos q]; rfl
      · rw [if_neg (by omega), if_pos q, if_neg (by omega), if_pos q]; rfl
      · rw [if_pos q, if_neg (by omega), if_neg (by omega)]; rfl
    refine W.lcmp h1.1 h1.2.1 hd ?_
    rw [e1]
    refine k p e R s m args below meth c H locs cells slots mc ms lc h1 h2 h3 h4 h5 (wf_push (wf_of_i ?_ ?_) (fun w hw => List.mem_cons_of_mem _ (List.mem_cons_of_mem _ hw)) h6)
    · unfold o_lcmp
      split
      · omega
      · split <;> omega
    · unfold o_lcmp
      split
      · omega
      · split <;> omega
  · exact k.elim
/-- a constant -/
theorem ws_const {pc pc' : Nat} {x : Int} (hx : -2147483648 ≤ x ∧ x < 2147483648) (row : ∀ rest : List Value, RowS l g y pc pc' rest (.int (Int32.ofInt x) :: rest)) {ls st : List VV} {al : AL} {μ : MM} (k : WX l g y Φ pc' ls (vI x :: st) al μ) : WX l g y Φ pc ls st al μ :=
  RowS.ws (st' := (0, x) :: st) (row _) (wf_push (wf_of_i hx.1 hx.2) (fun _ h => h)) k
theorem ws_ld {t i pc pc' : Nat} (ht : t = 0 ∨ t = 1 ∨ t = 2) {len : Nat} (hpc : pc' = pc + len) {ls st : List VV} {al : AL} {μ : MM} (row : ∀ (x : Int) (p : Program) (e : Env) (R : Room) (s : State) (m : MethodId) (args : Array Value) (below : List Frame) (meth : Method) (c : Code) (H : Heap) (locs : List Loc) (cells slots : Nat) (Qs : State → Prop) (lc : Array Slot) (rest : List Value), CX g y p R s m args meth c → lc[i]? = some (.val (cv g (t, x))) → W p l e R s m args below meth c H locs cells slots Qs (F0 m pc' lc (cv g (t, x) :: rest)) → W p l e R s m args below meth c H locs cells slots Qs (F0 m pc lc rest)) (k : wgo (WX l g y Φ) pc len (ld t i ls st al μ)) : WX l g y Φ pc ls st al μ := by
  unfold ld at k
  split at k
  · rename_i t' x hl
    cases hb : Nat.beq t' t with
    | false => rw [hb] at k; exact k.elim
    | true =>
      rw [hb] at k
      have e1 : t' = t := Nat.eq_of_beq_eq_true hb
      subst e1
      have k : WX l g y Φ (pc + len) ls ((t', x) :: st) al μ := k
      rw [← hpc] at k
      intro p e R s m args below meth c H locs cells slots mc ms lc h1 h2 h3 h4 h5 h6
      refine row x p e R s m args below meth c H locs cells slots _ lc _ h1 (h4.2.2.2 i (t', x) hl (by show ¬ t' = 3; omega)) ?_
      exact k p e R s m args below meth c H locs cells slots mc ms lc h1 h2 h3 h4 h5 (wf_push (h5 _ (List.mem_of_getElem? hl)) (fun _ h => h) h6)
  · exact k.elim
end
