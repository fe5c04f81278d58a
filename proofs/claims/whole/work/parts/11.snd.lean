section
variable {l : Launch} {g : GG} {y : Nat} {Q : QQ} {Φ : PHI}
/-! locals -/
def prs (g : GG) (ls : List VV) : List (Nat × Value) := (List.range ls.length).filterMap (fun i => match ls[i]? with | some v => if v.1 = 3 then none else some (i, cv g v) | none => none)
theorem prs_mem {ls : List VV} {i : Nat} {v : VV} (h : ls[i]? = some v) (hv : ¬ v.1 = 3) : (i, cv g v) ∈ prs g ls := by
  unfold prs
  refine List.mem_filterMap.mpr ⟨i, List.mem_range.mpr (List.getElem?_eq_some_iff.mp h).1, ?_⟩
  rw [h]
  simp [hv]
theorem LSR.has {n : Nat} {ls : List VV} {lc : Array Slot} (h : LSR g n ls lc) : lv_has lc n (prs g ls) := by
  refine ⟨h.2.1, h.2.2.1, fun q hq => ?_⟩
  obtain ⟨i, -, hi⟩ := List.mem_filterMap.mp hq
  cases hl : ls[i]? with
  | none => rw [hl] at hi; simp at hi
  | some v =>
    rw [hl] at hi
    simp only at hi
    by_cases h3 : v.1 = 3
    · rw [if_pos h3] at hi; cases hi
    · rw [if_neg h3] at hi
      cases hi
      exact h.2.2.2 i v hl h3
theorem kill_get {k : Nat} {ls : List VV} {j : Nat} {w : VV} (h : (kill k ls)[j]? = some w) (hw : ¬ w.1 = 3) : ls[j]? = some w ∧ ¬ (j + 1 = k ∧ w.1 = 1) := by
  match k with
  | 0 => exact ⟨h, fun q => by omega⟩
  | k + 1 =>
    unfold kill at h
    simp only at h
    split at h
    · rename_i x hx
      by_cases hj : j = k
      · subst hj
        rw [List.getElem?_set_self (List.getElem?_eq_some_iff.mp hx).1] at h
        cases h
        exact absurd rfl hw
      · rw [List.getElem?_set_ne (fun q => hj q.symm)] at h
        exact ⟨h, fun q => hj (by omega)⟩
    · rename_i hx
      refine ⟨h, fun q => ?_⟩
      have hj : j = k := by omega
      subst hj
      obtain ⟨t, x⟩ := w
      have : t = 1 := q.2
      subst this
      exact hx x h
theorem kill_len (k : Nat) (ls : List VV) : (kill k ls).length = ls.length := by
  match k with
  | 0 => rfl
  | k + 1 =>
    unfold kill
    simp only
    split
    · rw [List.length_set]
    · rfl
theorem lsr_sto1 {n k : Nat} {v : VV} {ls ls' : List VV} {lc lc' : Array Slot} (hF : gF g = .null ∨ ∃ a, gF g = .ref a) (h : LSR g n ls lc) (hs : sto1 k v ls = some ls') (h' : lv_has lc' n ((k, cv g v) :: (prs g ls).filter (fun q => !(q.1 == k) && !(q.1 + 1 == k && q.2.category == 2)))) : LSR g n ls' lc' := by
  unfold sto1 at hs
  cases hb : Nat.blt k ls.length with
  | false => rw [hb] at hs; cases hs
  | true =>
    rw [hb] at hs
    simp only [cond_true, Option.some.injEq] at hs
    have hk : k < ls.length := Nat.blt_eq.mp hb
    subst hs
    refine ⟨by rw [List.length_set, kill_len]; exact h.1, h'.1, h'.2.1, fun j w hj hw => ?_⟩
    by_cases e : j = k
    · subst e
      rw [List.getElem?_set_self (by rw [kill_len]; exact hk)] at hj
      cases hj
      exact h'.2.2 _ List.mem_cons_self
    · rw [List.getElem?_set_ne (fun q => e q.symm)] at hj
      obtain ⟨h1, h2⟩ := kill_get hj hw
      refine h'.2.2 (j, cv g w) (List.mem_cons_of_mem _ (List.mem_filter.mpr ⟨prs_mem h1 hw, ?_⟩))
      simp only [Bool.and_eq_true, Bool.not_eq_true', beq_eq_false_iff_ne, ne_eq, Bool.and_eq_false_iff, cv_cat g hF]
      refine ⟨e, ?_⟩
      by_cases q : j + 1 = k
      · refine Or.inr ?_
        rw [if_neg (fun c => h2 ⟨q, c⟩)]
        decide
      · exact Or.inl q
theorem lsr_sto2 {n k : Nat} {v : VV} {ls ls' : List VV} {lc lc' : Array Slot} (hF : gF g = .null ∨ ∃ a, gF g = .ref a) (h : LSR g n ls lc) (hs : sto2 k v ls = some ls') (h' : lv_has lc' n ((k, cv g v) :: (prs g ls).filter (fun q => !(q.1 == k) && (!(q.1 == k + 1) && !(q.1 + 1 == k && q.2.category == 2))))) : LSR g n ls' lc' := by
  unfold sto2 at hs
  cases hb : Nat.blt (k + 1) ls.length with
  | false => rw [hb] at hs; cases hs
  | true =>
    rw [hb] at hs
    simp only [cond_true, Option.some.injEq] at hs
    have hk : k + 1 < ls.length := Nat.blt_eq.mp hb
    subst hs
    refine ⟨by rw [List.length_set, List.length_set, kill_len]; exact h.1, h'.1, h'.2.1, fun j w hj hw => ?_⟩
    by_cases e1 : j = k + 1
    · subst e1
      rw [List.getElem?_set_self (by rw [List.length_set, kill_len]; exact hk)] at hj
      cases hj
      exact absurd rfl hw
    rw [List.getElem?_set_ne (fun q => e1 q.symm)] at hj
    by_cases e : j = k
    · subst e
      rw [List.getElem?_set_self (by rw [kill_len]; omega)] at hj
      cases hj
      exact h'.2.2 _ List.mem_cons_self
    · rw [List.getElem?_set_ne (fun q => e q.symm)] at hj
      obtain ⟨h1, h2⟩ := kill_get hj hw
      refine h'.2.2 (j, cv g w) (List.mem_cons_of_mem _ (List.mem_filter.mpr ⟨prs_mem h1 hw, ?_⟩))
      simp only [Bool.and_eq_true, Bool.not_eq_true', beq_eq_false_iff_ne, ne_eq, Bool.and_eq_false_iff, cv_cat g hF]
      refine ⟨e, e1, ?_⟩
      by_cases q : j + 1 = k
      · refine Or.inr ?_
        rw [if_neg (fun c => h2 ⟨q, c⟩)]
        decide
      · exact Or.inl q
theorem mem_kill {k : Nat} {ls : List VV} (h : ∀ v ∈ ls, wfv v) : ∀ v ∈ kill k ls, wfv v := by
  match k with
  | 0 => exact h
  | k + 1 =>
    unfold kill
    simp only
    split
    · intro v hv
      rcases List.mem_or_eq_of_mem_set hv with q | q
      · exact h v q
      · rw [q]; exact wf_u
    · exact h
theorem wf_sto1 {k : Nat} {v : VV} {ls ls' : List VV} (h : ∀ w ∈ ls, wfv w) (hv : wfv v) (hs : sto1 k v ls = some ls') : ∀ w ∈ ls', wfv w := by
  unfold sto1 at hs
  cases hb : Nat.blt k ls.length with
  | false => rw [hb] at hs; cases hs
  | true =>
    rw [hb] at hs
    simp only [cond_true, Option.some.injEq] at hs
    subst hs
    intro w hw
    rcases List.mem_or_eq_of_mem_set hw with q | q
    · exact mem_kill h w q
    · rw [q]; exact hv
theorem wf_sto2 {k : Nat} {v : VV} {ls ls' : List VV} (h : ∀ w ∈ ls, wfv w) (hv : wfv v) (hs : sto2 k v ls = some ls') : ∀ w ∈ ls', wfv w := by
  unfold sto2 at hs
  cases hb : Nat.blt (k + 1) ls.length with
  | false => rw [hb] at hs; cases hs
  | true =>
    rw [hb] at hs
    simp only [cond_true, Option.some.injEq] at hs
    subst hs
    intro w hw
    rcases List.mem_or_eq_of_mem_set hw with q | q
    · rcases List.mem_or_eq_of_mem_set q with q | q
      · exact mem_kill h w q
      · rw [q]; exact hv
    · rw [q]; exact wf_u
theorem sto1_lt {k : Nat} {v : VV} {ls ls' : List VV} (hs : sto1 k v ls = some ls') : k < ls.length := by
  unfold sto1 at hs
  cases hb : Nat.blt k ls.length with
  | false => rw [hb] at hs; cases hs
  | true => exact Nat.blt_eq.mp hb
theorem sto2_lt {k : Nat} {v : VV} {ls ls' : List VV} (hs : sto2 k v ls = some ls') : k + 1 < ls.length := by
  unfold sto2 at hs
  cases hb : Nat.blt (k + 1) ls.length with
  | false => rw [hb] at hs; cases hs
  | true => exact Nat.blt_eq.mp hb
/-- a store of one slot, its row given -/
theorem ws_sv1 {t i pc pc' len : Nat} (hpc : pc' = pc + len) {ls st : List VV} {al : AL} {μ : MM}
    (row : ∀ (x : Int) (p : Program) (e : Env) (R : Room) (s : State) (m : MethodId) (args : Array Value) (below : List Frame) (meth : Method) (c : Code) (H : Heap) (locs : List Loc) (cells slots : Nat) (Qs : State → Prop) (lc : Array Slot) (rest : List Value) (lv lv' : List (Nat × Value)), CX g y p R s m args meth c → lv_has lc (miT.get y).1 lv → i < (miT.get y).1 → (i, cv g (t, x)) :: lv.filter (fun q => !(q.1 == i) && !(q.1 + 1 == i && q.2.category == 2)) = lv' → (∀ lc' : Array Slot, lv_has lc' (miT.get y).1 lv' → W p l e R s m args below meth c H locs cells slots Qs (F0 m pc' lc' rest)) → W p l e R s m args below meth c H locs cells slots Qs (F0 m pc lc (cv g (t, x) :: rest)))
    (k : wgo (WX l g y Φ) pc len (sv1 t i ls st al μ)) : WX l g y Φ pc ls st al μ := by
  unfold sv1 at k
  split at k
  · rename_i t' x st
    cases hb : Nat.beq t' t with
    | false => rw [hb] at k; exact k.elim
    | true =>
      rw [hb] at k
      have e1 : t' = t := Nat.eq_of_beq_eq_true hb
      subst e1
      simp only [cond_true] at k
      cases hs : sto1 i (t', x) ls with
      | none => rw [hs] at k; exact k.elim
      | some ls' =>
        rw [hs] at k
        have k : WX l g y Φ (pc + len) ls' st al μ := k
        rw [← hpc] at k
        intro p e R s m args below meth c H locs cells slots mc ms lc h1 h2 h3 h4 h5 h6
        refine row x p e R s m args below meth c H locs cells slots _ lc _ _ _ h1 h4.has (h4.1 ▸ sto1_lt hs) rfl fun lc' h' => ?_
        exact k p e R s m args below meth c H locs cells slots mc ms lc' h1 h2 h3 (lsr_sto1 h1.ref h4 hs h') (wf_sto1 h5 (h6 _ List.mem_cons_self) hs) (fun v hv => h6 v (List.mem_cons_of_mem _ hv))
  · exact k.elim
theorem ws_sv2 {i pc pc' len : Nat} (hpc : pc' = pc + len) {ls st : List VV} {al : AL} {μ : MM}
    (row : ∀ (x : Int) (p : Program) (e : Env) (R : Room) (s : State) (m : MethodId) (args : Array Value) (below : List Frame) (meth : Method) (c : Code) (H : Heap) (locs : List Loc) (cells slots : Nat) (Qs : State → Prop) (lc : Array Slot) (rest : List Value) (lv lv' : List (Nat × Value)), CX g y p R s m args meth c → lv_has lc (miT.get y).1 lv → i + 1 < (miT.get y).1 → (i, cv g (1, x)) :: lv.filter (fun q => !(q.1 == i) && (!(q.1 == i + 1) && !(q.1 + 1 == i && q.2.category == 2))) = lv' → (∀ lc' : Array Slot, lv_has lc' (miT.get y).1 lv' → W p l e R s m args below meth c H locs cells slots Qs (F0 m pc' lc' rest)) → W p l e R s m args below meth c H locs cells slots Qs (F0 m pc lc (cv g (1, x) :: rest)))
    (k : wgo (WX l g y Φ) pc len (sv2 i ls st al μ)) : WX l g y Φ pc ls st al μ := by
  unfold sv2 at k
  split at k
  · rename_i x st
    cases hs : sto2 i (1, x) ls with
    | none => rw [hs] at k; exact k.elim
    | some ls' =>
      rw [hs] at k
      have k : WX l g y Φ (pc + len) ls' st al μ := k
      rw [← hpc] at k
      intro p e R s m args below meth c H locs cells slots mc ms lc h1 h2 h3 h4 h5 h6
      refine row x p e R s m args below meth c H locs cells slots _ lc _ _ _ h1 h4.has (h4.1 ▸ sto2_lt hs) rfl fun lc' h' => ?_
      exact k p e R s m args below meth c H locs cells slots mc ms lc' h1 h2 h3 (lsr_sto2 h1.ref h4 hs h') (wf_sto2 h5 (h6 _ List.mem_cons_self) hs) (fun v hv => h6 v (List.mem_cons_of_mem _ hv))
  · exact k.elim
theorem ws_iinc {i pc : Nat} {d : Int} (hd : decode (mB y) pc = .ok (.iinc i d, 3)) {ls st : List VV} {al : AL} {μ : MM} {n : Nat} {u v : Int} (k : wgo (WX l g y Φ) pc 3 (stp y (.iinc i d) n u v ls st al μ)) : WX l g y Φ pc ls st al μ := by
  unfold stp at k
  simp only at k
  split at k
  · rename_i x hx
    have k : WX l g y Φ (pc + 3) (ls.set i (0, (Int32.ofInt x + Int32.ofInt d).toInt)) st al μ := k
    intro p e R s m args below meth c H locs cells slots mc ms lc h1 h2 h3 h4 h5 h6
    have hi : i < ls.length := (List.getElem?_eq_some_iff.mp hx).1
    have hli : lc[i]? = some (.val (.int (Int32.ofInt x))) := h4.2.2.2 i (0, x) hx (by show ¬ (0 : Nat) = 3; decide)
    have hhas : lv_has lc (miT.get y).1 ((i, Value.int (Int32.ofInt x)) :: prs g ls) := ⟨h4.2.1, h4.2.2.1, fun q hq => by
      rcases List.mem_cons.mp hq with rfl | hq
      · exact hli
      · exact h4.has.2.2 q hq⟩
    refine lv_iinc (k := 0) h1.1 h1.2.1 hd hhas rfl rfl (h4.1 ▸ hi) rfl fun lc' h' => ?_
    refine k p e R s m args below meth c H locs cells slots mc ms lc' h1 h2 h3 ⟨by rw [List.length_set]; exact h4.1, h'.1, h'.2.1, fun j w hj hw => ?_⟩ (fun w hw => ?_) h6
    · by_cases ej : j = i
      · subst ej
        rw [List.getElem?_set_self hi] at hj
        cases hj
        rw [cv_i]
        exact h'.2.2 _ List.mem_cons_self
      · rw [List.getElem?_set_ne (fun q => ej q.symm)] at hj
        refine h'.2.2 (j, cv g w) (List.mem_cons_of_mem _ (List.mem_filter.mpr ⟨List.mem_cons_of_mem _ (prs_mem hj hw), ?_⟩))
        simp only [Bool.and_eq_true, Bool.not_eq_true', beq_eq_false_iff_ne, ne_eq, Bool.and_eq_false_iff, cv_cat g h1.ref]
        refine ⟨ej, ?_⟩
        by_cases q : j + 1 = i
        · refine Or.inr ?_
          by_cases c1 : w.1 = 1
          · exfalso
            have h7 := h4.2.2.2 j w hj hw
            have h8 := h4.2.2.1.1 j _ h7 (by rw [cv_cat g h1.ref, if_pos c1])
            rw [q, hli] at h8
            cases h8
          · rw [if_neg c1]
            decide
        · exact Or.inl q
    · rcases List.mem_or_eq_of_mem_set hw with q | q
      · exact h5 w q
      · rw [q]; exact wf_i _
  · exact k.elim
/-! jumps -/
theorem c32_lt {a b : Int} (ha : -2147483648 ≤ a ∧ a < 2147483648) (hb : -2147483648 ≤ b ∧ b < 2147483648) : Int32.ofInt a < Int32.ofInt b ↔ a < b := by
  rw [Int32.lt_iff_toInt_lt, i32_to ha.1 ha.2, i32_to hb.1 hb.2]
theorem c32_le {a b : Int} (ha : -2147483648 ≤ a ∧ a < 2147483648) (hb : -2147483648 ≤ b ∧ b < 2147483648) : Int32.ofInt a ≤ Int32.ofInt b ↔ a ≤ b := by
  rw [Int32.le_iff_toInt_le, i32_to ha.1 ha.2, i32_to hb.1 hb.2]
theorem c32_eq {a b : Int} (ha : -2147483648 ≤ a ∧ a < 2147483648) (hb : -2147483648 ≤ b ∧ b < 2147483648) : Int32.ofInt a = Int32.ofInt b ↔ a = b := by
  rw [← Int32.toInt_inj, i32_to ha.1 ha.2, i32_to hb.1 hb.2]
theorem z32 : (0 : Int32) = Int32.ofInt 0 := rfl
theorem r0 : (-2147483648 : Int) ≤ 0 ∧ (0 : Int) < 2147483648 := by decide
theorem ws_if {c : ClassFile.Cond} {o : Int} {n pc : Nat} (hd : decode (mB y) pc = .ok (.ifCond c o, 3)) (ht : (pc : Int) + o = (n : Int)) {x : Int} {ls st : List VV} {al : AL} {μ : MM} (k : (ccmp c x 0 → WX l g y Φ n ls st al μ) ∧ (¬ ccmp c x 0 → WX l g y Φ (pc + 3) ls st al μ)) : WX l g y Φ pc ls ((0, x) :: st) al μ := by
  intro p e R s m args below meth cc H locs cells slots mc ms lc h1 h2 h3 h4 h5 h6
  have hx := (h6 (0, x) List.mem_cons_self).1 rfl
  have h6' : ∀ v ∈ st, wfv v := fun v hv => h6 v (List.mem_cons_of_mem _ hv)
  have kt := fun q => k.1 q p e R s m args below meth cc H locs cells slots mc ms lc h1 h2 h3 h4 h5 h6'
  have kf := fun q => k.2 q p e R s m args below meth cc H locs cells slots mc ms lc h1 h2 h3 h4 h5 h6'
  cases c with
  | eq => exact lv_if_eq h1.1 h1.2.1 hd ht (fun q => kt ((c32_eq hx r0).mp (z32 ▸ q))) (fun q => kf (fun z => q (z32 ▸ (c32_eq hx r0).mpr z)))
  | ne => exact lv_if_ne h1.1 h1.2.1 hd ht (fun q => kt (fun z => q (z32 ▸ (c32_eq hx r0).mpr z))) (fun q => kf (fun z => z ((c32_eq hx r0).mp (z32 ▸ q))))
  | lt => exact lv_if_lt h1.1 h1.2.1 hd ht (fun q => kt ((c32_lt hx r0).mp (z32 ▸ q))) (fun q => kf (fun z => q (z32 ▸ (c32_lt hx r0).mpr z)))
  | ge => exact lv_if_ge h1.1 h1.2.1 hd ht (fun q => kt ((c32_le r0 hx).mp (z32 ▸ q))) (fun q => kf (fun z => q (z32 ▸ (c32_le r0 hx).mpr z)))
  | gt => exact lv_if_gt h1.1 h1.2.1 hd ht (fun q => kt ((c32_lt r0 hx).mp (z32 ▸ q))) (fun q => kf (fun z => q (z32 ▸ (c32_lt r0 hx).mpr z)))
  | le => exact lv_if_le h1.1 h1.2.1 hd ht (fun q => kt ((c32_le hx r0).mp (z32 ▸ q))) (fun q => kf (fun z => q (z32 ▸ (c32_le hx r0).mpr z)))
theorem ws_icmp {c : ClassFile.Cond} {o : Int} {n pc : Nat} (hd : decode (mB y) pc = .ok (.if_icmp c o, 3)) (ht : (pc : Int) + o = (n : Int)) {a b : Int} {ls st : List VV} {al : AL} {μ : MM} (k : (ccmp c a b → WX l g y Φ n ls st al μ) ∧ (¬ ccmp c a b → WX l g y Φ (pc + 3) ls st al μ)) : WX l g y Φ pc ls ((0, b) :: (0, a) :: st) al μ := by
  intro p e R s m args below meth cc H locs cells slots mc ms lc h1 h2 h3 h4 h5 h6
  have hb := (h6 (0, b) List.mem_cons_self).1 rfl
  have ha := (h6 (0, a) (List.mem_cons_of_mem _ List.mem_cons_self)).1 rfl
  have h6' : ∀ v ∈ st, wfv v := fun v hv => h6 v (List.mem_cons_of_mem _ (List.mem_cons_of_mem _ hv))
  have kt := fun q => k.1 q p e R s m args below meth cc H locs cells slots mc ms lc h1 h2 h3 h4 h5 h6'
  have kf := fun q => k.2 q p e R s m args below meth cc H locs cells slots mc ms lc h1 h2 h3 h4 h5 h6'
  cases c with
  | eq => exact lv_icmp_eq h1.1 h1.2.1 hd ht (fun q => kt ((c32_eq ha hb).mp q)) (fun q => kf (fun z => q ((c32_eq ha hb).mpr z)))
  | ne => exact lv_icmp_ne h1.1 h1.2.1 hd ht (fun q => kt (fun z => q ((c32_eq ha hb).mpr z))) (fun q => kf (fun z => z ((c32_eq ha hb).mp q)))
  | lt => exact lv_icmp_lt h1.1 h1.2.1 hd ht (fun q => kt ((c32_lt ha hb).mp q)) (fun q => kf (fun z => q ((c32_lt ha hb).mpr z)))
  | ge => exact lv_icmp_ge h1.1 h1.2.1 hd ht (fun q => kt ((c32_le hb ha).mp q)) (fun q => kf (fun z => q ((c32_le hb ha).mpr z)))
  | gt => exact lv_icmp_gt h1.1 h1.2.1 hd ht (fun q => kt ((c32_lt hb ha).mp q)) (fun q => kf (fun z => q ((c32_lt hb ha).mpr z)))
  | le => exact lv_icmp_le h1.1 h1.2.1 hd ht (fun q => kt ((c32_le ha hb).mp q)) (fun q => kf (fun z => q ((c32_le ha hb).mpr z)))
theorem swt_at {K : Int → Prop} : ∀ (offs : List Int) (x lo : Int) (j : Nat) (o : Int), swt x lo offs K → offs[j]? = some o → x = lo + j → K o
  | [], _, _, _, _, _, h, _ => by simp at h
  | o' :: os, x, lo, 0, o, h, hj, hx => by
    simp only [List.getElem?_cons_zero, Option.some.injEq] at hj
    subst hj
    exact h.1 (by omega)
  | o' :: os, x, lo, j + 1, o, h, hj, hx => swt_at os x (lo + 1) j o h.2 (by simpa using hj) (by omega)
theorem ws_table {d lo hi : Int} {offs : Array Int} {len pc : Nat} (hd : decode (mB y) pc = .ok (.tableswitch d lo hi offs, len)) (h0 : 0 ≤ (pc : Int) + d) (ho : offs.toList.all (fun o => decide (0 ≤ (pc : Int) + o)) = true) (hz : (offs.size : Int) = hi - lo + 1) {x : Int} {ls st : List VV} {al : AL} {μ : MM} (k : swt x lo offs.toList (fun o => WX l g y Φ ((pc : Int) + o).toNat ls st al μ) ∧ ((x < lo ∨ hi < x) → WX l g y Φ ((pc : Int) + d).toNat ls st al μ)) : WX l g y Φ pc ls ((0, x) :: st) al μ := by
  intro p e R s m args below meth cc H locs cells slots mc ms lc h1 h2 h3 h4 h5 h6
  have hx := (h6 (0, x) List.mem_cons_self).1 rfl
  have h6' : ∀ v ∈ st, wfv v := fun v hv => h6 v (List.mem_cons_of_mem _ hv)
  have ex := i32_to hx.1 hx.2
  by_cases q : x < lo ∨ hi < x
  · exact lv_tableOut (tgt := ((pc : Int) + d).toNat) h1.1 h1.2.1 hd (by rw [ex]; exact q) (by omega) (k.2 q p e R s m args below meth cc H locs cells slots mc ms lc h1 h2 h3 h4 h5 h6')
  · have hj : (x - lo).toNat < offs.size := by omega
    have ho' : 0 ≤ (pc : Int) + offs[(x - lo).toNat] := of_decide_eq_true (List.all_eq_true.mp ho _ (Array.getElem_mem_toList hj))
    refine lv_tableIn (off := offs[(x - lo).toNat]) (tgt := ((pc : Int) + offs[(x - lo).toNat]).toNat) h1.1 h1.2.1 hd (by rw [ex]; omega) (by rw [ex]; omega) (by rw [ex]; exact Array.getElem?_eq_getElem hj) (by omega) ?_
    exact swt_at offs.toList x lo (x - lo).toNat _ k.1 (by rw [Array.getElem?_toList, Array.getElem?_eq_getElem hj]) (by omega) p e R s m args below meth cc H locs cells slots mc ms lc h1 h2 h3 h4 h5 h6'
theorem swl_at {K : Int → Prop} {d : Int} : ∀ (ps : List (Int × Int)) (x : Int), swl x ps (K d) K → K (lookupswitch.offset ps d x)
  | [], _, h => h
  | (a, o) :: ps, x, h => by
    rw [lookupswitch.offset_cons]
    by_cases q : a = x
    · rw [if_pos q]; exact h.1 q.symm
    · rw [if_neg q]; exact swl_at ps x (h.2 (fun z => q z.symm))
theorem ofs_in {P : Int → Prop} {d : Int} (hd : P d) : ∀ (ps : List (Int × Int)) (x : Int), (∀ q ∈ ps, P q.2) → P (lookupswitch.offset ps d x)
  | [], _, _ => hd
  | (a, o) :: ps, x, h => by
    rw [lookupswitch.offset_cons]
    by_cases q : a = x
    · rw [if_pos q]; exact h _ List.mem_cons_self
    · rw [if_neg q]; exact ofs_in hd ps x (fun q hq => h q (List.mem_cons_of_mem _ hq))
theorem ws_look {d : Int} {ps : Array (Int × Int)} {len pc : Nat} (hd : decode (mB y) pc = .ok (.lookupswitch d ps, len)) (h0 : 0 ≤ (pc : Int) + d) (ho : ps.toList.all (fun o => decide (0 ≤ (pc : Int) + o.2)) = true) (hz : (ps.toList.zip (ps.toList.drop 1)).all (fun (a, next) => a.1 < next.1) = true) {x : Int} {ls st : List VV} {al : AL} {μ : MM} (k : swl x ps.toList (WX l g y Φ ((pc : Int) + d).toNat ls st al μ) (fun o => WX l g y Φ ((pc : Int) + o).toNat ls st al μ)) : WX l g y Φ pc ls ((0, x) :: st) al μ := by
  intro p e R s m args below meth cc H locs cells slots mc ms lc h1 h2 h3 h4 h5 h6
  have hx := (h6 (0, x) List.mem_cons_self).1 rfl
  have h6' : ∀ v ∈ st, wfv v := fun v hv => h6 v (List.mem_cons_of_mem _ hv)
  have ex := i32_to hx.1 hx.2
  have hp : 0 ≤ (pc : Int) + lookupswitch.offset ps.toList d x := ofs_in (P := fun o => 0 ≤ (pc : Int) + o) h0 ps.toList x (fun q hq => of_decide_eq_true (List.all_eq_true.mp ho q hq))
  refine lv_lookup (off := lookupswitch.offset ps.toList d x) (tgt := ((pc : Int) + lookupswitch.offset ps.toList d x).toNat) h1.1 h1.2.1 hd hz (by rw [ex]) (by omega) ?_
  exact swl_at (K := fun o => WX l g y Φ ((pc : Int) + o).toNat ls st al μ) (d := d) ps.toList x k p e R s m args below meth cc H locs cells slots mc ms lc h1 h2 h3 h4 h5 h6'
end
