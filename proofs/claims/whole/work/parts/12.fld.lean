section
variable {l : Launch} {g : GG} {y : Nat} {Q : QQ} {Φ : PHI}
/-! cells and their places -/
theorem sh_id {r : Int} (h : (sh r).1 ≠ 99) (h1 : (sh r).1 ≠ 13) (h2 : (sh r).1 ≠ 26) (h3 : r.toNat < 1000) : ∃ k : Nat, r = (k : Int) + 1 ∧ k < 169 := by
  cases r with
  | negSucc n => exact absurd rfl h
  | ofNat n =>
    cases n with
    | zero => exact absurd (show (sh 0).1 = 99 from by decide +kernel) h
    | succ n =>
      refine ⟨n, rfl, ?_⟩
      have h3 : n + 1 < 1000 := h3
      unfold sh at h
      simp only at h
      cases hb : Nat.blt (n + 1) 170 with
      | true => have := Nat.blt_eq.mp hb; omega
      | false =>
        rw [hb] at h
        have e1 : Nat.blt (n + 1) 1030 = true := Nat.blt_eq.mpr (by omega)
        have e2 : Nat.blt (n + 1) 1000 = true := Nat.blt_eq.mpr h3
        rw [e1, e2] at h
        exact absurd rfl h
theorem sh_big {r : Int} (h : 1000 ≤ r.toNat) : (sh r).1 = 99 ∨ (sh r).1 = 13 ∨ (sh r).1 = 21 ∨ (sh r).1 = 26 := by
  unfold sh
  match r with
  | .negSucc n => exact Or.inl rfl
  | .ofNat n =>
    have h : 1000 ≤ n := h
    simp only
    have e0 : Nat.blt n 170 = false := by
      cases hb : Nat.blt n 170 with
      | true => have := Nat.blt_eq.mp hb; omega
      | false => rfl
    rw [e0]
    simp only [cond_false]
    cases Nat.blt n 1030 with
    | true =>
      simp only [cond_true]
      cases Nat.blt n 1000 with
      | true => exact Or.inl rfl
      | false => exact Or.inr (Or.inl rfl)
    | false =>
      simp only [cond_false]
      cases Nat.blt n 2030 with
      | true =>
        simp only [cond_true]
        cases Nat.blt n 2000 with
        | true => exact Or.inl rfl
        | false => exact Or.inr (Or.inr (Or.inl rfl))
      | false =>
        simp only [cond_false]
        cases Nat.beq n 3000 with
        | true => exact Or.inr (Or.inr (Or.inr rfl))
        | false => exact Or.inl rfl
theorem sh_small {r : Int} {c : Nat} (h : (sh r).1 = c) (h1 : c ≠ 99) (h2 : c ≠ 13) (h3 : c ≠ 21) (h4 : c ≠ 26) : ∃ k : Nat, r = (k : Int) + 1 ∧ k < 169 := by
  refine sh_id (by omega) (by omega) (by omega) ?_
  rcases Nat.lt_or_ge r.toNat 1000 with q | q
  · exact q
  · rcases sh_big q with q | q | q | q <;> omega
theorem rfv_id (g : GG) {k : Nat} (h : k < 169) : rfv g ((k : Int) + 1) = .ref (gB g + k) := by
  show rfv g (Int.ofNat (k + 1)) = _
  unfold rfv
  simp only
  rw [if_neg (by omega), if_pos (by omega)]
  rfl
theorem okr_cnt {al : AL} {k : Nat} (h : okr al ((k : Int) + 1) = true) (hk : k < 169) : k < cnt al := by
  match al with
  | none => exact hk
  | some (z, _, _) =>
    have h : k + 1 < z := Nat.blt_eq.mp h
    show k < z - 1
    omega
theorem wl_get (g : GG) (μ : MM) {z k : Nat} (h : k < z) : (wl g μ z)[k]? = some (gB g + k, ceE g μ k) := by
  unfold wl
  rw [List.getElem?_map, List.getElem?_range h]
  rfl
theorem wl_D (g : GG) (μ : MM) (z : Nat) : va_D (gP g) (wl g μ z) := by
  refine ⟨fun i j p q hi hj e => ?_, fun k q hk => ?_⟩
  · unfold wl at hi hj
    rw [List.getElem?_map] at hi hj
    cases h1 : (List.range z)[i]? with
    | none => rw [h1] at hi; cases hi
    | some a =>
      cases h2 : (List.range z)[j]? with
      | none => rw [h2] at hj; cases hj
      | some b =>
        rw [h1] at hi; rw [h2] at hj
        cases hi; cases hj
        have ea := (List.getElem?_eq_some_iff.mp h1).2
        have eb := (List.getElem?_eq_some_iff.mp h2).2
        rw [List.getElem_range] at ea eb
        have e : gB g + a = gB g + b := e
        omega
  · unfold wl at hk
    rw [List.getElem?_map] at hk
    cases h1 : (List.range z)[k]? with
    | none => rw [h1] at hk; cases hk
    | some a => rw [h1] at hk; cases hk; exact Nat.le_add_right _ _
theorem ceE_congr {g : GG} {μ μ' : MM} {k : Nat} (h : ∀ i : Int, 0 ≤ i → μ ((k : Int) + 1) i = μ' ((k : Int) + 1) i) : ceE g μ k = ceE g μ' k := by
  unfold ceE
  have e : ∀ j : Nat, μ ((k : Int) + 1) (j : Int) = μ' ((k : Int) + 1) (j : Int) := fun j => h j (by omega)
  simp only [e]
theorem wl_set (g : GG) {μ μ' : MM} {z k : Nat} {x : va_E} (hk : k < z) (hx : ceE g μ' k = x) (ho : ∀ j, j ≠ k → ceE g μ' j = ceE g μ j) : (wl g μ z).set k (gB g + k, x) = wl g μ' z := by
  apply List.ext_getElem?
  intro i
  by_cases hi : i < z
  · rw [wl_get g μ' hi]
    by_cases e : i = k
    · subst e
      rw [List.getElem?_set_self (by unfold wl; simpa using hi), hx]
    · rw [List.getElem?_set_ne (fun q => e q.symm), wl_get g μ hi, ho i e]
  · rw [List.getElem?_eq_none (by unfold wl; simp; omega), List.getElem?_eq_none (by unfold wl; simp; omega)]
theorem mup_row {μ : MM} {r i x a b : Int} (h : a ≠ r) : mup μ r i x a b = μ a b := by
  unfold mup
  rw [if_neg (fun q => h q.1)]
theorem mup_pl {μ : MM} {r i x b : Int} (h : b ≠ i) : mup μ r i x r b = μ r b := by
  unfold mup
  rw [if_neg (fun q => h q.2)]
theorem mup_at {μ : MM} {r i x : Int} : mup μ r i x r i = x := by
  unfold mup
  rw [if_pos ⟨rfl, rfl⟩]
theorem ceE_other {g : GG} {μ : MM} {k j : Nat} {i x : Int} (h : j ≠ k) : ceE g (mup μ ((k : Int) + 1) i x) j = ceE g μ j :=
  ceE_congr (fun b _ => mup_row (by omega))
theorem ceE_obj {g : GG} {μ : MM} {k c : Nat} (h : (sh ((k : Int) + 1)).1 = c) (hc : c < 13) : ceE g μ k = .inr (c, (List.range (cNf c)).map (fun j => fvl g c j (μ ((k : Int) + 1) (j : Int)))) := by
  unfold ceE
  rw [h, if_pos hc]
theorem ceE_arr {g : GG} {μ : MM} {k c : Nat} (h : (sh ((k : Int) + 1)).1 = c) (h1 : ¬ c < 13) (h2 : c ≠ 24) (h3 : c ≠ 25) : ceE g μ k = .inl (gA g c, (sh ((k : Int) + 1)).2.toNat, .inl (fun j => Int32.ofInt (μ ((k : Int) + 1) (j : Int)))) := by
  unfold ceE
  rw [h, if_neg h1, if_neg h2, if_neg h3]
theorem ceE_lng {g : GG} {μ : MM} {k : Nat} (h : (sh ((k : Int) + 1)).1 = 24) : ceE g μ k = .inl (gA g 24, (sh ((k : Int) + 1)).2.toNat, .inr (.inl (fun j => Int64.ofInt (μ ((k : Int) + 1) (j : Int))))) := by
  unfold ceE
  rw [h, if_neg (by decide), if_pos rfl]
theorem ceE_rows {g : GG} {μ : MM} {k : Nat} (h : (sh ((k : Int) + 1)).1 = 25) : ceE g μ k = .inl (gA g 25, (sh ((k : Int) + 1)).2.toNat, .inr (.inr (.inr (.inr (fun i => if i < (sh ((k : Int) + 1)).2.toNat then some (gB g + k + 1 + i) else none))))) := by
  unfold ceE
  rw [h, if_neg (by decide), if_neg (by decide), if_pos rfl]
/-! the classes' tables -/
theorem cls13_get {c : Nat} (h : c < 13) : cls13[c]? = some (cNm c, cFd c, cNf c) := by
  unfold cls13
  rw [List.getElem?_map, List.getElem?_range h]
  rfl
def lyW (c : Nat) : Bool := (List.range (cNf c)).all (fun k => decide (u_lay (cNm c) (cFd c) k ∈ TLl))
set_option maxRecDepth 100000 in
theorem ly_ok : (List.range 13).all lyW = true := by decide +kernel
theorem TG_of {ws : List Cond} (h : GoodIn lw_tbl ws) (hg : ws.all goodWord = true) {w : Cond} (hw : w ∈ ws) : w ∈ TG := List.mem_filter.mpr ⟨(h w hw).1, List.all_eq_true.mp hg w hw⟩
theorem ly_in {c : Nat} (h : c < 13) : ∀ w ∈ u_ws (cNm c) (cFd c) (cNf c), w ∈ TG := by
  intro w hw
  obtain ⟨k, hk, rfl⟩ := List.mem_map.mp hw
  have h1 := List.all_eq_true.mp ly_ok c (List.mem_range.mpr h)
  exact TG_of TLl_in (by decide +kernel) (of_decide_eq_true (List.all_eq_true.mp h1 k hk))
def tyC (c : Nat) : Bool := (List.range (cNf c)).all (fun k => decide (parseFieldDescriptor (cFd c k).2.2.1 = some (cTy c k)) && decide ((cFd c k).1 = cNm c) && (match clk c k, cTy c k with | 0, .int => true | 1, .long => true | 4, .boolean => true | 5, .char => true | 2, .object _ => true | 2, .array _ => true | 3, .object _ => true | 3, .array _ => true | _, _ => false) && (decide (clk c k = 2) == (cFd c k).2.2.2))
set_option maxRecDepth 100000 in
theorem ty_ok : (List.range 13).all tyC = true := by decide +kernel
theorem ty_at {c k : Nat} (h : c < 13) (hk : k < cNf c) : parseFieldDescriptor (cFd c k).2.2.1 = some (cTy c k) ∧ (cFd c k).1 = cNm c ∧ (match clk c k, cTy c k with | 0, .int => true | 1, .long => true | 4, .boolean => true | 5, .char => true | 2, .object _ => true | 2, .array _ => true | 3, .object _ => true | 3, .array _ => true | _, _ => false) = true ∧ (decide (clk c k = 2) = (cFd c k).2.2.2) := by
  have h1 := List.all_eq_true.mp ty_ok c (List.mem_range.mpr h)
  have h2 := List.all_eq_true.mp h1 k (List.mem_range.mpr hk)
  simp only [Bool.and_eq_true, decide_eq_true_eq, beq_iff_eq] at h2
  exact ⟨h2.1.1.1, h2.1.1.2, h2.1.2, h2.2⟩
def nmC (c : Nat) : Bool := (List.range (cNf c)).all (fun a => (List.range (cNf c)).all (fun b => decide (a = b) || !decide ((cFd c a).2.1 = (cFd c b).2.1)))
set_option maxRecDepth 100000 in
theorem nm_ok : (List.range 13).all nmC = true := by decide +kernel
theorem nm_at {c : Nat} (h : c < 13) : ∀ a, a < cNf c → ∀ b, b < cNf c → a ≠ b → (cFd c a).2.1 ≠ (cFd c b).2.1 := by
  intro a ha b hb hne
  have h1 := List.all_eq_true.mp nm_ok c (List.mem_range.mpr h)
  have h2 := List.all_eq_true.mp (List.all_eq_true.mp h1 a (List.mem_range.mpr ha)) b (List.mem_range.mpr hb)
  simp only [Bool.or_eq_true, decide_eq_true_eq, Bool.not_eq_true', decide_eq_false_iff_not] at h2
  rcases h2 with q | q
  · exact absurd q hne
  · exact q
end
