section
variable {l : Launch} {g : GG} {y : Nat} {Q : QQ} {Φ : PHI}
/-! cells that are made -/
theorem sz_of {p : Program} {e : Env} {R : Room} {s : State} {m : MethodId} {args : Array Value} {below : List Frame} {meth : Method} {cd : Code} {T : State} {H : Heap} {locs : List Loc} {cells slots mc ms z c sl : Nat} {μ : MM} (X : Stand p l e R s m args below meth cd T locs cells slots) (hT : T.heap = H) (C : CX g y p R s m args meth cd) (hR : RP g (some (z, c, sl)) μ s H locs) (hA : ACC y R s g (some (z, c, sl)) cells slots mc ms) : H.size = gB g + (z - 1) := by
  have h1 := X.heapSize
  rw [hT] at h1
  obtain ⟨e1, -, -, -, -, -, e2⟩ := hA
  obtain ⟨-, -, -, -, -, -, -, -, -, -, -, -, -, -, -, -, -, -, -, -, -, -, hBH, -⟩ := id C
  have h2 := hR.2.1.1
  by_cases hz : z - 1 = 0
  · omega
  · have hc : z - 1 - 1 < cnt (some (z, c, sl)) := by show z - 1 - 1 < z - 1; omega
    have h3 := (hR.1.1 (z - 1 - 1) _ (wl_get g μ hc)).lt
    have h3 : gB g + (z - 1 - 1) < H.size := h3
    omega
theorem wl_push {μ : MM} {H H' : Heap} {z : Nat} (hP : va_P (gC g, gI g) cls13 (wl g μ z) H) (ho : ∀ q, q < H.size → H'[q]? = H[q]?) (hn : va_at (gC g, gI g) cls13 (gB g + z, ceE g μ z) H') : va_P (gC g, gI g) cls13 (wl g μ (z + 1)) H' := by
  intro k q hq
  by_cases hk : k < z
  · rw [wl_get g μ (by omega)] at hq
    have h1 := hP k _ (wl_get g μ hk)
    cases hq
    exact h1.kept (ho _ h1.lt)
  · by_cases hk2 : k = z
    · subst hk2
      rw [wl_get g μ (by omega)] at hq
      cases hq
      exact hn
    · rw [List.getElem?_eq_none (by unfold wl; simp; omega)] at hq
      cases hq
theorem S_push {s : State} {H H' : Heap} {locs : List Loc} (hS : va_S (gP g) s.heap H locs) (hz : H.size ≤ H'.size) (ho : ∀ q, q < H.size → H'[q]? = H[q]?) : va_S (gP g) s.heap H' locs :=
  ⟨Nat.le_trans hS.1 hz, fun q h1 h2 => (ho q (Nat.lt_of_lt_of_le h1 hS.1)).trans (hS.2.1 q h1 h2), hS.2.2⟩
theorem sh_zlt {z : Nat} (h : (sh (z : Int)).1 ≠ 99) (h1 : (sh (z : Int)).1 ≠ 13) (h2 : (sh (z : Int)).1 ≠ 26) (h21 : (sh (z : Int)).1 = 21 → z < 170) : 1 ≤ z ∧ z < 170 := by
  by_cases q : (sh (z : Int)).1 = 21
  · refine ⟨?_, h21 q⟩
    rcases Nat.eq_zero_or_pos z with rfl | hz
    · exact absurd (show (sh (0 : Int)).1 = 99 from by decide +kernel) h
    · exact hz
  · obtain ⟨k, e, hk⟩ := sh_small rfl h h1 q h2
    omega
/-- the memory behind a made cell -/
theorem RP_push {p : Program} {R : Room} {s : State} {m : MethodId} {args : Array Value} {meth : Method} {cd : Code} {H H' : Heap} {locs : List Loc} {z c sl c' sl' : Nat} {μ : MM} (hR : RP g (some (z, c, sl)) μ s H locs) (hz1 : 1 ≤ z) (hz2 : z < 170) (hsz : H.size ≤ H'.size) (ho : ∀ q, q < H.size → H'[q]? = H[q]?) (hn : va_at (gC g, gI g) cls13 (gB g + (z - 1), ceE g μ (z - 1)) H') : RP g (some (z + 1, c', sl')) μ s H' locs := by
  obtain ⟨⟨hP, hM, hZ, hph⟩, hS, hX⟩ := hR
  refine ⟨⟨?_, hM, fun r i h1 h2 => hZ r i ?_ h2, by show 1 ≤ z + 1 ∧ z + 1 ≤ 170; omega⟩, S_push hS hsz ho, hX⟩
  · have := wl_push (z := z - 1) hP ho hn
    show va_P _ _ (wl g μ (z + 1 - 1)) _
    rw [show z + 1 - 1 = z - 1 + 1 by omega]
    exact this
  · have h1 : ((z + 1 - 1 : Nat) : Int) < r := h1
    show ((z - 1 : Nat) : Int) < r
    omega
theorem mk1_un {G : Prop} {pc len k : Nat} {n : Int} {ls st : List VV} {al : AL} {μ : MM} (k1 : wgo (WX l g y Φ) pc len (mk1 y k n ls st al μ)) (kk : ∀ (z c s : Nat), al = some (z, c, s) → (sh (z : Int)).1 = k → (sh (z : Int)).2 = n → c + 1 ≤ (miT.get y).2.1 → s + n.toNat ≤ (miT.get y).2.2 → WX l g y Φ (pc + len) ls ((2, (z : Int)) :: st) (some (z + 1, c + 1, s + n.toNat)) μ → G) : G := by
  unfold mk1 at k1
  match al, k1, kk with
  | none, k1, _ => exact k1.elim
  | some (z, c, s), k1, kk =>
    simp only at k1
    cases hb : (Nat.beq (sh (z : Int)).1 k && decide ((sh (z : Int)).2 = n) && Nat.ble (c + 1) (miT.get y).2.1 && Nat.ble (s + n.toNat) (miT.get y).2.2) with
    | false => rw [hb] at k1; exact k1.elim
    | true =>
      rw [hb] at k1
      simp only [Bool.and_eq_true, decide_eq_true_eq] at hb
      exact kk z c s rfl (Nat.eq_of_beq_eq_true hb.1.1.1) hb.1.1.2 (Nat.le_of_ble_eq_true hb.1.2) (Nat.le_of_ble_eq_true hb.2) k1
theorem TA_in {ty : FieldType} (h : Cond.arrayClass ty ∈ TAl) : Cond.arrayClass ty ∈ TG := TG_of TAl_in (by decide +kernel) h
/-- newarray, its element type given -/
theorem ws_newa {pc k tt : Nat} {a : ArrayType} {ty : FieldType} (hd : decode (mB y) pc = .ok (.newarray a, 2)) (hta : newarray.typeOf a = ty) (hw : Cond.arrayClass ty ∈ TAl) (hra : ∀ (s : State) (cA : ClassId), va_RA s cA ty → s.vm.findClass ("[" ++ ty.toString) = some cA) (htt : (tys6 g)[tt]? = some (gA g k, ty)) (hk : 20 ≤ k ∧ k ≤ 24)
    (hcell : ∀ (z : Nat) (μ : MM), (∀ i : Int, μ (z : Int) i = 0) → 1 ≤ z → (sh (z : Int)).1 = k → ceE g μ (z - 1) = .inl (gA g k, (sh (z : Int)).2.toNat, (ceE g μ (z - 1)).elim (fun q => q.2.2) (fun _ => .inl (fun _ => 0))) ∧ ∀ c, vp_cell c ((sh (z : Int)).2.toNat, (ceE g μ (z - 1)).elim (fun q => q.2.2) (fun _ => .inl (fun _ => 0))) = arrV c (sh (z : Int)).2.toNat (fun _ => defaultValue ty)) (hcb : componentBytes ty ≤ 8)
    {n : Int} {ls st : List VV} {al : AL} {μ : MM} (k1 : wgo (WX l g y Φ) pc 2 (mk1 y k n ls st al μ)) : WX l g y Φ pc ls ((0, n) :: st) al μ := by
  refine mk1_un k1 fun z c sl eal hs hn hc1 hc2 kw => ?_
  subst eal
  intro p e R s m args below meth cd H locs cells slots mc ms lc q1 q2 q3 q4 q5 q6 T hT X
  have hsz := sz_of X hT q1 q2 q3
  have hzz : 1 ≤ z ∧ z ≤ 170 := q2.1.2.2.2
  have hz1 : 1 ≤ z ∧ z < 170 := sh_zlt (by omega) (by omega) (by omega) (fun h => by
    rcases sh_21 h with ⟨k, e, hk⟩ | ⟨j, hj, e⟩ <;> omega)
  have hn0 := shn (k := z - 1) (by omega)
  rw [show ((z - 1 : Nat) : Int) + 1 = (z : Int) by omega, hn] at hn0
  have hr := (q6 (0, n) List.mem_cons_self).1 rfl
  have hnn : (Int32.ofInt n).toInt = n := i32_to hr.1 hr.2
  obtain ⟨a1, a2, a3, a4, a5, a6, a7⟩ := q3
  subst hta
  have hZ : ∀ i : Int, μ (z : Int) i = 0 := fun i => q2.1.2.2.1 (z : Int) i (by show ((z - 1 : Nat) : Int) < _; omega) (by omega)
  refine va_newaK (N := n.toNat) q1.1 q1.2.1 (q1.2.2.2.2.2.2.2.1 _ (TA_in hw)) (g := F0 m pc lc (((0, n) :: st).map (cv g))) rfl hd rfl (by rw [Int32.lt_iff_toInt_lt, hnn]; show ¬ n < 0; omega) (by show (Int32.ofInt n).toInt.toNat = _; rw [hnn]) (by
    have : n.toNat * componentBytes (newarray.typeOf a) ≤ n.toNat * 8 := Nat.mul_le_mul_left _ hcb
    omega) (by omega) (by omega) hsz (fun H' cA e1 e2 e3 e4 e5 => ?_) T hT X
  have hK := q1.2.2.2.2.2.2.2.2.2.1
  have ecA : cA = gA g k := by
    have := hra s _ (hK.2 tt _ htt).2
    rw [e5] at this
    exact Option.some.inj this
  subst ecA
  obtain ⟨c1, c2⟩ := hcell z μ hZ hz1.1 hs
  have hnew : va_at (gC g, gI g) cls13 (gB g + (z - 1), ceE g μ (z - 1)) H' := by
    rw [c1]
    show H'[gB g + (z - 1)]? = some (vp_cell _ _)
    rw [c2, hn]
    exact e1
  have hR' := RP_push (c' := c + 1) (sl' := sl + n.toNat) q2 hz1.1 hz1.2 (by omega) (fun q hq => e3 q (by omega)) hnew (p := p) (R := R) (m := m) (args := args) (meth := meth) (cd := cd)
  have fin := kw p e R s m args below meth cd H' locs (cells + 1) (slots + n.toNat) mc ms lc q1 hR' ⟨by omega, by omega, a3, a4, a5, a6, by omega⟩ q4 q5 (wf_push (wf_r (by omega)) (fun w hw => List.mem_cons_of_mem _ hw) q6)
  have e9 : rfv g (z : Int) = .ref (gB g + (z - 1)) := by
    rw [show (z : Int) = ((z - 1 : Nat) : Int) + 1 by omega, rfv_id g (by omega)]
  have fin : W p l e R s m args below meth cd H' locs (cells + 1) (slots + n.toNat) (Φ p e s args below mc ms false) (F0 m (pc + 2) lc (rfv g (z : Int) :: st.map (cv g))) := fin
  rw [e9] at fin
  exact fin
end
