section
variable {l : Launch} {g : GG} {y : Nat} {Q : QQ} {Φ : PHI}
theorem hc_i {k : Nat} (h1 : ¬ k < 13) (h2 : k ≠ 24) (h3 : k ≠ 25) {ty : FieldType} (hdv : defaultValue ty = .int 0) (z : Nat) (μ : MM) (hZ : ∀ i : Int, μ (z : Int) i = 0) (hz : 1 ≤ z) (hs : (sh (z : Int)).1 = k) : ceE g μ (z - 1) = .inl (gA g k, (sh (z : Int)).2.toNat, (ceE g μ (z - 1)).elim (fun q => q.2.2) (fun _ => .inl (fun _ => 0))) ∧ ∀ c, vp_cell c ((sh (z : Int)).2.toNat, (ceE g μ (z - 1)).elim (fun q => q.2.2) (fun _ => .inl (fun _ => 0))) = arrV c (sh (z : Int)).2.toNat (fun _ => defaultValue ty) := by
  have ez : ((z - 1 : Nat) : Int) + 1 = (z : Int) := by omega
  have e := ceE_arr (g := g) (μ := μ) (k := z - 1) (c := k) (by rw [ez]; exact hs) h1 h2 h3
  rw [ez] at e
  rw [e]
  refine ⟨rfl, fun c => ?_⟩
  rw [hdv]
  show arrV c _ (fun j => Value.int (Int32.ofInt (μ (z : Int) (j : Int)))) = _
  simp only [hZ]
  rfl
theorem hc_l (z : Nat) (μ : MM) (hZ : ∀ i : Int, μ (z : Int) i = 0) (hz : 1 ≤ z) (hs : (sh (z : Int)).1 = 24) : ceE g μ (z - 1) = .inl (gA g 24, (sh (z : Int)).2.toNat, (ceE g μ (z - 1)).elim (fun q => q.2.2) (fun _ => .inl (fun _ => 0))) ∧ ∀ c, vp_cell c ((sh (z : Int)).2.toNat, (ceE g μ (z - 1)).elim (fun q => q.2.2) (fun _ => .inl (fun _ => 0))) = arrV c (sh (z : Int)).2.toNat (fun _ => defaultValue .long) := by
  have ez : ((z - 1 : Nat) : Int) + 1 = (z : Int) := by omega
  have e := ceE_lng (g := g) (μ := μ) (k := z - 1) (by rw [ez]; exact hs)
  rw [ez] at e
  rw [e]
  refine ⟨rfl, fun c => ?_⟩
  show arrV c _ (fun j => Value.long (Int64.ofInt (μ (z : Int) (j : Int)))) = _
  simp only [hZ]
  rfl
def akN (a : ArrayType) : Nat := match a with
  | .int => 20
  | .byte => 21
  | .char => 22
  | .boolean => 23
  | .long => 24
  | _ => 99
theorem ws_newarr {pc n : Nat} {a : ArrayType} (hd : decode (mB y) pc = .ok (.newarray a, 2)) (hc : n = akN a) {u v : Int} {ls st : List VV} {al : AL} {μ : MM} (k1 : wgo (WX l g y Φ) pc 2 (stp y (.newarray a) n u v ls st al μ)) : WX l g y Φ pc ls st al μ := by
  unfold stp at k1
  simp only at k1
  split at k1
  · rename_i k st
    cases a with
    | int => subst hc; exact ws_newa (tt := 0) hd rfl (by decide +kernel) (fun s cA h => h) rfl (by decide) (fun z μ hZ hz hs => hc_i (by decide) (by decide) (by decide) rfl z μ hZ hz hs) (by decide) k1
    | byte => subst hc; exact ws_newa (tt := 1) hd rfl (by decide +kernel) (fun s cA h => h) rfl (by decide) (fun z μ hZ hz hs => hc_i (by decide) (by decide) (by decide) rfl z μ hZ hz hs) (by decide) k1
    | char => subst hc; exact ws_newa (tt := 2) hd rfl (by decide +kernel) (fun s cA h => h) rfl (by decide) (fun z μ hZ hz hs => hc_i (by decide) (by decide) (by decide) rfl z μ hZ hz hs) (by decide) k1
    | boolean => subst hc; exact ws_newa (tt := 3) hd rfl (by decide +kernel) (fun s cA h => h) rfl (by decide) (fun z μ hZ hz hs => hc_i (by decide) (by decide) (by decide) rfl z μ hZ hz hs) (by decide) k1
    | long => subst hc; exact ws_newa (tt := 4) hd rfl (by decide +kernel) (fun s cA h => h) rfl (by decide) (fun z μ hZ hz hs => hc_l z μ hZ hz hs) (by decide) k1
    | _ => subst hc; exact k1.elim
  · exact k1.elim
/-- a new object -/
theorem ck_word (hy : y < 286) {k n : Nat} (h : (match ckT.get (lky y k) with | (key, c, _) => Nat.beq key (lky y k) && Nat.blt k 10000 && Nat.beq c n && Nat.blt n 13) = true) : n < 13 ∧ Cond.classLink (mN y).cls k (cNm n) ∈ TG := by
  have hc := raAll_get ckT (lky y k) ckl_ok
  generalize ckT.get (lky y k) = e at h hc
  obtain ⟨key, c, ps⟩ := e
  simp only [Bool.and_eq_true] at h
  obtain ⟨⟨⟨h1, h2⟩, h3⟩, h4⟩ := h
  have e1 := Nat.eq_of_beq_eq_true h1
  have e2 := Nat.blt_eq.mp h2
  have e3 := Nat.eq_of_beq_eq_true h3
  subst e1; subst e3
  obtain ⟨d1, d2⟩ := ky_div y k e2
  unfold ckC at hc
  simp only [ckW, d1, d2, ← on_y hy, h4, cond_true, decide_eq_true_eq] at hc
  exact ⟨Nat.blt_eq.mp h4, TG_of TKl_in (by decide +kernel) (List.mem_of_getElem? hc)⟩
def ibC (c : Nat) : Bool := decide (Cond.instantiable (cNm c) (cNf c) ∈ TBl) && decide (Cond.initialized (cNm c) ∈ TNl)
set_option maxRecDepth 100000 in
theorem ib_ok : (List.range 13).all ibC = true := by decide +kernel
theorem fvl_0 {c j : Nat} (hc : c < 13) (hj : j < cNf c) : defaultValue (cTy c j) = fvl g c j 0 := by
  obtain ⟨-, -, hk, -⟩ := ty_at hc hj
  unfold fvl
  split at hk <;> first
    | (cases hk; done)
    | (rename_i e1 e2; rw [e1, e2]; rfl)
theorem ws_new (hy : y < 286) {pc k n : Nat} (hd : decode (mB y) pc = .ok (.new k, 3)) (hc : (match ckT.get (lky y k) with | (key, c, _) => Nat.beq key (lky y k) && Nat.blt k 10000 && Nat.beq c n && Nat.blt n 13) = true) {u v : Int} {ls st : List VV} {al : AL} {μ : MM} (k1 : wgo (WX l g y Φ) pc 3 (stp y (.new k) n u v ls st al μ)) : WX l g y Φ pc ls st al μ := by
  obtain ⟨hn, hw⟩ := ck_word hy hc
  unfold stp at k1
  simp only at k1
  refine mk1_un k1 fun z c sl eal hs _ hc1 hc2 kw => ?_
  subst eal
  simp only at hc2 kw
  intro p e R s m args below meth cd H locs cells slots mc ms lc q1 q2 q3 q4 q5 q6 T hT X
  have hsz := sz_of X hT q1 q2 q3
  obtain ⟨kk, ek, hkk⟩ := sh_small hs (by omega) (by omega) (by omega) (by omega)
  have hz1 : 1 ≤ z ∧ z < 170 := by omega
  have ez : ((z - 1 : Nat) : Int) + 1 = (z : Int) := by omega
  obtain ⟨a1, a2, a3, a4, a5, a6, a7⟩ := q3
  have hib := List.all_eq_true.mp ib_ok n (List.mem_range.mpr hn)
  simp only [ibC, Bool.and_eq_true, decide_eq_true_eq] at hib
  have hts := q1.2.2.2.2.2.2.2.1
  have hK := q1.2.2.2.2.2.2.2.2.2.1
  have hKn := hK.1 n _ (cls13_get hn)
  have hNf : ((sh (z : Int)).2).toNat = cNf n := by
    have hall : (List.range 169).all (fun k => !Nat.blt (sh ((k : Int) + 1)).1 13 || decide ((sh ((k : Int) + 1)).2.toNat = cNf (sh ((k : Int) + 1)).1)) = true := by decide +kernel
    have := List.all_eq_true.mp hall (z - 1) (List.mem_range.mpr (by omega))
    rw [ez, hs, show Nat.blt n 13 = true from Nat.blt_eq.mpr hn] at this
    simpa using this
  rw [hNf] at hc2 kw
  refine W.newcK (n := cNf n) q1.1 q1.2.1 q1.2.2.2.2.2.1 (hts _ hw) (hts _ (TG_of TBl_in (by decide +kernel) hib.1)) (hts _ (TG_of TNl_in (by decide +kernel) hib.2)) (g := F0 m pc lc (st.map (cv g))) rfl hd (by omega) (by omega) hKn.2.1 hsz (fun H' kC hkC e1 e2 e3 => ?_) T hT X
  have hZ : ∀ i : Int, μ (z : Int) i = 0 := fun i => q2.1.2.2.1 (z : Int) i (by show ((z - 1 : Nat) : Int) < _; omega) (by omega)
  have hnew : va_at (gC g, gI g) cls13 (gB g + (z - 1), ceE g μ (z - 1)) H' := by
    rw [ceE_obj (c := n) (by rw [ez]; exact hs) hn]
    refine ⟨_, cls13_get hn, (u_born (cTy n) hts (ly_in hn) hKn hkC e1 (fun k hk => (ty_at hn hk).1)).to ?_⟩
    intro j hj
    show defaultValue (cTy n j) = vp_V _ j
    unfold vp_V
    rw [List.getD_eq_getElem?_getD, List.getElem?_map, List.getElem?_range hj, ez]
    show _ = fvl g n j (μ (z : Int) (j : Int))
    rw [hZ]
    exact fvl_0 hn hj
  have hR' := RP_push (c' := c + 1) (sl' := sl + cNf n) q2 hz1.1 hz1.2 (by omega) (fun q hq => e3 q (by omega)) hnew (p := p) (R := R) (m := m) (args := args) (meth := meth) (cd := cd)
  have fin := kw p e R s m args below meth cd H' locs (cells + 1) (slots + cNf n) mc ms lc q1 hR' ⟨by omega, by omega, a3, a4, a5, a6, by omega⟩ q4 q5 (wf_push (wf_r (by omega)) (fun w hw => hw) q6)
  have e9 : rfv g (z : Int) = .ref (gB g + (z - 1)) := by
    rw [← ez, rfv_id g (by omega)]
  have fin : W p l e R s m args below meth cd H' locs (cells + 1) (slots + cNf n) (Φ p e s args below mc ms false) (F0 m (pc + 3) lc (rfv g (z : Int) :: st.map (cv g))) := fin
  rw [e9] at fin
  exact fin
end
