section
variable {l : Launch} {g : GG} {y : Nat} {Q : QQ} {Φ : PHI}
def pshr (v x : Int) (st : List VV) : List VV := match v with
  | 0 => vI x :: st
  | 1 => vL x :: st
  | 2 => vR x :: st
  | _ => st
def szh (g : GG) (al : AL) (H : Heap) : Prop := match al with
  | none => True
  | some (w, _, _) => H.size = gB g + (w - 1)
theorem run_cont {z pc : Nat} {p : Program} {e : Env} {R : Room} {s : State} {m : MethodId} {args : Array Value} {below : List Frame} {meth : Method} {cd : Code} {H : Heap} {locs : List Loc} {cells slots mc ms : Nat} {lc : Array Slot} {st0 : List Value} {stR ls : List VV} {al a : AL} {f : AL → AL} {μ : MM} {K' : QQ} {A : Array Value} {v : Int}
    (C : CX g y p R s m args meth cd) (hR : RP g al μ s H locs) (hA : ACC y R s g al cells slots mc ms) (hal : alc al y z = some (a, f)) (hsz : szh g al H) (hv : v = rtk (mRt z)) (hL4 : LSR g (miT.get y).1 ls lc) (h5 : ∀ v ∈ ls, wfv v) (h6 : ∀ v ∈ stR, wfv v)
    (hr : va_Run p l e R s m args below meth cd H locs cells slots (miT.get z).2.1 (miT.get z).2.2 (F0 m pc lc st0) (stR.map (cv g)) (QC g z a.isNone K' A) (gP g))
    (kk : ∀ x al' μ', K' x al' μ' → WX l g y Φ (pc + 3) ls (pshr v x stR) (f al') μ') : W p l e R s m args below meth cd H locs cells slots (Φ p e s args below mc ms al.isNone) (F0 m pc lc st0) := by
  intro T hT X
  obtain ⟨v', st₀, t, T', L, h0, X', hL, e1, e2, hq, st⟩ := hr T hT X
  obtain ⟨x, al', μ', ev, hK, hr0, hr1, hRP, hSC, hok, hph, hsq, hF⟩ := hq
  have ev : v' = rvl g z x := Outcome.returned.inj ev
  subst ev
  obtain ⟨-, -, -, -, -, -, -, -, -, -, -, -, -, -, -, -, -, -, -, -, -, hSB, hBH, -⟩ := id C
  rw [← e1] at hRP
  have hS' : va_S (gP g) s.heap T'.heap (locs ++ L) := by
    refine ⟨?_, fun q q1 q2 => ?_, fun q hq => ?_⟩
    · have := hF.1; rw [h0, ← e1] at this; exact Nat.le_trans hR.2.1.1 this
    · have := hF.2 q (by rw [h0]; exact Nat.lt_of_lt_of_le q1 hR.2.1.1) q2
      rw [← e1, h0] at this
      rw [this]
      exact hR.2.1.2.1 q q1 q2
    · rcases List.mem_append.mp hq with q | q
      · exact hR.2.1.2.2 _ q
      · exact hL _ q
  have hSC' : SCR g μ' s := SCR_back hSC hS' e1.symm (by rw [← e2]; exact X'.warmed.alike.symm) hSB hBH
  have key : RP g (f al') μ' s T'.heap (locs ++ L) ∧ ACC y R s g (f al') (cells + (miT.get z).2.1) (slots + (miT.get z).2.2) mc ms ∧ (f al').isNone = al.isNone := by
    unfold alc at hal
    match al, hal, hA, hsz with
    | none, hal, hA, _ =>
      simp only at hal
      cases hb : (Nat.beq (miT.get z).2.1 0 && Nat.beq (miT.get z).2.2 0) with
      | false => rw [hb] at hal; cases hal
      | true =>
        rw [hb] at hal
        simp only [cond_true, Option.some.injEq, Prod.mk.injEq] at hal
        obtain ⟨rfl, rfl⟩ := hal
        simp only [Bool.and_eq_true] at hb
        have b1 := Nat.eq_of_beq_eq_true hb.1
        have b2 := Nat.eq_of_beq_eq_true hb.2
        match al', hph, hRP with
        | none, _, hRP =>
          refine ⟨⟨hRP, hS', hSC'⟩, ?_, rfl⟩
          rw [b1, b2]
          exact hA
        | some _, hph, _ => cases hph
    | some (w, c, sl), hal, hA, hsz =>
      simp only at hal
      cases hb : (Nat.ble (c + (miT.get z).2.1) (miT.get y).2.1 && Nat.ble (sl + (miT.get z).2.2) (miT.get y).2.2) with
      | false => rw [hb] at hal; cases hal
      | true =>
        rw [hb] at hal
        simp only [cond_true, Option.some.injEq, Prod.mk.injEq] at hal
        obtain ⟨rfl, rfl⟩ := hal
        match al', hph, hRP, hok, hsq with
        | none, hph, _, _, _ => cases hph
        | some (w', c', sl'), _, hRP, hok, hsq =>
          simp only [aok, Bool.and_eq_true] at hok
          have b1 := Nat.eq_of_beq_eq_true hok.1
          have b2 := Nat.eq_of_beq_eq_true hok.2
          have hsq : st₀.heap.size + c' = gB g + (w' - 1) := hsq
          rw [h0] at hsq
          have hsz : H.size = gB g + (w - 1) := hsz
          obtain ⟨a1, a2, a3, a4, a5, a6, a7⟩ := hA
          exact ⟨⟨hRP, hS', hSC'⟩, ⟨by omega, by omega, a3, a4, a5, a6, by omega⟩, rfl⟩
  obtain ⟨k1, k2, k3⟩ := key
  have hwf : ∀ w ∈ pshr v x stR, wfv w := by
    unfold pshr
    split
    · exact wf_push (wf_of_i (hr0 (Or.inl hv.symm)).1 (hr0 (Or.inl hv.symm)).2) (fun _ h => h) h6
    · exact wf_push (wf_of_l (hr1 hv.symm).1 (hr1 hv.symm).2) (fun _ h => h) h6
    · exact wf_push (wf_r (hr0 (Or.inr hv.symm))) (fun _ h => h) h6
    · exact h6
  have fin := kk x al' μ' hK p e R s m args below meth cd T'.heap (locs ++ L) _ _ mc ms lc C k1 k2 hL4 h5 hwf
  rw [k3] at fin
  have hst : (pshr v x stR).map (cv g) = (rvl g z x).toList ++ stR.map (cv g) := by
    unfold pshr rvl
    rw [← hv]
    split <;> first
      | rfl
      | (split <;> first | rfl | simp_all)
  rw [hst] at fin
  obtain ⟨t2, c1, c2⟩ := fin T' rfl X'
  exact ⟨t2, st t2 c1, c2⟩
end
