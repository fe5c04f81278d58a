section
/-! FROM THE LAW'S ENTRY: an odd start never comes back -/
def OD (s : State) : Prop := (∀ w ∈ odW, va_Nw w s) ∧ (Cond.exactly (.static "SixAcres$Loads" "FIRST_WEIGHT" "[I") "Odd").before #[] s = true
theorem st_arr {args : Array Value} {s : State} {ty : FieldType} (h : (Cond.arrayClass ty).before args s = true) : ∃ cA : ClassId, ArrOfT s cA ty ∧ s.vm.findClass ("[" ++ ty.toString) = some cA := by
  obtain ⟨c, k, comp, h1, h2, h3⟩ := Cond.arrayClass_spec h
  exact ⟨c, fun n z => ⟨fun k hk => (by cases hk), k, h2, comp, h3⟩, h1⟩
theorem st_arr2 {args : Array Value} {s : State} (h : (Cond.arrayOver (.array .int)).before args s = true) : ∃ cA : ClassId, ArrOfT s cA (.array .int) ∧ s.vm.findClass ("[" ++ (FieldType.array .int).toString) = some cA := by
  unfold Cond.before Cond.holds at h
  simp only [Cond.value] at h
  cases f1 : s.vm.findClass (FieldType.array FieldType.int).toString with
  | none => rw [f1] at h; simp at h
  | some comp =>
    rw [f1] at h
    simp only [Option.bind_some] at h
    cases hi : (s.vm.classes.findIdx? fun (x : Class) => match x.kind with | .array component _ => component == comp | _ => false) with
    | none =>
      exfalso
      have h9 := (congrArg (fun o : Option Nat => (o.bind (fun c => (s.vm.classes[c]?).map fun (k : Class) => match k.kind with | .array _ ty => decide (ty = FieldType.array FieldType.int) && decide (s.vm.findClass ("[" ++ (FieldType.array FieldType.int).toString) = some c) | _ => false) == some true)) hi).symm.trans h
      simp at h9
    | some c =>
      have h9 := (congrArg (fun o : Option Nat => (o.bind (fun c => (s.vm.classes[c]?).map fun (k : Class) => match k.kind with | .array _ ty => decide (ty = FieldType.array FieldType.int) && decide (s.vm.findClass ("[" ++ (FieldType.array FieldType.int).toString) = some c) | _ => false) == some true)) hi).symm.trans h
      simp only [Option.bind_some] at h9
      cases hk : s.vm.classes[c]? with
      | none => rw [hk] at h9; simp at h9
      | some k =>
        rw [hk] at h9
        simp only [Option.map_some, beq_iff_eq, Option.some.injEq] at h9
        cases hkk : k.kind with
        | array comp' ty =>
          rw [hkk] at h9
          simp only [Bool.and_eq_true, decide_eq_true_eq] at h9
          exact ⟨c, fun n z => ⟨fun k hk => (by cases hk), k, hk, comp', by rw [hkk, h9.1]⟩, h9.2⟩
        | _ => rw [hkk] at h9; simp at h9
theorem st_K {args : Array Value} {s : State} (hts : ∀ w ∈ lw_tbl, w.before args s = true) : ∃ (dC : Nat → ClassId) (dI : Nat → Nat → Nat) (dA : Nat → ClassId), va_K (dC, dI) cls13 [(dA 20, .int), (dA 21, .byte), (dA 22, .char), (dA 23, .boolean), (dA 24, .long), (dA 25, .array .int)] s := by
  have h0 : ∀ c : Nat, ∃ q : ClassId × (Nat → Nat), c < 13 → u_Kn s (cNm c) (cFd c) (cNf c) q.1 q.2 := by
    intro c
    by_cases hc : c < 13
    · obtain ⟨cC, iS, hK⟩ := u_known (C := cNm c) (T := cFd c) (N := cNf c) (n := cNf c) hts (fun w hw => (List.mem_filter.mp (ly_in hc w hw)).1) (hts _ (of_decide_eq_true (List.all_eq_true.mp inst_ok c (List.mem_range.mpr hc))))
      exact ⟨(cC, iS), fun _ => hK⟩
    · exact ⟨(0, fun _ => 0), fun h => absurd h hc⟩
  obtain ⟨ad, had⟩ := Classical.axiomOfChoice h0
  obtain ⟨a0, b0, d0⟩ := st_arr (stL_at hts (w := .arrayClass .int) (by simp [stL]))
  obtain ⟨a1, b1, d1⟩ := st_arr (stL_at hts (w := .arrayClass .byte) (by simp [stL]))
  obtain ⟨a2, b2, d2⟩ := st_arr (stL_at hts (w := .arrayClass .char) (by simp [stL]))
  obtain ⟨a3, b3, d3⟩ := st_arr (stL_at hts (w := .arrayClass .boolean) (by simp [stL]))
  obtain ⟨a4, b4, d4⟩ := st_arr (stL_at hts (w := .arrayClass .long) (by simp [stL]))
  obtain ⟨a5, b5, d5⟩ := st_arr2 (stL_at hts (w := .arrayOver (.array .int)) (by simp [stL]))
  refine ⟨fun c => (ad c).1, fun c => (ad c).2, fun k => if k = 20 then a0 else if k = 21 then a1 else if k = 22 then a2 else if k = 23 then a3 else if k = 24 then a4 else a5, fun c q hq => ?_, fun k q hq => ?_⟩
  · have hc : c < 13 := by
      have := (List.getElem?_eq_some_iff.mp hq).1
      simpa [cls13] using this
    rw [cls13_get hc] at hq
    cases hq
    exact had c hc
  · match k, hq with
    | 0, hq => cases hq; exact ⟨b0, d0⟩
    | 1, hq => cases hq; exact ⟨b1, d1⟩
    | 2, hq => cases hq; exact ⟨b2, d2⟩
    | 3, hq => cases hq; exact ⟨b3, d3⟩
    | 4, hq => cases hq; exact ⟨b4, d4⟩
    | 5, hq => cases hq; exact ⟨b5, d5⟩
    | k + 6, hq => simp at hq
def mu0 (L : Nat) (xs : Nat → Int32) : MM := fun r i => if r = 3000 then (if i = -1 then (L : Int) else if 0 ≤ i then (xs i.toNat).toInt else 0) else 0
theorem law_rooms : mFr 0 ≤ room_1.frames ∧ mLo 0 ≤ room_1.locals ∧ (miT.get 0).2.1 ≤ room_1.cells ∧ (miT.get 0).2.2 ≤ room_1.slots ∧ (miT.get 0).1 = 4 := by decide +kernel
theorem law_names : (mN 0).cls = x.cls ∧ (mN 0).name = x.name ∧ mRt 0 = ret ∧ maxLocals = 4 := by decide +kernel
theorem law_bytes : mB 0 = code := rfl
/-- the law's walk from an odd start comes to a certified state -/
theorem law_odd {l : Launch} {p : Program} {e : Env} {s s₁ : State} {m : MethodId} {below : List Frame} {meth : Method} {c : Code} {b : Addr} {xs : List Int32}
    (B : BodyLoose p l x (headSpec (Jvm.Cond.code x code maxLocals ret :: tables_1) room_1) code maxLocals ret e s m #[Value.ref b] below meth c s₁) (hml : c.maxLocals = maxLocals) (hx : s.IntsAt b xs) (hbd : xs.length ≤ 3072) (hgv : (Jvm.Cond.and given_1 narrow_1).before #[Value.ref b] s = true) (hod : OD s) :
    ∃ t, Steps p.tables e below (s₁.setTop (entryFrame m #[Value.ref b] maxLocals)) t ∧ Refuse.Cert p.tables below t := by
  obtain ⟨scr, harrAt, hlist, hof, hsmall⟩ := hx
  obtain ⟨hcb, hkn, -, -⟩ := State.arrayAt?_spec harrAt
  have hts0 : ∀ c ∈ (Jvm.Cond.code x code maxLocals ret :: tables_1), c.before #[Value.ref b] s = true := atoms_spec (ws := Jvm.Cond.code x code maxLocals ret :: tables_1) B.pre
  have hts : ∀ w ∈ lw_tbl, w.before #[Value.ref b] s = true := k2_hts_sels lw_privs (fun w hw => hts0 w (List.mem_cons_of_mem _ hw)) lw_privs_ok
  have hsz : scr.slots.size = xs.length := by rw [← Array.length_toList, hlist, List.length_map]
  have hval : ∀ j : Nat, j < xs.length → scr.slots[j]? = some (.int (xs.getD j 0)) := fun j hj => by
    rw [← Array.getElem?_toList, hlist]
    simp [hj]
  have hbl : b < s.heap.size := (Array.getElem?_eq_some_iff.mp hcb).1
  have hF : ∀ w ∈ FLw, w.before #[Value.ref b] s = true := flat_of_before _ hgv
  have hA : ∀ a : Nat, a < s.heap.size → ¬ (fun q : Nat => s.heap.size ≤ q) a := fun a h => Nat.not_le.mpr h
  obtain ⟨adK, adV, hS, hSe⟩ := st_str hF hA
  have fw := fw_ok
  have fb := fb_ok
  have ff := ff_ok
  simp only [Bool.and_eq_true, decide_eq_true_eq] at fw fb ff
  obtain ⟨t0, ht0, hT0⟩ := st_sta hF hA "FIRST_WEIGHT" 3001 fw.1.1 fw.1.2 (fun j hj => of_decide_eq_true (List.all_eq_true.mp fw.2 j (List.mem_range.mpr hj)))
  obtain ⟨t1, ht1, hT1⟩ := st_sta hF hA "FIRST_BEARS" 3002 fb.1.1 fb.1.2 (fun j hj => of_decide_eq_true (List.all_eq_true.mp fb.2 j (List.mem_range.mpr hj)))
  have hL := stL_at hts (w := .initialized "SixAcres$Loads") (by simp [stL])
  have hZ0 := va_Zof (stL_at hts (w := .laysStatic "SixAcres$Loads" "FIRST_WEIGHT" "[I") (by simp [stL])) hL ht0 hA
  have hZ1 := va_Zof (stL_at hts (w := .laysStatic "SixAcres$Loads" "FIRST_BEARS" "[I") (by simp [stL])) hL ht1 hA
  have hZ2 := va_Zof (stL_at hts (w := .laysStatic "java/lang/String" "COMPACT_STRINGS" "Z") (by simp [stL])) (stL_at hts (w := .initialized "java/lang/String") (by simp [stL])) (va_eqt (hF _ ff.1)) hA
  obtain ⟨vF, hZ3, hvF⟩ : ∃ v : Value, va_Z "jdk/internal/util/Preconditions" "SIOOBE_FORMATTER" "Ljava/util/function/BiFunction;" v (fun q : Nat => s.heap.size ≤ q) s s.heap ∧ (v = .null ∨ ∃ a, v = .ref a) := by
    rcases va_Zqof (stL_at hts (w := .laysStatic "jdk/internal/util/Preconditions" "SIOOBE_FORMATTER" "Ljava/util/function/BiFunction;") (by simp [stL])) (stL_at hts (w := .initialized "jdk/internal/util/Preconditions") (by simp [stL])) (hF _ ff.2) hA with h | ⟨t, h⟩
    · exact ⟨_, h, Or.inl rfl⟩
    · exact ⟨_, h, Or.inr ⟨t, rfl⟩⟩
  obtain ⟨dC, dI, dA, hK⟩ := st_K hts
  obtain ⟨g, hg⟩ : ∃ g : GG, g = (s.heap.size, adK, adV, (fun j => if j = 0 then t0 else t1), b, vF, dC, dI, dA) := ⟨_, rfl⟩
  have g1 : gB g = s.heap.size := by rw [hg]
  have hE : EXT g s := by
    rw [hg]
    refine ⟨fun w hw => st_nw hw (hts w (TXl_in w hw)), stL_at hts (w := .castable "[I" "java/lang/Cloneable") (by simp [stL]), stL_at hts (w := .arrayOver (.array .int)) (by simp [stL]), fun j hj => ?_, hS, hT0, hT1, hZ2, hZ0, hZ1, hZ3, hbl, Nat.le_refl _, hvF⟩
    exact vk_R.of (hts _ (of_decide_eq_true (List.all_eq_true.mp sRef_ok j (List.mem_range.mpr hj)))) (hSe j hj)
  have hO : ODD g s := by
    obtain ⟨a, cO, cell, kO, q1, q2, q3, q4, q5, q6, -⟩ := Cond.exactly_spec (args := #[]) (first := s) (o := none) (s := s) (idx := []) (t := .static "SixAcres$Loads" "FIRST_WEIGHT" "[I") (cls := "Odd") hod.2
    have ea : a = t0 := by
      have h1 : (Term.static "SixAcres$Loads" "FIRST_WEIGHT" "[I").eval #[] s none [] s = (Term.static "SixAcres$Loads" "FIRST_WEIGHT" "[I").eval #[Value.ref b] s none [] s := rfl
      rw [h1, ht0] at q1
      exact (Value.ref.inj (Option.some.inj q1)).symm
    subst ea
    exact ⟨hod.1, cell, by rw [hg]; exact q3, by rw [q6]; exact q2, q5⟩
  have hnm := law_names
  have hrm := law_rooms
  have C : CX g 0 p room_1 s m #[Value.ref b] meth c := by
    refine ⟨B.exec, B.bytes.trans law_bytes.symm, B.returns.trans hnm.2.2.1.symm, B.notSynchronized, by rw [hml, hrm.2.2.2.2, hnm.2.2.2], ?_, ?_, fun w hw => hts w (List.mem_filter.mp hw).1, ⟨hrm.1, hrm.2.1⟩, ?_, hE⟩
    · rw [hnm.1]; exact findClass_of_methodNamed B.named
    · rw [hnm.2.1]; exact (name_of_methodNamed B.named B.method).1
    · rw [hg]; exact hK
  have hm0 : ∀ r i : Int, ¬ r = 3000 → mu0 xs.length (fun j => xs.getD j 0) r i = 0 := fun r i h => by unfold mu0; rw [if_neg h]
  have hmr : ∀ r i : Int, -2147483648 ≤ mu0 xs.length (fun j => xs.getD j 0) r i ∧ mu0 xs.length (fun j => xs.getD j 0) r i < 2147483648 := by
    intro r i
    unfold mu0
    split
    · split
      · omega
      · split
        · exact ⟨Int32.le_toInt _, Int32.toInt_lt _⟩
        · omega
    · omega
  have hRP : RP g (some (1, 0, 0)) (mu0 xs.length (fun j => xs.getD j 0)) s s.heap [] := by
    refine ⟨⟨fun k q h => ?_, fun r i => ⟨fun _ => hmr r i, ?_⟩, fun r i h1 h2 => hm0 r i (by omega), (show 1 ≤ 1 ∧ 1 ≤ 170 from ⟨by omega, by omega⟩)⟩, va_S.rf, ?_, ?_, ?_⟩
    · simp [wl, cnt] at h
    · have := hmr r i
      omega
    · have e1 : mu0 xs.length (fun j => xs.getD j 0) 3000 (-1) = (xs.length : Int) := by unfold mu0; rw [if_pos rfl, if_pos rfl]
      have e2 : gS g = b := by rw [hg]
      rw [e1, e2]
      refine ⟨scr, hcb, hof, hkn, by rw [hsz]; rfl, fun j hj => ?_⟩
      have hj : j < xs.length := hj
      rw [hval j hj]
      have e3 : mu0 xs.length (fun j => xs.getD j 0) 3000 (j : Int) = (xs.getD j 0).toInt := by
        unfold mu0
        rw [if_pos rfl, if_neg (by omega), if_pos (by omega)]
        rfl
      show some (Value.int (xs.getD j 0)) = some (Value.int (Int32.ofInt (mu0 xs.length (fun j => xs.getD j 0) 3000 (j : Int))))
      rw [e3, Int32.ofInt_toInt]
    · have := hm0
      unfold mu0
      rw [if_pos rfl, if_pos rfl]
      omega
    · unfold mu0
      rw [if_pos rfl, if_pos rfl]
      omega
  have hAC : ACC 0 room_1 s g (some (1, 0, 0)) 0 0 (miT.get 0).2.1 (miT.get 0).2.2 := ⟨rfl, rfl, rfl, rfl, hrm.2.2.1, hrm.2.2.2.1, by rw [g1]⟩
  have hh0 : s₁.heap = s.heap := by rw [B.state]; rfl
  have hcv : ([vR 3000].map (cv g)) = [Value.ref b] := by
    show [rfv g 3000] = [Value.ref b]
    rw [hg]
    rfl
  have hLS := LSR_ent (g := g) C.ref (as := [vR 3000]) (n := 4) (by decide)
  rw [hcv] at hLS
  have hLS : LSR g (miT.get 0).1 [vR 3000, vU, vU, vU] ((lg_sl [Value.ref b] ++ List.replicate (4 - (lg_sl [Value.ref b]).length) Slot.unset).toArray) := hLS
  obtain ⟨t, a1, b1⟩ := law_dies (l := l) (g := g) (μ := mu0 xs.length (fun j => xs.getD j 0)) p e room_1 s m #[Value.ref b] below meth c s.heap [] 0 0 _ _ _ C hRP hAC hLS (fun v hv => by
    simp only [List.mem_cons, List.not_mem_nil, or_false] at hv
    rcases hv with rfl | rfl | rfl | rfl
    · exact wf_r (by omega)
    · exact wf_u
    · exact wf_u
    · exact wf_u) (fun v hv => by cases hv) s₁ hh0 (Stand.of_body B)
  refine ⟨t, ?_, b1 hO (nox_of B (hts0 _ List.mem_cons_self))⟩
  rw [hnm.2.2.2]
  have he := lg_entry_eq m [Value.ref b] 4
  rw [show (#[Value.ref b] : Array Value) = [Value.ref b].toArray from rfl, he]
  exact a1
end
