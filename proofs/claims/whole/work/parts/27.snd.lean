section
variable {l : Launch} {g : GG} {y : Nat} {Q : QQ} {Φ : PHI}
theorem b8 {k : Int} (h : -128 ≤ k ∧ k ≤ 127) : (Int8.ofInt k).toInt32 = Int32.ofInt k := by
  rw [← Int32.toInt_inj, Int8.toInt_toInt32, i32_to (by omega) (by omega), Int8.toInt_ofInt, Int.bmod_def]
  simp only [Int8.size]
  omega
theorem b16 {k : Int} (h : -32768 ≤ k ∧ k ≤ 32767) : (Int16.ofInt k).toInt32 = Int32.ofInt k := by
  rw [← Int32.toInt_inj, Int16.toInt_toInt32, i32_to (by omega) (by omega), Int16.toInt_ofInt, Int.bmod_def]
  simp only [Int16.size]
  omega
theorem ln_of {i : Instr} {len k : Nat} (hln : (Nat.beq (lnI i) 0 || Nat.beq (lnI i) len) = true) (h : lnI i = k) (h0 : k ≠ 0) : len = k := by
  rw [h] at hln
  simp only [Bool.or_eq_true] at hln
  rcases hln with q | q
  · exact absurd (Nat.eq_of_beq_eq_true q) h0
  · exact (Nat.eq_of_beq_eq_true q).symm
theorem ald_row {pc pc' i : Nat} (r1 : ∀ (x : Nat) (p : Program) (e : Env) (R : Room) (s : State) (m : MethodId) (args : Array Value) (below : List Frame) (meth : Method) (c : Code) (H : Heap) (locs : List Loc) (cells slots : Nat) (Qs : State → Prop) (lc : Array Slot) (rest : List Value), CX g y p R s m args meth c → lc[i]? = some (.val (.ref x)) → W p l e R s m args below meth c H locs cells slots Qs (F0 m pc' lc (.ref x :: rest)) → W p l e R s m args below meth c H locs cells slots Qs (F0 m pc lc rest))
    (r2 : ∀ (p : Program) (e : Env) (R : Room) (s : State) (m : MethodId) (args : Array Value) (below : List Frame) (meth : Method) (c : Code) (H : Heap) (locs : List Loc) (cells slots : Nat) (Qs : State → Prop) (lc : Array Slot) (rest : List Value), CX g y p R s m args meth c → lc[i]? = some (.val .null) → W p l e R s m args below meth c H locs cells slots Qs (F0 m pc' lc (.null :: rest)) → W p l e R s m args below meth c H locs cells slots Qs (F0 m pc lc rest)) :
    ∀ (x : Int) (p : Program) (e : Env) (R : Room) (s : State) (m : MethodId) (args : Array Value) (below : List Frame) (meth : Method) (c : Code) (H : Heap) (locs : List Loc) (cells slots : Nat) (Qs : State → Prop) (lc : Array Slot) (rest : List Value), CX g y p R s m args meth c → lc[i]? = some (.val (cv g (2, x))) → W p l e R s m args below meth c H locs cells slots Qs (F0 m pc' lc (cv g (2, x) :: rest)) → W p l e R s m args below meth c H locs cells slots Qs (F0 m pc lc rest) := by
  intro x p e R s m args below meth c H locs cells slots Qs lc rest C h k
  rw [cv_ref] at h k
  rcases rfv_or g C.ref x with q | ⟨a, q⟩
  · rw [q] at h k; exact r2 p e R s m args below meth c H locs cells slots Qs lc rest C h k
  · rw [q] at h k; exact r1 a p e R s m args below meth c H locs cells slots Qs lc rest C h k
theorem snd_stp (hy : y < 286) {i : Instr} {len n pc : Nat} {u v : Int} (hd : decode (mB y) pc = .ok (i, len)) (hln : (Nat.beq (lnI i) 0 || Nat.beq (lnI i) len) = true) (hx : chkX y pc i len n u v = true) {ls st : List VV} {al : AL} {μ : MM} (k1 : wgo (WX l g y Φ) pc len (stp y i n u v ls st al μ)) : WX l g y Φ pc ls st al μ := by
  cases i with
  | iconst k => cases ln_of (k := 1) hln rfl (by decide); exact ws_const (of_decide_eq_true hx) (fun rest p e R s m args below meth c H locs cells slots Qs lc C kk => lv_iconst C.1 C.2.1 hd rfl kk) k1
  | bipush k => cases ln_of (k := 2) hln rfl (by decide); have hk := of_decide_eq_true hx; exact ws_const (by omega) (fun rest p e R s m args below meth c H locs cells slots Qs lc C kk => lv_bipush C.1 C.2.1 hd (b8 hk) kk) k1
  | sipush k => cases ln_of (k := 3) hln rfl (by decide); have hk := of_decide_eq_true hx; exact ws_const (by omega) (fun rest p e R s m args below meth c H locs cells slots Qs lc C kk => lv_sipush C.1 C.2.1 hd (b16 hk) kk) k1
  | lconst k => cases ln_of (k := 1) hln rfl (by decide); exact RowS.ws (st' := (1, ((k.val : Nat) : Int)) :: st) (fun p e R s m args below meth c H locs cells slots Qs lc C kk => lv_lconst C.1 C.2.1 hd (by rw [← Int64.ofInt_eq_ofNat]) kk) (wf_push (wf_of_l (by have := k.isLt; omega) (by have := k.isLt; omega)) (fun _ h => h)) k1
  | ldc k => cases ln_of (k := 2) hln rfl (by decide); exact ws_ldc hy hd hx k1
  | ldc_w k => cases ln_of (k := 3) hln rfl (by decide); exact ws_ldcw hy hd hx k1
  | ldc2_w k => cases ln_of (k := 3) hln rfl (by decide); exact ws_ldc2 hy hd hx k1
  | iload k => cases ln_of (k := 2) hln rfl (by decide); exact ws_ld (t := 0) (Or.inl rfl) rfl (fun x p e R s m args below meth c H locs cells slots Qs lc rest C h kk => lv_iload C.1 C.2.1 hd h kk) k1
  | iload_n k => cases ln_of (k := 1) hln rfl (by decide); exact ws_ld (t := 0) (Or.inl rfl) rfl (fun x p e R s m args below meth c H locs cells slots Qs lc rest C h kk => lv_iload_n C.1 C.2.1 hd rfl h kk) k1
  | lload k => cases ln_of (k := 2) hln rfl (by decide); exact ws_ld (t := 1) (Or.inr (Or.inl rfl)) rfl (fun x p e R s m args below meth c H locs cells slots Qs lc rest C h kk => lv_lload C.1 C.2.1 hd h kk) k1
  | lload_n k => cases ln_of (k := 1) hln rfl (by decide); exact ws_ld (t := 1) (Or.inr (Or.inl rfl)) rfl (fun x p e R s m args below meth c H locs cells slots Qs lc rest C h kk => lv_lload_n C.1 C.2.1 hd rfl h kk) k1
  | aload k => cases ln_of (k := 2) hln rfl (by decide); exact ws_ld (t := 2) (Or.inr (Or.inr rfl)) rfl (ald_row (fun x p e R s m args below meth c H locs cells slots Qs lc rest C h kk => lv_aload C.1 C.2.1 hd h kk) (fun p e R s m args below meth c H locs cells slots Qs lc rest C h kk => lv_aloadN C.1 C.2.1 hd h kk)) k1
  | aload_n k => cases ln_of (k := 1) hln rfl (by decide); exact ws_ld (t := 2) (Or.inr (Or.inr rfl)) rfl (ald_row (fun x p e R s m args below meth c H locs cells slots Qs lc rest C h kk => lv_aload_n C.1 C.2.1 hd rfl h kk) (fun p e R s m args below meth c H locs cells slots Qs lc rest C h kk => lv_aload_nN C.1 C.2.1 hd rfl h kk)) k1
  | istore k => cases ln_of (k := 2) hln rfl (by decide); exact ws_sv1 (t := 0) rfl (fun x p e R s m args below meth c H locs cells slots Qs lc rest lv lv' C h1 h2 h3 kk => lv_istore C.1 C.2.1 hd h1 h2 h3 kk) k1
  | istore_n k => cases ln_of (k := 1) hln rfl (by decide); exact ws_sv1 (t := 0) rfl (fun x p e R s m args below meth c H locs cells slots Qs lc rest lv lv' C h1 h2 h3 kk => lv_istore_n C.1 C.2.1 hd rfl h1 h2 h3 kk) k1
  | lstore k => cases ln_of (k := 2) hln rfl (by decide); exact ws_sv2 rfl (fun x p e R s m args below meth c H locs cells slots Qs lc rest lv lv' C h1 h2 h3 kk => lv_lstore C.1 C.2.1 hd h1 h2 h3 kk) k1
  | lstore_n k => cases ln_of (k := 1) hln rfl (by decide); exact ws_sv2 rfl (fun x p e R s m args below meth c H locs cells slots Qs lc rest lv lv' C h1 h2 h3 kk => lv_lstore_n C.1 C.2.1 hd rfl h1 h2 h3 kk) k1
  | astore k =>
    cases ln_of (k := 2) hln rfl (by decide)
    refine ws_sv1 (t := 2) rfl (fun x p e R s m args below meth c H locs cells slots Qs lc rest lv lv' C h1 h2 h3 kk => ?_) k1
    rw [cv_ref] at h3 ⊢
    rcases rfv_or g C.ref x with q | ⟨a, q⟩
    · rw [q] at h3 ⊢; exact lv_astoreN C.1 C.2.1 hd h1 h2 h3 kk
    · rw [q] at h3 ⊢; exact lv_astore C.1 C.2.1 hd h1 h2 h3 kk
  | astore_n k =>
    cases ln_of (k := 1) hln rfl (by decide)
    refine ws_sv1 (t := 2) rfl (fun x p e R s m args below meth c H locs cells slots Qs lc rest lv lv' C h1 h2 h3 kk => ?_) k1
    rw [cv_ref] at h3 ⊢
    rcases rfv_or g C.ref x with q | ⟨a, q⟩
    · rw [q] at h3 ⊢; exact lv_astore_nN C.1 C.2.1 hd rfl h1 h2 h3 kk
    · rw [q] at h3 ⊢; exact lv_astore_n C.1 C.2.1 hd rfl h1 h2 h3 kk
  | iinc k d => cases ln_of (k := 3) hln rfl (by decide); exact ws_iinc hd k1
  | dup =>
    cases ln_of (k := 1) hln rfl (by decide)
    unfold stp at k1
    simp only at k1
    split at k1
    · rename_i t x st
      cases hb : Nat.beq t 1 with
      | true => rw [hb] at k1; exact k1.elim
      | false =>
        rw [hb] at k1
        have hne : ¬ t = 1 := fun q => by rw [q] at hb; cases hb
        exact RowS.ws (st' := (t, x) :: (t, x) :: st) (fun p e R s m args below meth c H locs cells slots Qs lc C kk => lv_dup C.1 C.2.1 hd (by rw [cv_cat g C.ref, if_neg hne]) kk) (fun h w hw => h w (by rcases List.mem_cons.mp hw with rfl | hw; exact List.mem_cons_self; exact hw)) k1
    · exact k1.elim
  | dup2 =>
    cases ln_of (k := 1) hln rfl (by decide)
    unfold stp at k1
    simp only at k1
    split at k1
    · rename_i t x t' x' st
      cases hb : (Nat.beq t 1 || Nat.beq t' 1) with
      | true => rw [hb] at k1; exact k1.elim
      | false =>
        rw [hb] at k1
        simp only [Bool.or_eq_false_iff] at hb
        have hne : ¬ t = 1 := fun q => by rw [q] at hb; cases hb.1
        have hne' : ¬ t' = 1 := fun q => by rw [q] at hb; cases hb.2
        exact RowS.ws (st' := (t, x) :: (t', x') :: (t, x) :: (t', x') :: st) (fun p e R s m args below meth c H locs cells slots Qs lc C kk => lv_dup2_11 C.1 C.2.1 hd (by rw [cv_cat g C.ref, if_neg hne]) (by rw [cv_cat g C.ref, if_neg hne']) kk) (fun h w hw => h w (by simp only [List.mem_cons] at hw ⊢; rcases hw with q | q | q | q | q <;> simp [q])) k1
    · exact k1.elim
  | pop =>
    cases ln_of (k := 1) hln rfl (by decide)
    unfold stp at k1
    simp only at k1
    split at k1
    · rename_i t x st
      cases hb : Nat.beq t 1 with
      | true => rw [hb] at k1; exact k1.elim
      | false =>
        rw [hb] at k1
        have hne : ¬ t = 1 := fun q => by rw [q] at hb; cases hb
        exact RowS.ws (st := (t, x) :: st) (st' := st) (fun p e R s m args below meth c H locs cells slots Qs lc C kk => lv_pop C.1 C.2.1 hd (by rw [cv_cat g C.ref, if_neg hne]) kk) (fun h w hw => h w (List.mem_cons_of_mem _ hw)) k1
    · exact k1.elim
  | iadd => cases ln_of (k := 1) hln rfl (by decide); exact ws_bi (fun x z => x + z) (fun _ _ => rfl) (fun x z rest p e R s m args below meth c H locs cells slots Qs lc C kk => lv_iadd C.1 C.2.1 hd kk) k1
  | isub => cases ln_of (k := 1) hln rfl (by decide); exact ws_bi (fun x z => x - z) (fun _ _ => rfl) (fun x z rest p e R s m args below meth c H locs cells slots Qs lc C kk => lv_isub C.1 C.2.1 hd kk) k1
  | imul => cases ln_of (k := 1) hln rfl (by decide); exact ws_bi (fun x z => x * z) (fun _ _ => rfl) (fun x z rest p e R s m args below meth c H locs cells slots Qs lc C kk => lv_imul C.1 C.2.1 hd kk) k1
  | idiv => cases ln_of (k := 1) hln rfl (by decide); exact ws_biD (fun x z => x / z) (fun _ _ => rfl) (fun x z rest hz p e R s m args below meth c H locs cells slots Qs lc C kk => lv_idiv C.1 C.2.1 hd hz kk) k1
  | irem => cases ln_of (k := 1) hln rfl (by decide); exact ws_biD (fun x z => x - x / z * z) (fun _ _ => rfl) (fun x z rest hz p e R s m args below meth c H locs cells slots Qs lc C kk => lv_irem C.1 C.2.1 hd hz kk) k1
  | iand => cases ln_of (k := 1) hln rfl (by decide); exact ws_bi (fun x z => x &&& z) (fun _ _ => rfl) (fun x z rest p e R s m args below meth c H locs cells slots Qs lc C kk => lv_iand C.1 C.2.1 hd kk) k1
  | ior => cases ln_of (k := 1) hln rfl (by decide); exact ws_bi (fun x z => x ||| z) (fun _ _ => rfl) (fun x z rest p e R s m args below meth c H locs cells slots Qs lc C kk => lv_ior C.1 C.2.1 hd kk) k1
  | ixor => cases ln_of (k := 1) hln rfl (by decide); exact ws_bi (fun x z => x ^^^ z) (fun _ _ => rfl) (fun x z rest p e R s m args below meth c H locs cells slots Qs lc C kk => lv_ixor C.1 C.2.1 hd kk) k1
  | ishl => cases ln_of (k := 1) hln rfl (by decide); exact ws_bi (fun x z => x <<< (z &&& 31)) (fun _ _ => rfl) (fun x z rest p e R s m args below meth c H locs cells slots Qs lc C kk => lv_ishl C.1 C.2.1 hd kk) k1
  | ishr => cases ln_of (k := 1) hln rfl (by decide); exact ws_bi (fun x z => x >>> (z &&& 31)) (fun _ _ => rfl) (fun x z rest p e R s m args below meth c H locs cells slots Qs lc C kk => lv_ishr C.1 C.2.1 hd kk) k1
  | iushr => cases ln_of (k := 1) hln rfl (by decide); exact ws_bi (fun x z => (x.toUInt32 >>> (z.toUInt32 &&& Int32.toUInt32 31)).toInt32) (fun _ _ => rfl) (fun x z rest p e R s m args below meth c H locs cells slots Qs lc C kk => lv_iushr C.1 C.2.1 hd rfl kk) k1
  | ineg => cases ln_of (k := 1) hln rfl (by decide); exact ws_ui (fun x => -x) (fun _ => rfl) (fun x rest p e R s m args below meth c H locs cells slots Qs lc C kk => lv_ineg C.1 C.2.1 hd kk) k1
  | i2b => cases ln_of (k := 1) hln rfl (by decide); exact ws_ui (fun x => x.toInt8.toInt32) (fun _ => rfl) (fun x rest p e R s m args below meth c H locs cells slots Qs lc C kk => lv_i2b C.1 C.2.1 hd rfl kk) k1
  | i2c => cases ln_of (k := 1) hln rfl (by decide); exact ws_ui (fun x => (x.toUInt32 % 65536).toInt32) (fun _ => rfl) (fun x rest p e R s m args below meth c H locs cells slots Qs lc C kk => lv_i2c C.1 C.2.1 hd rfl kk) k1
  | i2l => cases ln_of (k := 1) hln rfl (by decide); exact ws_i2l hd k1
  | l2i => cases ln_of (k := 1) hln rfl (by decide); exact ws_l2i hd k1
  | ladd => cases ln_of (k := 1) hln rfl (by decide); exact ws_bl (fun x z => x + z) (fun _ _ => rfl) (fun x z rest p e R s m args below meth c H locs cells slots Qs lc C kk => lv_ladd C.1 C.2.1 hd kk) k1
  | lsub => cases ln_of (k := 1) hln rfl (by decide); exact ws_bl (fun x z => x - z) (fun _ _ => rfl) (fun x z rest p e R s m args below meth c H locs cells slots Qs lc C kk => lv_lsub C.1 C.2.1 hd kk) k1
  | lmul => cases ln_of (k := 1) hln rfl (by decide); exact ws_bl (fun x z => x * z) (fun _ _ => rfl) (fun x z rest p e R s m args below meth c H locs cells slots Qs lc C kk => lv_lmul C.1 C.2.1 hd kk) k1
  | ldiv => cases ln_of (k := 1) hln rfl (by decide); exact ws_blD (fun x z => x / z) (fun _ _ => rfl) (fun x z rest hz p e R s m args below meth c H locs cells slots Qs lc C kk => lv_ldiv C.1 C.2.1 hd hz kk) k1
  | lcmp => cases ln_of (k := 1) hln rfl (by decide); exact ws_lcmp hd k1
  | getfield k => cases ln_of (k := 3) hln rfl (by decide); exact ws_get hy hd hx k1
  | putfield k =>
    cases ln_of (k := 3) hln rfl (by decide)
    have hx : (chkF y k n u v && chkP y k n u v) = true := hx
    simp only [Bool.and_eq_true] at hx
    exact ws_put hy hd hx.1 hx.2 k1
  | getstatic k => cases ln_of (k := 3) hln rfl (by decide); exact ws_gets hy hd hx k1
  | arraylength => cases ln_of (k := 1) hln rfl (by decide); exact ws_alen hd k1
  | iaload => cases ln_of (k := 1) hln rfl (by decide); exact ws_iald hd k1
  | baload => cases ln_of (k := 1) hln rfl (by decide); exact ws_bald hd k1
  | caload => cases ln_of (k := 1) hln rfl (by decide); exact ws_cald hd k1
  | laload => cases ln_of (k := 1) hln rfl (by decide); exact ws_lald hd k1
  | aaload =>
    cases ln_of (k := 1) hln rfl (by decide)
    match al, k1 with
    | none, k1 => exact ws_aald hd k1
    | some _, k1 => exact k1.elim
  | iastore => cases ln_of (k := 1) hln rfl (by decide); exact ws_iast hd k1
  | bastore =>
    cases ln_of (k := 1) hln rfl (by decide)
    unfold stp at k1
    simp only at k1
    split at k1
    · rename_i r _
      cases hb : Nat.beq (sh r).1 21 with
      | true => rw [hb] at k1; exact ws_bast hd k1
      | false => rw [hb] at k1; exact ws_zast hd k1
    · exact k1.elim
  | castore => cases ln_of (k := 1) hln rfl (by decide); exact ws_cast hd k1
  | lastore => cases ln_of (k := 1) hln rfl (by decide); exact ws_last hd k1
  | checkcast k => cases ln_of (k := 3) hln rfl (by decide); exact ws_castc hy hd hx k1
  | new k => cases ln_of (k := 3) hln rfl (by decide); exact ws_new hy hd hx k1
  | newarray a => cases ln_of (k := 2) hln rfl (by decide); have hx : n = akN a := of_decide_eq_true hx; exact ws_newarr hd hx k1
  | multianewarray k d => exact k1.elim
  | invokespecial k =>
    cases ln_of (k := 3) hln rfl (by decide)
    by_cases hn : n = 1000
    · subst hn
      unfold chkX at hx
      simp only [show Nat.blt 1000 1000 = false from by decide, show Nat.beq 1000 1000 = true from by decide, cond_false, Bool.true_and] at hx
      exact ws_oi hy hd hx k1
    · have e0 : Nat.beq n 1000 = false := by
        cases hb : Nat.beq n 1000 with
        | true => exact absurd (Nat.eq_of_beq_eq_true hb) hn
        | false => rfl
      unfold stp at k1
      simp only [e0, cond_false] at k1
      exact k1.elim
  | invokestatic k =>
    cases ln_of (k := 3) hln rfl (by decide)
    by_cases hn : n = 1001
    · subst hn
      unfold chkX at hx
      simp only [show Nat.blt 1001 1000 = false from by decide, show Nat.beq 1001 1009 = false from by decide, show Nat.beq 1001 1001 = true from by decide, cond_false, Bool.true_and, Bool.false_or] at hx
      exact ws_copy hy hd hx k1
    · have e0 : Nat.beq n 1001 = false := by
        cases hb : Nat.beq n 1001 with
        | true => exact absurd (Nat.eq_of_beq_eq_true hb) hn
        | false => rfl
      unfold stp at k1
      simp only [e0, cond_false] at k1
      exact k1.elim
  | _ => exact k1.elim
end
