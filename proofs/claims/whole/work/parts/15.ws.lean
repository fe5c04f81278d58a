section
variable {l : Launch} {g : GG} {y : Nat} {Q : QQ} {Φ : PHI}
set_option maxRecDepth 100000 in
theorem on13 : (List.range 13).all (fun n => decide (onm n = cNm n)) = true := by decide +kernel
theorem nar_ref (g : GG) (h : gF g = .null ∨ ∃ a, gF g = .ref a) (t : FieldType) (x : Int) : narrow t (rfv g x) = rfv g x := by
  rcases rfv_or g h x with e | ⟨a, e⟩ <;> rw [e] <;> cases t <;> rfl
theorem fit_ref (g : GG) (h : gF g = .null ∨ ∃ a, gF g = .ref a) {t : FieldType} (ht : (∃ n, t = .object n) ∨ ∃ u, t = .array u) (x : Int) : fits t (rfv g x) = true := by
  rcases rfv_or g h x with e | ⟨a, e⟩ <;> rw [e] <;> rcases ht with ⟨n, rfl⟩ | ⟨u, rfl⟩ <;> rfl
theorem nat_of {x : Int} (h0 : 0 ≤ x) : Int32.ofInt x = nI x.toNat := by
  have e : x = (x.toNat : Int) := by omega
  unfold nI
  rw [← Int32.ofInt_eq_ofNat, ← e]
theorem nar_char {x : Int} (h : 0 ≤ x ∧ x ≤ 65535) : narrow .char (.int (Int32.ofInt x)) = .int (Int32.ofInt x) ∧ fits .char (.int (Int32.ofInt x)) = true := by
  rw [nat_of h.1]
  exact pk_charN (by omega)
theorem nar_bool {x : Int} (h : x = 0 ∨ x = 1) : narrow .boolean (.int (Int32.ofInt x)) = .int (Int32.ofInt x) ∧ fits .boolean (.int (Int32.ofInt x)) = true := by
  rcases h with rfl | rfl <;> exact ⟨rfl, rfl⟩
theorem ws_put (hy : y < 286) {k n pc : Nat} {u v : Int} (hd : decode (mB y) pc = .ok (.putfield k, 3)) (hc : chkF y k n u v = true) (hp : chkP y k n u v = true) {ls st : List VV} {al : AL} {μ : MM} (k1 : wgo (WX l g y Φ) pc 3 (puts n u v ls st al μ)) : WX l g y Φ pc ls st al μ := by
  unfold puts at k1
  split at k1
  · rename_i t x r st
    cases hb : (Nat.beq (sh r).1 n && Nat.blt n 13 && okr al r) with
    | false => rw [hb] at k1; exact k1.elim
    | true =>
      rw [hb] at k1
      simp only [cond_true] at k1
      simp only [Bool.and_eq_true] at hb
      have hs := Nat.eq_of_beq_eq_true hb.1.1
      have hn : n < 13 := Nat.blt_eq.mp hb.1.2
      obtain ⟨kk, rfl, hk⟩ := sh_small hs (by omega) (by omega) (by omega) (by omega)
      obtain ⟨u', hu, hu', hv, hw⟩ := fld_word hy hc hn
      obtain ⟨hty, hdc, hkd, hfn⟩ := ty_at hn hu'
      have hLf : isL ((kk : Int) + 1) u = decide (clk n u' = 1) := by
        unfold isL
        rw [hs, hu]
        have e1 : decide (n = 24) = false := decide_eq_false (by omega)
        have e2 : Nat.blt n 13 = true := Nat.blt_eq.mpr hn
        rw [e1, e2]
        simp
      have fin : narrow (cTy n u') (cv g (t, x)) = cv g (t, x) → fits (cTy n u') (cv g (t, x)) = true → cv g (t, x) = fvl g n u' x → (wfv (t, x) → (clk n u' ≠ 1 → -2147483648 ≤ x ∧ x < 2147483648) ∧ (-9223372036854775808 ≤ x ∧ x < 9223372036854775808)) → (al = none → clk n u' ≠ 2) → WX l g y Φ (pc + 3) ls st al (mup μ ((kk : Int) + 1) u x) → WX l g y Φ pc ls ((t, x) :: (2, (kk : Int) + 1) :: st) al μ := by
        intro hnar hfit hval hrg hph kw p e R s m args below meth c H locs cells slots mc ms lc h1 h2 h3 h4 h5 h6
        obtain ⟨hx, hbb, -, -, -, hown, hnam, hts, -, hK, hE⟩ := id h1
        have hP := h2.1.1
        have hrg := hrg (h6 _ List.mem_cons_self)
        have hcn := okr_cnt hb.2 hk
        have he : (wl g μ (cnt al))[kk]? = some (gB g + kk, .inr (n, (List.range (cNf n)).map (fun j => fvl g n j (μ ((kk : Int) + 1) (j : Int))))) := by
          rw [wl_get g μ hcn, ceE_obj hs hn]
        have go : ∀ (H1 : Heap) (locs1 : List Loc), va_P (gC g, gI g) cls13 ((wl g μ (cnt al)).set kk (gB g + kk, .inr (n, ((List.range (cNf n)).map (fun j => fvl g n j (μ ((kk : Int) + 1) (j : Int)))).set u' (cv g (t, x))))) H1 → va_D (gP g) ((wl g μ (cnt al)).set kk (gB g + kk, .inr (n, ((List.range (cNf n)).map (fun j => fvl g n j (μ ((kk : Int) + 1) (j : Int)))).set u' (cv g (t, x))))) → va_S (gP g) s.heap H1 locs1 → W p l e R s m args below meth c H1 locs1 cells slots (Φ p e s args below mc ms al.isNone) (F0 m (pc + 3) lc (st.map (cv g))) := by
          intro H1 locs1 hP1 _ hS1
          rw [hval, fvl_set hu', wl_set g (μ' := mup μ ((kk : Int) + 1) u x) hcn (by rw [ceE_obj hs hn, hu]) (fun j hj => ceE_other hj)] at hP1
          refine kw p e R s m args below meth c H1 locs1 cells slots mc ms lc h1 ⟨⟨hP1, wfm_mup h2.1.2.1 (fun q => hrg.1 (by rw [hLf] at q; exact of_decide_eq_false q)) hrg.2, zero_mup h2.1.2.2.1 hcn, phS_mup h2.1.2.2.2 (fun q _ _ => by rw [hs, hu]; exact hph q)⟩, hS1, SCR_mup h2.2.2 (by omega)⟩ h3 h4 h5 (fun v hv => h6 v (List.mem_cons_of_mem _ (List.mem_cons_of_mem _ hv)))
        show W p l e R s m args below meth c H locs cells slots _ (F0 m pc lc (cv g (t, x) :: rfv g ((kk : Int) + 1) :: st.map (cv g)))
        rw [rfv_id g hk]
        have hsame : ∀ x, s.fieldFound? (cFd n u').1 (cFd n u').2.1 (cFd n u').2.2.1 = some x → s.fieldFound? (cNm n) (cFd n u').2.1 (cFd n u').2.2.1 = some x := by
          rw [hdc]
          exact fun _ h => h
        have hl : u' < ((List.range (cNf n)).map (fun j => fvl g n j (μ ((kk : Int) + 1) (j : Int)))).length := by simpa using hu'
        cases hf : (cFd n u').2.2.2 with
        | true =>
          unfold chkP at hp
          rw [hu, show ((u' : Int)).toNat = u' from rfl, hf] at hp
          simp only [cond_true, Bool.and_eq_true, decide_eq_true_eq, Bool.not_eq_true'] at hp
          obtain ⟨-, ⟨⟨hp1, hp2⟩, hp3⟩, hp4⟩ := hp
          rcases hw with ⟨-, hw⟩ | ⟨hq, -⟩
          · refine va_putF (C := cNm n) (T := cFd n) (N := cNf n) (ty := cTy n u') hx hbb hts (ly_in hn) (cTy n) (fun k hk => (ty_at hn hk).1) (nm_at hn) hown hK hP (wl_D g μ _) h2.2.1 kk he (cls13_get hn) u' hu' (hts _ hw) hsame hf (hnam.trans hp3) ?_ hty hnar hfit hl hd go
            rw [hdc, on_y hy, Nat.eq_of_beq_eq_true hp2]
            exact (of_decide_eq_true (List.all_eq_true.mp on13 n (List.mem_range.mpr hn))).symm
          · rw [hq] at hp4; cases hp4
        | false =>
          rcases hw with ⟨-, hw⟩ | ⟨-, hw⟩
          · exact va_put (C := cNm n) (T := cFd n) (N := cNf n) (ty := cTy n u') hx hbb hts (ly_in hn) (cTy n) (fun k hk => (ty_at hn hk).1) (nm_at hn) hown hK hP (wl_D g μ _) h2.2.1 kk he (cls13_get hn) u' hu' (hts _ hw) hsame hf hty hnar hfit hl hd go
          · exact va_putN (C := cNm n) (T := cFd n) (N := cNf n) (ty := cTy n u') hx hbb hts (ly_in hn) (cTy n) (fun k hk => (ty_at hn hk).1) (nm_at hn) hown hK hP (wl_D g μ _) h2.2.1 kk he (cls13_get hn) u' hu' (va_Nw.use rfl (hE.1 _ hw)) hsame hf hty hnar hfit hl hd go
      have hkd' := hkd
      rw [← hv] at hkd'
      have b0 : ∀ {t' : Nat} {X : SR}, wgo (WX l g y Φ) pc 3 (bif Nat.beq t t' then X else none) → t = t' ∧ wgo (WX l g y Φ) pc 3 X := by
        intro t' X q
        cases hb : Nat.beq t t' with
        | false => rw [hb] at q; exact q.elim
        | true => rw [hb] at q; exact ⟨Nat.eq_of_beq_eq_true hb, q⟩
      split at k1
      · obtain ⟨rfl, k1⟩ := b0 k1
        have hcT : cTy n u' = .int := by
          revert hkd'; cases cTy n u' <;> simp
        exact fin (by rw [hcT]; rfl) (by rw [hcT]; rfl) (fvl_i (by omega) (by omega) (by omega)).symm (fun w => ⟨fun _ => w.1 rfl, by have := w.1 rfl; simp only at this; omega⟩) (fun _ => by omega) k1
      · obtain ⟨rfl, k1⟩ := b0 k1
        have hcT : cTy n u' = .long := by
          revert hkd'; cases cTy n u' <;> simp
        exact fin (by rw [hcT]; rfl) (by rw [hcT]; rfl) (fvl_l (by omega)).symm (fun w => ⟨fun q => absurd (by omega) q, w.2.1 rfl⟩) (fun _ => by omega) k1
      · obtain ⟨rfl, k1⟩ := b0 k1
        have hcT : (∃ n', cTy n u' = .object n') ∨ ∃ u, cTy n u' = .array u := by
          revert hkd'; cases cTy n u' <;> simp
        match al, k1, fin with
        | none, k1, _ => exact k1.elim
        | some a, k1, fin =>
          intro p e R s m args below meth c H locs cells slots mc ms lc h1 h2 h3 h4 h5 h6
          exact fin (nar_ref g h1.ref _ _) (fit_ref g h1.ref hcT _) (fvl_r (Or.inl (by omega))).symm (fun w => ⟨fun _ => w.2.2 rfl, by have := w.2.2 rfl; simp only at this; omega⟩) (fun q => by cases q) k1 p e R s m args below meth c H locs cells slots mc ms lc h1 h2 h3 h4 h5 h6
      · obtain ⟨rfl, k1⟩ := b0 k1
        have hcT : (∃ n', cTy n u' = .object n') ∨ ∃ u, cTy n u' = .array u := by
          revert hkd'; cases cTy n u' <;> simp
        intro p e R s m args below meth c H locs cells slots mc ms lc h1 h2 h3 h4 h5 h6
        exact fin (nar_ref g h1.ref _ _) (fit_ref g h1.ref hcT _) (fvl_r (Or.inr (by omega))).symm (fun w => ⟨fun _ => w.2.2 rfl, by have := w.2.2 rfl; simp only at this; omega⟩) (fun _ => by omega) k1 p e R s m args below meth c H locs cells slots mc ms lc h1 h2 h3 h4 h5 h6
      · obtain ⟨rfl, k1⟩ := b0 k1
        have hcT : cTy n u' = .boolean := by
          revert hkd'; cases cTy n u' <;> simp
        have k1 : (x = 0 ∨ x = 1) ∧ _ := k1
        exact fin (by rw [hcT]; exact (nar_bool k1.1).1) (by rw [hcT]; exact (nar_bool k1.1).2) (fvl_i (by omega) (by omega) (by omega)).symm (fun w => ⟨fun _ => w.1 rfl, by have := w.1 rfl; simp only at this; omega⟩) (fun _ => by omega) k1.2
      · obtain ⟨rfl, k1⟩ := b0 k1
        have hcT : cTy n u' = .char := by
          revert hkd'; cases cTy n u' <;> simp
        have k1 : (0 ≤ x ∧ x ≤ 65535) ∧ _ := k1
        exact fin (by rw [hcT]; exact (nar_char k1.1).1) (by rw [hcT]; exact (nar_char k1.1).2) (fvl_i (by omega) (by omega) (by omega)).symm (fun w => ⟨fun _ => w.1 rfl, by have := w.1 rfl; simp only at this; omega⟩) (fun _ => by omega) k1.2
      · exact k1.elim
  · exact k1.elim
end
