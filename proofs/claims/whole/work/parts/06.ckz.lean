section
theorem ckq0_1 : ∀ y, 0 ≤ y → y < 1 → raAll (chkE y) (ctA.get y) = true := fun y h1 h2 => by
  have e : y = 0 := by omega
  subst e
  exact ck0
theorem ckq1_2 : ∀ y, 1 ≤ y → y < 2 → raAll (chkE y) (ctA.get y) = true := fun y h1 h2 => by
  have e : y = 1 := by omega
  subst e
  exact ck1
theorem ckq0_2 : ∀ y, 0 ≤ y → y < 2 → raAll (chkE y) (ctA.get y) = true := fun y h1 h2 => (Nat.lt_or_ge y 1).elim (fun q => ckq0_1 y h1 q) (fun q => ckq1_2 y q h2)
theorem ckq2_3 : ∀ y, 2 ≤ y → y < 3 → raAll (chkE y) (ctA.get y) = true := fun y h1 h2 => by
  have e : y = 2 := by omega
  subst e
  exact ck2
theorem ckq3_4 : ∀ y, 3 ≤ y → y < 4 → raAll (chkE y) (ctA.get y) = true := fun y h1 h2 => by
  have e : y = 3 := by omega
  subst e
  exact ck3
theorem ckq2_4 : ∀ y, 2 ≤ y → y < 4 → raAll (chkE y) (ctA.get y) = true := fun y h1 h2 => (Nat.lt_or_ge y 3).elim (fun q => ckq2_3 y h1 q) (fun q => ckq3_4 y q h2)
theorem ckq0_4 : ∀ y, 0 ≤ y → y < 4 → raAll (chkE y) (ctA.get y) = true := fun y h1 h2 => (Nat.lt_or_ge y 2).elim (fun q => ckq0_2 y h1 q) (fun q => ckq2_4 y q h2)
theorem ckq4_5 : ∀ y, 4 ≤ y → y < 5 → raAll (chkE y) (ctA.get y) = true := fun y h1 h2 => by
  have e : y = 4 := by omega
  subst e
  exact ck4
theorem ckq5_6 : ∀ y, 5 ≤ y → y < 6 → raAll (chkE y) (ctA.get y) = true := fun y h1 h2 => by
  have e : y = 5 := by omega
  subst e
  exact ck5
theorem ckq4_6 : ∀ y, 4 ≤ y → y < 6 → raAll (chkE y) (ctA.get y) = true := fun y h1 h2 => (Nat.lt_or_ge y 5).elim (fun q => ckq4_5 y h1 q) (fun q => ckq5_6 y q h2)
theorem ckq6_7 : ∀ y, 6 ≤ y → y < 7 → raAll (chkE y) (ctA.get y) = true := fun y h1 h2 => by
  have e : y = 6 := by omega
  subst e
  exact ck6
theorem ckq7_8 : ∀ y, 7 ≤ y → y < 8 → raAll (chkE y) (ctA.get y) = true := fun y h1 h2 => by
  have e : y = 7 := by omega
  subst e
  exact ck7
theorem ckq6_8 : ∀ y, 6 ≤ y → y < 8 → raAll (chkE y) (ctA.get y) = true := fun y h1 h2 => (Nat.lt_or_ge y 7).elim (fun q => ckq6_7 y h1 q) (fun q => ckq7_8 y q h2)
theorem ckq4_8 : ∀ y, 4 ≤ y → y < 8 → raAll (chkE y) (ctA.get y) = true := fun y h1 h2 => (Nat.lt_or_ge y 6).elim (fun q => ckq4_6 y h1 q) (fun q => ckq6_8 y q h2)
theorem ckq0_8 : ∀ y, 0 ≤ y → y < 8 → raAll (chkE y) (ctA.get y) = true := fun y h1 h2 => (Nat.lt_or_ge y 4).elim (fun q => ckq0_4 y h1 q) (fun q => ckq4_8 y q h2)
theorem ckq8_9 : ∀ y, 8 ≤ y → y < 9 → raAll (chkE y) (ctA.get y) = true := fun y h1 h2 => by
  have e : y = 8 := by omega
  subst e
  exact ck8
theorem ckq9_10 : ∀ y, 9 ≤ y → y < 10 → raAll (chkE y) (ctA.get y) = true := fun y h1 h2 => by
  have e : y = 9 := by omega
  subst e
  exact ck9
theorem ckq8_10 : ∀ y, 8 ≤ y → y < 10 → raAll (chkE y) (ctA.get y) = true := fun y h1 h2 => (Nat.lt_or_ge y 9).elim (fun q => ckq8_9 y h1 q) (fun q => ckq9_10 y q h2)
theorem ckq10_11 : ∀ y, 10 ≤ y → y < 11 → raAll (chkE y) (ctA.get y) = true := fun y h1 h2 => by
  have e : y = 10 := by omega
  subst e
  exact ck10
theorem ckq11_12 : ∀ y, 11 ≤ y → y < 12 → raAll (chkE y) (ctA.get y) = true := fun y h1 h2 => by
  have e : y = 11 := by omega
  subst e
  exact ck11
theorem ckq10_12 : ∀ y, 10 ≤ y → y < 12 → raAll (chkE y) (ctA.get y) = true := fun y h1 h2 => (Nat.lt_or_ge y 11).elim (fun q => ckq10_11 y h1 q) (fun q => ckq11_12 y q h2)
theorem ckq8_12 : ∀ y, 8 ≤ y → y < 12 → raAll (chkE y) (ctA.get y) = true := fun y h1 h2 => (Nat.lt_or_ge y 10).elim (fun q => ckq8_10 y h1 q) (fun q => ckq10_12 y q h2)
theorem ckq12_13 : ∀ y, 12 ≤ y → y < 13 → raAll (chkE y) (ctA.get y) = true := fun y h1 h2 => by
  have e : y = 12 := by omega
  subst e
  exact ck12
theorem ckq13_14 : ∀ y, 13 ≤ y → y < 14 → raAll (chkE y) (ctA.get y) = true := fun y h1 h2 => by
  have e : y = 13 := by omega
  subst e
  exact ck13
theorem ckq12_14 : ∀ y, 12 ≤ y → y < 14 → raAll (chkE y) (ctA.get y) = true := fun y h1 h2 => (Nat.lt_or_ge y 13).elim (fun q => ckq12_13 y h1 q) (fun q => ckq13_14 y q h2)
theorem ckq14_15 : ∀ y, 14 ≤ y → y < 15 → raAll (chkE y) (ctA.get y) = true := fun y h1 h2 => by
  have e : y = 14 := by omega
  subst e
  exact ck14
theorem ckq15_16 : ∀ y, 15 ≤ y → y < 16 → raAll (chkE y) (ctA.get y) = true := fun y h1 h2 => by
  have e : y = 15 := by omega
  subst e
  exact ck15
theorem ckq16_17 : ∀ y, 16 ≤ y → y < 17 → raAll (chkE y) (ctA.get y) = true := fun y h1 h2 => by
  have e : y = 16 := by omega
  subst e
  exact ck16
theorem ckq15_17 : ∀ y, 15 ≤ y → y < 17 → raAll (chkE y) (ctA.get y) = true := fun y h1 h2 => (Nat.lt_or_ge y 16).elim (fun q => ckq15_16 y h1 q) (fun q => ckq16_17 y q h2)
theorem ckq14_17 : ∀ y, 14 ≤ y → y < 17 → raAll (chkE y) (ctA.get y) = true := fun y h1 h2 => (Nat.lt_or_ge y 15).elim (fun q => ckq14_15 y h1 q) (fun q => ckq15_17 y q h2)
theorem ckq12_17 : ∀ y, 12 ≤ y → y < 17 → raAll (chkE y) (ctA.get y) = true := fun y h1 h2 => (Nat.lt_or_ge y 14).elim (fun q => ckq12_14 y h1 q) (fun q => ckq14_17 y q h2)
theorem ckq8_17 : ∀ y, 8 ≤ y → y < 17 → raAll (chkE y) (ctA.get y) = true := fun y h1 h2 => (Nat.lt_or_ge y 12).elim (fun q => ckq8_12 y h1 q) (fun q => ckq12_17 y q h2)
theorem ckq0_17 : ∀ y, 0 ≤ y → y < 17 → raAll (chkE y) (ctA.get y) = true := fun y h1 h2 => (Nat.lt_or_ge y 8).elim (fun q => ckq0_8 y h1 q) (fun q => ckq8_17 y q h2)
theorem ckq17_18 : ∀ y, 17 ≤ y → y < 18 → raAll (chkE y) (ctA.get y) = true := fun y h1 h2 => by
  have e : y = 17 := by omega
  subst e
  exact ck17
theorem ckq18_19 : ∀ y, 18 ≤ y → y < 19 → raAll (chkE y) (ctA.get y) = true := fun y h1 h2 => by
  have e : y = 18 := by omega
  subst e
  exact ck18
theorem ckq17_19 : ∀ y, 17 ≤ y → y < 19 → raAll (chkE y) (ctA.get y) = true := fun y h1 h2 => (Nat.lt_or_ge y 18).elim (fun q => ckq17_18 y h1 q) (fun q => ckq18_19 y q h2)
theorem ckq19_20 : ∀ y, 19 ≤ y → y < 20 → raAll (chkE y) (ctA.get y) = true := fun y h1 h2 => by
  have e : y = 19 := by omega
  subst e
  exact ck19
theorem ckq20_21 : ∀ y, 20 ≤ y → y < 21 → raAll (chkE y) (ctA.get y) = true := fun y h1 h2 => by
  have e : y = 20 := by omega
  subst e
  exact ck20
theorem ckq19_21 : ∀ y, 19 ≤ y → y < 21 → raAll (chkE y) (ctA.get y) = true := fun y h1 h2 => (Nat.lt_or_ge y 20).elim (fun q => ckq19_20 y h1 q) (fun q => ckq20_21 y q h2)
theorem ckq17_21 : ∀ y, 17 ≤ y → y < 21 → raAll (chkE y) (ctA.get y) = true := fun y h1 h2 => (Nat.lt_or_ge y 19).elim (fun q => ckq17_19 y h1 q) (fun q => ckq19_21 y q h2)
theorem ckq21_22 : ∀ y, 21 ≤ y → y < 22 → raAll (chkE y) (ctA.get y) = true := fun y h1 h2 => by
  have e : y = 21 := by omega
  subst e
  exact ck21
theorem ckq22_23 : ∀ y, 22 ≤ y → y < 23 → raAll (chkE y) (ctA.get y) = true := fun y h1 h2 => by
  have e : y = 22 := by omega
  subst e
  exact ck22
theorem ckq21_23 : ∀ y, 21 ≤ y → y < 23 → raAll (chkE y) (ctA.get y) = true := fun y h1 h2 => (Nat.lt_or_ge y 22).elim (fun q => ckq21_22 y h1 q) (fun q => ckq22_23 y q h2)
theorem ckq23_24 : ∀ y, 23 ≤ y → y < 24 → raAll (chkE y) (ctA.get y) = true := fun y h1 h2 => by
  have e : y = 23 := by omega
  subst e
  exact ck23
theorem ckq24_25 : ∀ y, 24 ≤ y → y < 25 → raAll (chkE y) (ctA.get y) = true := fun y h1 h2 => by
  have e : y = 24 := by omega
  subst e
  exact ck24
theorem ckq25_26 : ∀ y, 25 ≤ y → y < 26 → raAll (chkE y) (ctA.get y) = true := fun y h1 h2 => by
  have e : y = 25 := by omega
  subst e
  exact ck25
theorem ckq24_26 : ∀ y, 24 ≤ y → y < 26 → raAll (chkE y) (ctA.get y) = true := fun y h1 h2 => (Nat.lt_or_ge y 25).elim (fun q => ckq24_25 y h1 q) (fun q => ckq25_26 y q h2)
theorem ckq23_26 : ∀ y, 23 ≤ y → y < 26 → raAll (chkE y) (ctA.get y) = true := fun y h1 h2 => (Nat.lt_or_ge y 24).elim (fun q => ckq23_24 y h1 q) (fun q => ckq24_26 y q h2)
theorem ckq21_26 : ∀ y, 21 ≤ y → y < 26 → raAll (chkE y) (ctA.get y) = true := fun y h1 h2 => (Nat.lt_or_ge y 23).elim (fun q => ckq21_23 y h1 q) (fun q => ckq23_26 y q h2)
theorem ckq17_26 : ∀ y, 17 ≤ y → y < 26 → raAll (chkE y) (ctA.get y) = true := fun y h1 h2 => (Nat.lt_or_ge y 21).elim (fun q => ckq17_21 y h1 q) (fun q => ckq21_26 y q h2)
theorem ckq26_27 : ∀ y, 26 ≤ y → y < 27 → raAll (chkE y) (ctA.get y) = true := fun y h1 h2 => by
  have e : y = 26 := by omega
  subst e
  exact ck26
theorem ckq27_28 : ∀ y, 27 ≤ y → y < 28 → raAll (chkE y) (ctA.get y) = true := fun y h1 h2 => by
  have e : y = 27 := by omega
  subst e
  exact ck27
theorem ckq26_28 : ∀ y, 26 ≤ y → y < 28 → raAll (chkE y) (ctA.get y) = true := fun y h1 h2 => (Nat.lt_or_ge y 27).elim (fun q => ckq26_27 y h1 q) (fun q => ckq27_28 y q h2)
theorem ckq28_29 : ∀ y, 28 ≤ y → y < 29 → raAll (chkE y) (ctA.get y) = true := fun y h1 h2 => by
  have e : y = 28 := by omega
  subst e
  exact ck28
theorem ckq29_30 : ∀ y, 29 ≤ y → y < 30 → raAll (chkE y) (ctA.get y) = true := fun y h1 h2 => by
  have e : y = 29 := by omega
  subst e
  exact ck29
theorem ckq28_30 : ∀ y, 28 ≤ y → y < 30 → raAll (chkE y) (ctA.get y) = true := fun y h1 h2 => (Nat.lt_or_ge y 29).elim (fun q => ckq28_29 y h1 q) (fun q => ckq29_30 y q h2)
theorem ckq26_30 : ∀ y, 26 ≤ y → y < 30 → raAll (chkE y) (ctA.get y) = true := fun y h1 h2 => (Nat.lt_or_ge y 28).elim (fun q => ckq26_28 y h1 q) (fun q => ckq28_30 y q h2)
theorem ckq30_31 : ∀ y, 30 ≤ y → y < 31 → raAll (chkE y) (ctA.get y) = true := fun y h1 h2 => by
  have e : y = 30 := by omega
  subst e
  exact ck30
theorem ckq31_32 : ∀ y, 31 ≤ y → y < 32 → raAll (chkE y) (ctA.get y) = true := fun y h1 h2 => by
  have e : y = 31 := by omega
  subst e
  exact ck31
theorem ckq30_32 : ∀ y, 30 ≤ y → y < 32 → raAll (chkE y) (ctA.get y) = true := fun y h1 h2 => (Nat.lt_or_ge y 31).elim (fun q => ckq30_31 y h1 q) (fun q => ckq31_32 y q h2)
theorem ckq32_33 : ∀ y, 32 ≤ y → y < 33 → raAll (chkE y) (ctA.get y) = true := fun y h1 h2 => by
  have e : y = 32 := by omega
  subst e
  exact ck32
theorem ckq33_34 : ∀ y, 33 ≤ y → y < 34 → raAll (chkE y) (ctA.get y) = true := fun y h1 h2 => by
  have e : y = 33 := by omega
  subst e
  exact ck33
theorem ckq34_35 : ∀ y, 34 ≤ y → y < 35 → raAll (chkE y) (ctA.get y) = true := fun y h1 h2 => by
  have e : y = 34 := by omega
  subst e
  exact ck34
theorem ckq33_35 : ∀ y, 33 ≤ y → y < 35 → raAll (chkE y) (ctA.get y) = true := fun y h1 h2 => (Nat.lt_or_ge y 34).elim (fun q => ckq33_34 y h1 q) (fun q => ckq34_35 y q h2)
theorem ckq32_35 : ∀ y, 32 ≤ y → y < 35 → raAll (chkE y) (ctA.get y) = true := fun y h1 h2 => (Nat.lt_or_ge y 33).elim (fun q => ckq32_33 y h1 q) (fun q => ckq33_35 y q h2)
theorem ckq30_35 : ∀ y, 30 ≤ y → y < 35 → raAll (chkE y) (ctA.get y) = true := fun y h1 h2 => (Nat.lt_or_ge y 32).elim (fun q => ckq30_32 y h1 q) (fun q => ckq32_35 y q h2)
theorem ckq26_35 : ∀ y, 26 ≤ y → y < 35 → raAll (chkE y) (ctA.get y) = true := fun y h1 h2 => (Nat.lt_or_ge y 30).elim (fun q => ckq26_30 y h1 q) (fun q => ckq30_35 y q h2)
theorem ckq17_35 : ∀ y, 17 ≤ y → y < 35 → raAll (chkE y) (ctA.get y) = true := fun y h1 h2 => (Nat.lt_or_ge y 26).elim (fun q => ckq17_26 y h1 q) (fun q => ckq26_35 y q h2)
theorem ckq0_35 : ∀ y, 0 ≤ y → y < 35 → raAll (chkE y) (ctA.get y) = true := fun y h1 h2 => (Nat.lt_or_ge y 17).elim (fun q => ckq0_17 y h1 q) (fun q => ckq17_35 y q h2)
theorem ckq35_36 : ∀ y, 35 ≤ y → y < 36 → raAll (chkE y) (ctA.get y) = true := fun y h1 h2 => by
  have e : y = 35 := by omega
  subst e
  exact ck35
theorem ckq36_37 : ∀ y, 36 ≤ y → y < 37 → raAll (chkE y) (ctA.get y) = true := fun y h1 h2 => by
  have e : y = 36 := by omega
  subst e
  exact ck36
theorem ckq35_37 : ∀ y, 35 ≤ y → y < 37 → raAll (chkE y) (ctA.get y) = true := fun y h1 h2 => (Nat.lt_or_ge y 36).elim (fun q => ckq35_36 y h1 q) (fun q => ckq36_37 y q h2)
theorem ckq37_38 : ∀ y, 37 ≤ y → y < 38 → raAll (chkE y) (ctA.get y) = true := fun y h1 h2 => by
  have e : y = 37 := by omega
  subst e
  exact ck37
theorem ckq38_39 : ∀ y, 38 ≤ y → y < 39 → raAll (chkE y) (ctA.get y) = true := fun y h1 h2 => by
  have e : y = 38 := by omega
  subst e
  exact ck38
theorem ckq37_39 : ∀ y, 37 ≤ y → y < 39 → raAll (chkE y) (ctA.get y) = true := fun y h1 h2 => (Nat.lt_or_ge y 38).elim (fun q => ckq37_38 y h1 q) (fun q => ckq38_39 y q h2)
theorem ckq35_39 : ∀ y, 35 ≤ y → y < 39 → raAll (chkE y) (ctA.get y) = true := fun y h1 h2 => (Nat.lt_or_ge y 37).elim (fun q => ckq35_37 y h1 q) (fun q => ckq37_39 y q h2)
theorem ckq39_40 : ∀ y, 39 ≤ y → y < 40 → raAll (chkE y) (ctA.get y) = true := fun y h1 h2 => by
  have e : y = 39 := by omega
  subst e
  exact ck39
theorem ckq40_41 : ∀ y, 40 ≤ y → y < 41 → raAll (chkE y) (ctA.get y) = true := fun y h1 h2 => by
  have e : y = 40 := by omega
  subst e
  exact ck40
theorem ckq39_41 : ∀ y, 39 ≤ y → y < 41 → raAll (chkE y) (ctA.get y) = true := fun y h1 h2 => (Nat.lt_or_ge y 40).elim (fun q => ckq39_40 y h1 q) (fun q => ckq40_41 y q h2)
theorem ckq41_42 : ∀ y, 41 ≤ y → y < 42 → raAll (chkE y) (ctA.get y) = true := fun y h1 h2 => by
  have e : y = 41 := by omega
  subst e
  exact ck41
theorem ckq42_43 : ∀ y, 42 ≤ y → y < 43 → raAll (chkE y) (ctA.get y) = true := fun y h1 h2 => by
  have e : y = 42 := by omega
  subst e
  exact ck42
theorem ckq43_44 : ∀ y, 43 ≤ y → y < 44 → raAll (chkE y) (ctA.get y) = true := fun y h1 h2 => by
  have e : y = 43 := by omega
  subst e
  exact ck43
theorem ckq42_44 : ∀ y, 42 ≤ y → y < 44 → raAll (chkE y) (ctA.get y) = true := fun y h1 h2 => (Nat.lt_or_ge y 43).elim (fun q => ckq42_43 y h1 q) (fun q => ckq43_44 y q h2)
theorem ckq41_44 : ∀ y, 41 ≤ y → y < 44 → raAll (chkE y) (ctA.get y) = true := fun y h1 h2 => (Nat.lt_or_ge y 42).elim (fun q => ckq41_42 y h1 q) (fun q => ckq42_44 y q h2)
theorem ckq39_44 : ∀ y, 39 ≤ y → y < 44 → raAll (chkE y) (ctA.get y) = true := fun y h1 h2 => (Nat.lt_or_ge y 41).elim (fun q => ckq39_41 y h1 q) (fun q => ckq41_44 y q h2)
theorem ckq35_44 : ∀ y, 35 ≤ y → y < 44 → raAll (chkE y) (ctA.get y) = true := fun y h1 h2 => (Nat.lt_or_ge y 39).elim (fun q => ckq35_39 y h1 q) (fun q => ckq39_44 y q h2)
theorem ckq44_45 : ∀ y, 44 ≤ y → y < 45 → raAll (chkE y) (ctA.get y) = true := fun y h1 h2 => by
  have e : y = 44 := by omega
  subst e
  exact ck44
theorem ckq45_46 : ∀ y, 45 ≤ y → y < 46 → raAll (chkE y) (ctA.get y) = true := fun y h1 h2 => by
  have e : y = 45 := by omega
  subst e
  exact ck45
theorem ckq44_46 : ∀ y, 44 ≤ y → y < 46 → raAll (chkE y) (ctA.get y) = true := fun y h1 h2 => (Nat.lt_or_ge y 45).elim (fun q => ckq44_45 y h1 q) (fun q => ckq45_46 y q h2)
theorem ckq46_47 : ∀ y, 46 ≤ y → y < 47 → raAll (chkE y) (ctA.get y) = true := fun y h1 h2 => by
  have e : y = 46 := by omega
  subst e
  exact ck46
theorem ckq47_48 : ∀ y, 47 ≤ y → y < 48 → raAll (chkE y) (ctA.get y) = true := fun y h1 h2 => by
  have e : y = 47 := by omega
  subst e
  exact ck47
theorem ckq46_48 : ∀ y, 46 ≤ y → y < 48 → raAll (chkE y) (ctA.get y) = true := fun y h1 h2 => (Nat.lt_or_ge y 47).elim (fun q => ckq46_47 y h1 q) (fun q => ckq47_48 y q h2)
theorem ckq44_48 : ∀ y, 44 ≤ y → y < 48 → raAll (chkE y) (ctA.get y) = true := fun y h1 h2 => (Nat.lt_or_ge y 46).elim (fun q => ckq44_46 y h1 q) (fun q => ckq46_48 y q h2)
theorem ckq48_49 : ∀ y, 48 ≤ y → y < 49 → raAll (chkE y) (ctA.get y) = true := fun y h1 h2 => by
  have e : y = 48 := by omega
  subst e
  exact ck48
theorem ckq49_50 : ∀ y, 49 ≤ y → y < 50 → raAll (chkE y) (ctA.get y) = true := fun y h1 h2 => by
  have e : y = 49 := by omega
  subst e
  exact ck49
theorem ckq48_50 : ∀ y, 48 ≤ y → y < 50 → raAll (chkE y) (ctA.get y) = true := fun y h1 h2 => (Nat.lt_or_ge y 49).elim (fun q => ckq48_49 y h1 q) (fun q => ckq49_50 y q h2)
theorem ckq50_51 : ∀ y, 50 ≤ y → y < 51 → raAll (chkE y) (ctA.get y) = true := fun y h1 h2 => by
  have e : y = 50 := by omega
  subst e
  exact ck50
theorem ckq51_52 : ∀ y, 51 ≤ y → y < 52 → raAll (chkE y) (ctA.get y) = true := fun y h1 h2 => by
  have e : y = 51 := by omega
  subst e
  exact ck51
theorem ckq52_53 : ∀ y, 52 ≤ y → y < 53 → raAll (chkE y) (ctA.get y) = true := fun y h1 h2 => by
  have e : y = 52 := by omega
  subst e
  exact ck52
theorem ckq51_53 : ∀ y, 51 ≤ y → y < 53 → raAll (chkE y) (ctA.get y) = true := fun y h1 h2 => (Nat.lt_or_ge y 52).elim (fun q => ckq51_52 y h1 q) (fun q => ckq52_53 y q h2)
theorem ckq50_53 : ∀ y, 50 ≤ y → y < 53 → raAll (chkE y) (ctA.get y) = true := fun y h1 h2 => (Nat.lt_or_ge y 51).elim (fun q => ckq50_51 y h1 q) (fun q => ckq51_53 y q h2)
theorem ckq48_53 : ∀ y, 48 ≤ y → y < 53 → raAll (chkE y) (ctA.get y) = true := fun y h1 h2 => (Nat.lt_or_ge y 50).elim (fun q => ckq48_50 y h1 q) (fun q => ckq50_53 y q h2)
theorem ckq44_53 : ∀ y, 44 ≤ y → y < 53 → raAll (chkE y) (ctA.get y) = true := fun y h1 h2 => (Nat.lt_or_ge y 48).elim (fun q => ckq44_48 y h1 q) (fun q => ckq48_53 y q h2)
theorem ckq35_53 : ∀ y, 35 ≤ y → y < 53 → raAll (chkE y) (ctA.get y) = true := fun y h1 h2 => (Nat.lt_or_ge y 44).elim (fun q => ckq35_44 y h1 q) (fun q => ckq44_53 y q h2)
theorem ckq53_54 : ∀ y, 53 ≤ y → y < 54 → raAll (chkE y) (ctA.get y) = true := fun y h1 h2 => by
  have e : y = 53 := by omega
  subst e
  exact ck53
theorem ckq54_55 : ∀ y, 54 ≤ y → y < 55 → raAll (chkE y) (ctA.get y) = true := fun y h1 h2 => by
  have e : y = 54 := by omega
  subst e
  exact ck54
theorem ckq53_55 : ∀ y, 53 ≤ y → y < 55 → raAll (chkE y) (ctA.get y) = true := fun y h1 h2 => (Nat.lt_or_ge y 54).elim (fun q => ckq53_54 y h1 q) (fun q => ckq54_55 y q h2)
theorem ckq55_56 : ∀ y, 55 ≤ y → y < 56 → raAll (chkE y) (ctA.get y) = true := fun y h1 h2 => by
  have e : y = 55 := by omega
  subst e
  exact ck55
theorem ckq56_57 : ∀ y, 56 ≤ y → y < 57 → raAll (chkE y) (ctA.get y) = true := fun y h1 h2 => by
  have e : y = 56 := by omega
  subst e
  exact ck56
theorem ckq55_57 : ∀ y, 55 ≤ y → y < 57 → raAll (chkE y) (ctA.get y) = true := fun y h1 h2 => (Nat.lt_or_ge y 56).elim (fun q => ckq55_56 y h1 q) (fun q => ckq56_57 y q h2)
theorem ckq53_57 : ∀ y, 53 ≤ y → y < 57 → raAll (chkE y) (ctA.get y) = true := fun y h1 h2 => (Nat.lt_or_ge y 55).elim (fun q => ckq53_55 y h1 q) (fun q => ckq55_57 y q h2)
theorem ckq57_58 : ∀ y, 57 ≤ y → y < 58 → raAll (chkE y) (ctA.get y) = true := fun y h1 h2 => by
  have e : y = 57 := by omega
  subst e
  exact ck57
theorem ckq58_59 : ∀ y, 58 ≤ y → y < 59 → raAll (chkE y) (ctA.get y) = true := fun y h1 h2 => by
  have e : y = 58 := by omega
  subst e
  exact ck58
theorem ckq57_59 : ∀ y, 57 ≤ y → y < 59 → raAll (chkE y) (ctA.get y) = true := fun y h1 h2 => (Nat.lt_or_ge y 58).elim (fun q => ckq57_58 y h1 q) (fun q => ckq58_59 y q h2)
theorem ckq59_60 : ∀ y, 59 ≤ y → y < 60 → raAll (chkE y) (ctA.get y) = true := fun y h1 h2 => by
  have e : y = 59 := by omega
  subst e
  exact ck59
theorem ckq60_61 : ∀ y, 60 ≤ y → y < 61 → raAll (chkE y) (ctA.get y) = true := fun y h1 h2 => by
  have e : y = 60 := by omega
  subst e
  exact ck60
theorem ckq61_62 : ∀ y, 61 ≤ y → y < 62 → raAll (chkE y) (ctA.get y) = true := fun y h1 h2 => by
  have e : y = 61 := by omega
  subst e
  exact ck61
theorem ckq60_62 : ∀ y, 60 ≤ y → y < 62 → raAll (chkE y) (ctA.get y) = true := fun y h1 h2 => (Nat.lt_or_ge y 61).elim (fun q => ckq60_61 y h1 q) (fun q => ckq61_62 y q h2)
theorem ckq59_62 : ∀ y, 59 ≤ y → y < 62 → raAll (chkE y) (ctA.get y) = true := fun y h1 h2 => (Nat.lt_or_ge y 60).elim (fun q => ckq59_60 y h1 q) (fun q => ckq60_62 y q h2)
theorem ckq57_62 : ∀ y, 57 ≤ y → y < 62 → raAll (chkE y) (ctA.get y) = true := fun y h1 h2 => (Nat.lt_or_ge y 59).elim (fun q => ckq57_59 y h1 q) (fun q => ckq59_62 y q h2)
theorem ckq53_62 : ∀ y, 53 ≤ y → y < 62 → raAll (chkE y) (ctA.get y) = true := fun y h1 h2 => (Nat.lt_or_ge y 57).elim (fun q => ckq53_57 y h1 q) (fun q => ckq57_62 y q h2)
theorem ckq62_63 : ∀ y, 62 ≤ y → y < 63 → raAll (chkE y) (ctA.get y) = true := fun y h1 h2 => by
  have e : y = 62 := by omega
  subst e
  exact ck62
theorem ckq63_64 : ∀ y, 63 ≤ y → y < 64 → raAll (chkE y) (ctA.get y) = true := fun y h1 h2 => by
  have e : y = 63 := by omega
  subst e
  exact ck63
theorem ckq62_64 : ∀ y, 62 ≤ y → y < 64 → raAll (chkE y) (ctA.get y) = true := fun y h1 h2 => (Nat.lt_or_ge y 63).elim (fun q => ckq62_63 y h1 q) (fun q => ckq63_64 y q h2)
theorem ckq64_65 : ∀ y, 64 ≤ y → y < 65 → raAll (chkE y) (ctA.get y) = true := fun y h1 h2 => by
  have e : y = 64 := by omega
  subst e
  exact ck64
theorem ckq65_66 : ∀ y, 65 ≤ y → y < 66 → raAll (chkE y) (ctA.get y) = true := fun y h1 h2 => by
  have e : y = 65 := by omega
  subst e
  exact ck65
theorem ckq64_66 : ∀ y, 64 ≤ y → y < 66 → raAll (chkE y) (ctA.get y) = true := fun y h1 h2 => (Nat.lt_or_ge y 65).elim (fun q => ckq64_65 y h1 q) (fun q => ckq65_66 y q h2)
theorem ckq62_66 : ∀ y, 62 ≤ y → y < 66 → raAll (chkE y) (ctA.get y) = true := fun y h1 h2 => (Nat.lt_or_ge y 64).elim (fun q => ckq62_64 y h1 q) (fun q => ckq64_66 y q h2)
theorem ckq66_67 : ∀ y, 66 ≤ y → y < 67 → raAll (chkE y) (ctA.get y) = true := fun y h1 h2 => by
  have e : y = 66 := by omega
  subst e
  exact ck66
theorem ckq67_68 : ∀ y, 67 ≤ y → y < 68 → raAll (chkE y) (ctA.get y) = true := fun y h1 h2 => by
  have e : y = 67 := by omega
  subst e
  exact ck67
theorem ckq66_68 : ∀ y, 66 ≤ y → y < 68 → raAll (chkE y) (ctA.get y) = true := fun y h1 h2 => (Nat.lt_or_ge y 67).elim (fun q => ckq66_67 y h1 q) (fun q => ckq67_68 y q h2)
theorem ckq68_69 : ∀ y, 68 ≤ y → y < 69 → raAll (chkE y) (ctA.get y) = true := fun y h1 h2 => by
  have e : y = 68 := by omega
  subst e
  exact ck68
theorem ckq69_70 : ∀ y, 69 ≤ y → y < 70 → raAll (chkE y) (ctA.get y) = true := fun y h1 h2 => by
  have e : y = 69 := by omega
  subst e
  exact ck69
theorem ckq70_71 : ∀ y, 70 ≤ y → y < 71 → raAll (chkE y) (ctA.get y) = true := fun y h1 h2 => by
  have e : y = 70 := by omega
  subst e
  exact ck70
theorem ckq69_71 : ∀ y, 69 ≤ y → y < 71 → raAll (chkE y) (ctA.get y) = true := fun y h1 h2 => (Nat.lt_or_ge y 70).elim (fun q => ckq69_70 y h1 q) (fun q => ckq70_71 y q h2)
theorem ckq68_71 : ∀ y, 68 ≤ y → y < 71 → raAll (chkE y) (ctA.get y) = true := fun y h1 h2 => (Nat.lt_or_ge y 69).elim (fun q => ckq68_69 y h1 q) (fun q => ckq69_71 y q h2)
theorem ckq66_71 : ∀ y, 66 ≤ y → y < 71 → raAll (chkE y) (ctA.get y) = true := fun y h1 h2 => (Nat.lt_or_ge y 68).elim (fun q => ckq66_68 y h1 q) (fun q => ckq68_71 y q h2)
theorem ckq62_71 : ∀ y, 62 ≤ y → y < 71 → raAll (chkE y) (ctA.get y) = true := fun y h1 h2 => (Nat.lt_or_ge y 66).elim (fun q => ckq62_66 y h1 q) (fun q => ckq66_71 y q h2)
theorem ckq53_71 : ∀ y, 53 ≤ y → y < 71 → raAll (chkE y) (ctA.get y) = true := fun y h1 h2 => (Nat.lt_or_ge y 62).elim (fun q => ckq53_62 y h1 q) (fun q => ckq62_71 y q h2)
theorem ckq35_71 : ∀ y, 35 ≤ y → y < 71 → raAll (chkE y) (ctA.get y) = true := fun y h1 h2 => (Nat.lt_or_ge y 53).elim (fun q => ckq35_53 y h1 q) (fun q => ckq53_71 y q h2)
theorem ckq0_71 : ∀ y, 0 ≤ y → y < 71 → raAll (chkE y) (ctA.get y) = true := fun y h1 h2 => (Nat.lt_or_ge y 35).elim (fun q => ckq0_35 y h1 q) (fun q => ckq35_71 y q h2)
theorem ckq71_72 : ∀ y, 71 ≤ y → y < 72 → raAll (chkE y) (ctA.get y) = true := fun y h1 h2 => by
  have e : y = 71 := by omega
  subst e
  exact ck71
theorem ckq72_73 : ∀ y, 72 ≤ y → y < 73 → raAll (chkE y) (ctA.get y) = true := fun y h1 h2 => by
  have e : y = 72 := by omega
  subst e
  exact ck72
theorem ckq71_73 : ∀ y, 71 ≤ y → y < 73 → raAll (chkE y) (ctA.get y) = true := fun y h1 h2 => (Nat.lt_or_ge y 72).elim (fun q => ckq71_72 y h1 q) (fun q => ckq72_73 y q h2)
theorem ckq73_74 : ∀ y, 73 ≤ y → y < 74 → raAll (chkE y) (ctA.get y) = true := fun y h1 h2 => by
  have e : y = 73 := by omega
  subst e
  exact ck73
theorem ckq74_75 : ∀ y, 74 ≤ y → y < 75 → raAll (chkE y) (ctA.get y) = true := fun y h1 h2 => by
  have e : y = 74 := by omega
  subst e
  exact ck74
theorem ckq73_75 : ∀ y, 73 ≤ y → y < 75 → raAll (chkE y) (ctA.get y) = true := fun y h1 h2 => (Nat.lt_or_ge y 74).elim (fun q => ckq73_74 y h1 q) (fun q => ckq74_75 y q h2)
theorem ckq71_75 : ∀ y, 71 ≤ y → y < 75 → raAll (chkE y) (ctA.get y) = true := fun y h1 h2 => (Nat.lt_or_ge y 73).elim (fun q => ckq71_73 y h1 q) (fun q => ckq73_75 y q h2)
theorem ckq75_76 : ∀ y, 75 ≤ y → y < 76 → raAll (chkE y) (ctA.get y) = true := fun y h1 h2 => by
  have e : y = 75 := by omega
  subst e
  exact ck75
theorem ckq76_77 : ∀ y, 76 ≤ y → y < 77 → raAll (chkE y) (ctA.get y) = true := fun y h1 h2 => by
  have e : y = 76 := by omega
  subst e
  exact ck76
theorem ckq75_77 : ∀ y, 75 ≤ y → y < 77 → raAll (chkE y) (ctA.get y) = true := fun y h1 h2 => (Nat.lt_or_ge y 76).elim (fun q => ckq75_76 y h1 q) (fun q => ckq76_77 y q h2)
theorem ckq77_78 : ∀ y, 77 ≤ y → y < 78 → raAll (chkE y) (ctA.get y) = true := fun y h1 h2 => by
  have e : y = 77 := by omega
  subst e
  exact ck77
theorem ckq78_79 : ∀ y, 78 ≤ y → y < 79 → raAll (chkE y) (ctA.get y) = true := fun y h1 h2 => by
  have e : y = 78 := by omega
  subst e
  exact ck78
theorem ckq79_80 : ∀ y, 79 ≤ y → y < 80 → raAll (chkE y) (ctA.get y) = true := fun y h1 h2 => by
  have e : y = 79 := by omega
  subst e
  exact ck79
theorem ckq78_80 : ∀ y, 78 ≤ y → y < 80 → raAll (chkE y) (ctA.get y) = true := fun y h1 h2 => (Nat.lt_or_ge y 79).elim (fun q => ckq78_79 y h1 q) (fun q => ckq79_80 y q h2)
theorem ckq77_80 : ∀ y, 77 ≤ y → y < 80 → raAll (chkE y) (ctA.get y) = true := fun y h1 h2 => (Nat.lt_or_ge y 78).elim (fun q => ckq77_78 y h1 q) (fun q => ckq78_80 y q h2)
theorem ckq75_80 : ∀ y, 75 ≤ y → y < 80 → raAll (chkE y) (ctA.get y) = true := fun y h1 h2 => (Nat.lt_or_ge y 77).elim (fun q => ckq75_77 y h1 q) (fun q => ckq77_80 y q h2)
theorem ckq71_80 : ∀ y, 71 ≤ y → y < 80 → raAll (chkE y) (ctA.get y) = true := fun y h1 h2 => (Nat.lt_or_ge y 75).elim (fun q => ckq71_75 y h1 q) (fun q => ckq75_80 y q h2)
theorem ckq80_81 : ∀ y, 80 ≤ y → y < 81 → raAll (chkE y) (ctA.get y) = true := fun y h1 h2 => by
  have e : y = 80 := by omega
  subst e
  exact ck80
theorem ckq81_82 : ∀ y, 81 ≤ y → y < 82 → raAll (chkE y) (ctA.get y) = true := fun y h1 h2 => by
  have e : y = 81 := by omega
  subst e
  exact ck81
theorem ckq80_82 : ∀ y, 80 ≤ y → y < 82 → raAll (chkE y) (ctA.get y) = true := fun y h1 h2 => (Nat.lt_or_ge y 81).elim (fun q => ckq80_81 y h1 q) (fun q => ckq81_82 y q h2)
theorem ckq82_83 : ∀ y, 82 ≤ y → y < 83 → raAll (chkE y) (ctA.get y) = true := fun y h1 h2 => by
  have e : y = 82 := by omega
  subst e
  exact ck82
theorem ckq83_84 : ∀ y, 83 ≤ y → y < 84 → raAll (chkE y) (ctA.get y) = true := fun y h1 h2 => by
  have e : y = 83 := by omega
  subst e
  exact ck83
theorem ckq82_84 : ∀ y, 82 ≤ y → y < 84 → raAll (chkE y) (ctA.get y) = true := fun y h1 h2 => (Nat.lt_or_ge y 83).elim (fun q => ckq82_83 y h1 q) (fun q => ckq83_84 y q h2)
theorem ckq80_84 : ∀ y, 80 ≤ y → y < 84 → raAll (chkE y) (ctA.get y) = true := fun y h1 h2 => (Nat.lt_or_ge y 82).elim (fun q => ckq80_82 y h1 q) (fun q => ckq82_84 y q h2)
theorem ckq84_85 : ∀ y, 84 ≤ y → y < 85 → raAll (chkE y) (ctA.get y) = true := fun y h1 h2 => by
  have e : y = 84 := by omega
  subst e
  exact ck84
theorem ckq85_86 : ∀ y, 85 ≤ y → y < 86 → raAll (chkE y) (ctA.get y) = true := fun y h1 h2 => by
  have e : y = 85 := by omega
  subst e
  exact ck85
theorem ckq84_86 : ∀ y, 84 ≤ y → y < 86 → raAll (chkE y) (ctA.get y) = true := fun y h1 h2 => (Nat.lt_or_ge y 85).elim (fun q => ckq84_85 y h1 q) (fun q => ckq85_86 y q h2)
theorem ckq86_87 : ∀ y, 86 ≤ y → y < 87 → raAll (chkE y) (ctA.get y) = true := fun y h1 h2 => by
  have e : y = 86 := by omega
  subst e
  exact ck86
theorem ckq87_88 : ∀ y, 87 ≤ y → y < 88 → raAll (chkE y) (ctA.get y) = true := fun y h1 h2 => by
  have e : y = 87 := by omega
  subst e
  exact ck87
theorem ckq88_89 : ∀ y, 88 ≤ y → y < 89 → raAll (chkE y) (ctA.get y) = true := fun y h1 h2 => by
  have e : y = 88 := by omega
  subst e
  exact ck88
theorem ckq87_89 : ∀ y, 87 ≤ y → y < 89 → raAll (chkE y) (ctA.get y) = true := fun y h1 h2 => (Nat.lt_or_ge y 88).elim (fun q => ckq87_88 y h1 q) (fun q => ckq88_89 y q h2)
theorem ckq86_89 : ∀ y, 86 ≤ y → y < 89 → raAll (chkE y) (ctA.get y) = true := fun y h1 h2 => (Nat.lt_or_ge y 87).elim (fun q => ckq86_87 y h1 q) (fun q => ckq87_89 y q h2)
theorem ckq84_89 : ∀ y, 84 ≤ y → y < 89 → raAll (chkE y) (ctA.get y) = true := fun y h1 h2 => (Nat.lt_or_ge y 86).elim (fun q => ckq84_86 y h1 q) (fun q => ckq86_89 y q h2)
theorem ckq80_89 : ∀ y, 80 ≤ y → y < 89 → raAll (chkE y) (ctA.get y) = true := fun y h1 h2 => (Nat.lt_or_ge y 84).elim (fun q => ckq80_84 y h1 q) (fun q => ckq84_89 y q h2)
theorem ckq71_89 : ∀ y, 71 ≤ y → y < 89 → raAll (chkE y) (ctA.get y) = true := fun y h1 h2 => (Nat.lt_or_ge y 80).elim (fun q => ckq71_80 y h1 q) (fun q => ckq80_89 y q h2)
theorem ckq89_90 : ∀ y, 89 ≤ y → y < 90 → raAll (chkE y) (ctA.get y) = true := fun y h1 h2 => by
  have e : y = 89 := by omega
  subst e
  exact ck89
theorem ckq90_91 : ∀ y, 90 ≤ y → y < 91 → raAll (chkE y) (ctA.get y) = true := fun y h1 h2 => by
  have e : y = 90 := by omega
  subst e
  exact ck90
theorem ckq89_91 : ∀ y, 89 ≤ y → y < 91 → raAll (chkE y) (ctA.get y) = true := fun y h1 h2 => (Nat.lt_or_ge y 90).elim (fun q => ckq89_90 y h1 q) (fun q => ckq90_91 y q h2)
theorem ckq91_92 : ∀ y, 91 ≤ y → y < 92 → raAll (chkE y) (ctA.get y) = true := fun y h1 h2 => by
  have e : y = 91 := by omega
  subst e
  exact ck91
theorem ckq92_93 : ∀ y, 92 ≤ y → y < 93 → raAll (chkE y) (ctA.get y) = true := fun y h1 h2 => by
  have e : y = 92 := by omega
  subst e
  exact ck92
theorem ckq91_93 : ∀ y, 91 ≤ y → y < 93 → raAll (chkE y) (ctA.get y) = true := fun y h1 h2 => (Nat.lt_or_ge y 92).elim (fun q => ckq91_92 y h1 q) (fun q => ckq92_93 y q h2)
theorem ckq89_93 : ∀ y, 89 ≤ y → y < 93 → raAll (chkE y) (ctA.get y) = true := fun y h1 h2 => (Nat.lt_or_ge y 91).elim (fun q => ckq89_91 y h1 q) (fun q => ckq91_93 y q h2)
theorem ckq93_94 : ∀ y, 93 ≤ y → y < 94 → raAll (chkE y) (ctA.get y) = true := fun y h1 h2 => by
  have e : y = 93 := by omega
  subst e
  exact ck93
theorem ckq94_95 : ∀ y, 94 ≤ y → y < 95 → raAll (chkE y) (ctA.get y) = true := fun y h1 h2 => by
  have e : y = 94 := by omega
  subst e
  exact ck94
theorem ckq93_95 : ∀ y, 93 ≤ y → y < 95 → raAll (chkE y) (ctA.get y) = true := fun y h1 h2 => (Nat.lt_or_ge y 94).elim (fun q => ckq93_94 y h1 q) (fun q => ckq94_95 y q h2)
theorem ckq95_96 : ∀ y, 95 ≤ y → y < 96 → raAll (chkE y) (ctA.get y) = true := fun y h1 h2 => by
  have e : y = 95 := by omega
  subst e
  exact ck95
theorem ckq96_97 : ∀ y, 96 ≤ y → y < 97 → raAll (chkE y) (ctA.get y) = true := fun y h1 h2 => by
  have e : y = 96 := by omega
  subst e
  exact ck96
theorem ckq97_98 : ∀ y, 97 ≤ y → y < 98 → raAll (chkE y) (ctA.get y) = true := fun y h1 h2 => by
  have e : y = 97 := by omega
  subst e
  exact ck97
theorem ckq96_98 : ∀ y, 96 ≤ y → y < 98 → raAll (chkE y) (ctA.get y) = true := fun y h1 h2 => (Nat.lt_or_ge y 97).elim (fun q => ckq96_97 y h1 q) (fun q => ckq97_98 y q h2)
theorem ckq95_98 : ∀ y, 95 ≤ y → y < 98 → raAll (chkE y) (ctA.get y) = true := fun y h1 h2 => (Nat.lt_or_ge y 96).elim (fun q => ckq95_96 y h1 q) (fun q => ckq96_98 y q h2)
theorem ckq93_98 : ∀ y, 93 ≤ y → y < 98 → raAll (chkE y) (ctA.get y) = true := fun y h1 h2 => (Nat.lt_or_ge y 95).elim (fun q => ckq93_95 y h1 q) (fun q => ckq95_98 y q h2)
theorem ckq89_98 : ∀ y, 89 ≤ y → y < 98 → raAll (chkE y) (ctA.get y) = true := fun y h1 h2 => (Nat.lt_or_ge y 93).elim (fun q => ckq89_93 y h1 q) (fun q => ckq93_98 y q h2)
theorem ckq98_99 : ∀ y, 98 ≤ y → y < 99 → raAll (chkE y) (ctA.get y) = true := fun y h1 h2 => by
  have e : y = 98 := by omega
  subst e
  exact ck98
theorem ckq99_100 : ∀ y, 99 ≤ y → y < 100 → raAll (chkE y) (ctA.get y) = true := fun y h1 h2 => by
  have e : y = 99 := by omega
  subst e
  exact ck99
theorem ckq98_100 : ∀ y, 98 ≤ y → y < 100 → raAll (chkE y) (ctA.get y) = true := fun y h1 h2 => (Nat.lt_or_ge y 99).elim (fun q => ckq98_99 y h1 q) (fun q => ckq99_100 y q h2)
theorem ckq100_101 : ∀ y, 100 ≤ y → y < 101 → raAll (chkE y) (ctA.get y) = true := fun y h1 h2 => by
  have e : y = 100 := by omega
  subst e
  exact ck100
theorem ckq101_102 : ∀ y, 101 ≤ y → y < 102 → raAll (chkE y) (ctA.get y) = true := fun y h1 h2 => by
  have e : y = 101 := by omega
  subst e
  exact ck101
theorem ckq100_102 : ∀ y, 100 ≤ y → y < 102 → raAll (chkE y) (ctA.get y) = true := fun y h1 h2 => (Nat.lt_or_ge y 101).elim (fun q => ckq100_101 y h1 q) (fun q => ckq101_102 y q h2)
theorem ckq98_102 : ∀ y, 98 ≤ y → y < 102 → raAll (chkE y) (ctA.get y) = true := fun y h1 h2 => (Nat.lt_or_ge y 100).elim (fun q => ckq98_100 y h1 q) (fun q => ckq100_102 y q h2)
theorem ckq102_103 : ∀ y, 102 ≤ y → y < 103 → raAll (chkE y) (ctA.get y) = true := fun y h1 h2 => by
  have e : y = 102 := by omega
  subst e
  exact ck102
theorem ckq103_104 : ∀ y, 103 ≤ y → y < 104 → raAll (chkE y) (ctA.get y) = true := fun y h1 h2 => by
  have e : y = 103 := by omega
  subst e
  exact ck103
theorem ckq102_104 : ∀ y, 102 ≤ y → y < 104 → raAll (chkE y) (ctA.get y) = true := fun y h1 h2 => (Nat.lt_or_ge y 103).elim (fun q => ckq102_103 y h1 q) (fun q => ckq103_104 y q h2)
theorem ckq104_105 : ∀ y, 104 ≤ y → y < 105 → raAll (chkE y) (ctA.get y) = true := fun y h1 h2 => by
  have e : y = 104 := by omega
  subst e
  exact ck104
theorem ckq105_106 : ∀ y, 105 ≤ y → y < 106 → raAll (chkE y) (ctA.get y) = true := fun y h1 h2 => by
  have e : y = 105 := by omega
  subst e
  exact ck105
theorem ckq106_107 : ∀ y, 106 ≤ y → y < 107 → raAll (chkE y) (ctA.get y) = true := fun y h1 h2 => by
  have e : y = 106 := by omega
  subst e
  exact ck106
theorem ckq105_107 : ∀ y, 105 ≤ y → y < 107 → raAll (chkE y) (ctA.get y) = true := fun y h1 h2 => (Nat.lt_or_ge y 106).elim (fun q => ckq105_106 y h1 q) (fun q => ckq106_107 y q h2)
theorem ckq104_107 : ∀ y, 104 ≤ y → y < 107 → raAll (chkE y) (ctA.get y) = true := fun y h1 h2 => (Nat.lt_or_ge y 105).elim (fun q => ckq104_105 y h1 q) (fun q => ckq105_107 y q h2)
theorem ckq102_107 : ∀ y, 102 ≤ y → y < 107 → raAll (chkE y) (ctA.get y) = true := fun y h1 h2 => (Nat.lt_or_ge y 104).elim (fun q => ckq102_104 y h1 q) (fun q => ckq104_107 y q h2)
theorem ckq98_107 : ∀ y, 98 ≤ y → y < 107 → raAll (chkE y) (ctA.get y) = true := fun y h1 h2 => (Nat.lt_or_ge y 102).elim (fun q => ckq98_102 y h1 q) (fun q => ckq102_107 y q h2)
theorem ckq89_107 : ∀ y, 89 ≤ y → y < 107 → raAll (chkE y) (ctA.get y) = true := fun y h1 h2 => (Nat.lt_or_ge y 98).elim (fun q => ckq89_98 y h1 q) (fun q => ckq98_107 y q h2)
theorem ckq71_107 : ∀ y, 71 ≤ y → y < 107 → raAll (chkE y) (ctA.get y) = true := fun y h1 h2 => (Nat.lt_or_ge y 89).elim (fun q => ckq71_89 y h1 q) (fun q => ckq89_107 y q h2)
theorem ckq107_108 : ∀ y, 107 ≤ y → y < 108 → raAll (chkE y) (ctA.get y) = true := fun y h1 h2 => by
  have e : y = 107 := by omega
  subst e
  exact ck107
theorem ckq108_109 : ∀ y, 108 ≤ y → y < 109 → raAll (chkE y) (ctA.get y) = true := fun y h1 h2 => by
  have e : y = 108 := by omega
  subst e
  exact ck108
theorem ckq107_109 : ∀ y, 107 ≤ y → y < 109 → raAll (chkE y) (ctA.get y) = true := fun y h1 h2 => (Nat.lt_or_ge y 108).elim (fun q => ckq107_108 y h1 q) (fun q => ckq108_109 y q h2)
theorem ckq109_110 : ∀ y, 109 ≤ y → y < 110 → raAll (chkE y) (ctA.get y) = true := fun y h1 h2 => by
  have e : y = 109 := by omega
  subst e
  exact ck109
theorem ckq110_111 : ∀ y, 110 ≤ y → y < 111 → raAll (chkE y) (ctA.get y) = true := fun y h1 h2 => by
  have e : y = 110 := by omega
  subst e
  exact ck110
theorem ckq109_111 : ∀ y, 109 ≤ y → y < 111 → raAll (chkE y) (ctA.get y) = true := fun y h1 h2 => (Nat.lt_or_ge y 110).elim (fun q => ckq109_110 y h1 q) (fun q => ckq110_111 y q h2)
theorem ckq107_111 : ∀ y, 107 ≤ y → y < 111 → raAll (chkE y) (ctA.get y) = true := fun y h1 h2 => (Nat.lt_or_ge y 109).elim (fun q => ckq107_109 y h1 q) (fun q => ckq109_111 y q h2)
theorem ckq111_112 : ∀ y, 111 ≤ y → y < 112 → raAll (chkE y) (ctA.get y) = true := fun y h1 h2 => by
  have e : y = 111 := by omega
  subst e
  exact ck111
theorem ckq112_113 : ∀ y, 112 ≤ y → y < 113 → raAll (chkE y) (ctA.get y) = true := fun y h1 h2 => by
  have e : y = 112 := by omega
  subst e
  exact ck112
theorem ckq111_113 : ∀ y, 111 ≤ y → y < 113 → raAll (chkE y) (ctA.get y) = true := fun y h1 h2 => (Nat.lt_or_ge y 112).elim (fun q => ckq111_112 y h1 q) (fun q => ckq112_113 y q h2)
theorem ckq113_114 : ∀ y, 113 ≤ y → y < 114 → raAll (chkE y) (ctA.get y) = true := fun y h1 h2 => by
  have e : y = 113 := by omega
  subst e
  exact ck113
theorem ckq114_115 : ∀ y, 114 ≤ y → y < 115 → raAll (chkE y) (ctA.get y) = true := fun y h1 h2 => by
  have e : y = 114 := by omega
  subst e
  exact ck114
theorem ckq115_116 : ∀ y, 115 ≤ y → y < 116 → raAll (chkE y) (ctA.get y) = true := fun y h1 h2 => by
  have e : y = 115 := by omega
  subst e
  exact ck115
theorem ckq114_116 : ∀ y, 114 ≤ y → y < 116 → raAll (chkE y) (ctA.get y) = true := fun y h1 h2 => (Nat.lt_or_ge y 115).elim (fun q => ckq114_115 y h1 q) (fun q => ckq115_116 y q h2)
theorem ckq113_116 : ∀ y, 113 ≤ y → y < 116 → raAll (chkE y) (ctA.get y) = true := fun y h1 h2 => (Nat.lt_or_ge y 114).elim (fun q => ckq113_114 y h1 q) (fun q => ckq114_116 y q h2)
theorem ckq111_116 : ∀ y, 111 ≤ y → y < 116 → raAll (chkE y) (ctA.get y) = true := fun y h1 h2 => (Nat.lt_or_ge y 113).elim (fun q => ckq111_113 y h1 q) (fun q => ckq113_116 y q h2)
theorem ckq107_116 : ∀ y, 107 ≤ y → y < 116 → raAll (chkE y) (ctA.get y) = true := fun y h1 h2 => (Nat.lt_or_ge y 111).elim (fun q => ckq107_111 y h1 q) (fun q => ckq111_116 y q h2)
theorem ckq116_117 : ∀ y, 116 ≤ y → y < 117 → raAll (chkE y) (ctA.get y) = true := fun y h1 h2 => by
  have e : y = 116 := by omega
  subst e
  exact ck116
theorem ckq117_118 : ∀ y, 117 ≤ y → y < 118 → raAll (chkE y) (ctA.get y) = true := fun y h1 h2 => by
  have e : y = 117 := by omega
  subst e
  exact ck117
theorem ckq116_118 : ∀ y, 116 ≤ y → y < 118 → raAll (chkE y) (ctA.get y) = true := fun y h1 h2 => (Nat.lt_or_ge y 117).elim (fun q => ckq116_117 y h1 q) (fun q => ckq117_118 y q h2)
theorem ckq118_119 : ∀ y, 118 ≤ y → y < 119 → raAll (chkE y) (ctA.get y) = true := fun y h1 h2 => by
  have e : y = 118 := by omega
  subst e
  exact ck118
theorem ckq119_120 : ∀ y, 119 ≤ y → y < 120 → raAll (chkE y) (ctA.get y) = true := fun y h1 h2 => by
  have e : y = 119 := by omega
  subst e
  exact ck119
theorem ckq118_120 : ∀ y, 118 ≤ y → y < 120 → raAll (chkE y) (ctA.get y) = true := fun y h1 h2 => (Nat.lt_or_ge y 119).elim (fun q => ckq118_119 y h1 q) (fun q => ckq119_120 y q h2)
theorem ckq116_120 : ∀ y, 116 ≤ y → y < 120 → raAll (chkE y) (ctA.get y) = true := fun y h1 h2 => (Nat.lt_or_ge y 118).elim (fun q => ckq116_118 y h1 q) (fun q => ckq118_120 y q h2)
theorem ckq120_121 : ∀ y, 120 ≤ y → y < 121 → raAll (chkE y) (ctA.get y) = true := fun y h1 h2 => by
  have e : y = 120 := by omega
  subst e
  exact ck120
theorem ckq121_122 : ∀ y, 121 ≤ y → y < 122 → raAll (chkE y) (ctA.get y) = true := fun y h1 h2 => by
  have e : y = 121 := by omega
  subst e
  exact ck121
theorem ckq120_122 : ∀ y, 120 ≤ y → y < 122 → raAll (chkE y) (ctA.get y) = true := fun y h1 h2 => (Nat.lt_or_ge y 121).elim (fun q => ckq120_121 y h1 q) (fun q => ckq121_122 y q h2)
theorem ckq122_123 : ∀ y, 122 ≤ y → y < 123 → raAll (chkE y) (ctA.get y) = true := fun y h1 h2 => by
  have e : y = 122 := by omega
  subst e
  exact ck122
theorem ckq123_124 : ∀ y, 123 ≤ y → y < 124 → raAll (chkE y) (ctA.get y) = true := fun y h1 h2 => by
  have e : y = 123 := by omega
  subst e
  exact ck123
theorem ckq124_125 : ∀ y, 124 ≤ y → y < 125 → raAll (chkE y) (ctA.get y) = true := fun y h1 h2 => by
  have e : y = 124 := by omega
  subst e
  exact ck124
theorem ckq123_125 : ∀ y, 123 ≤ y → y < 125 → raAll (chkE y) (ctA.get y) = true := fun y h1 h2 => (Nat.lt_or_ge y 124).elim (fun q => ckq123_124 y h1 q) (fun q => ckq124_125 y q h2)
theorem ckq122_125 : ∀ y, 122 ≤ y → y < 125 → raAll (chkE y) (ctA.get y) = true := fun y h1 h2 => (Nat.lt_or_ge y 123).elim (fun q => ckq122_123 y h1 q) (fun q => ckq123_125 y q h2)
theorem ckq120_125 : ∀ y, 120 ≤ y → y < 125 → raAll (chkE y) (ctA.get y) = true := fun y h1 h2 => (Nat.lt_or_ge y 122).elim (fun q => ckq120_122 y h1 q) (fun q => ckq122_125 y q h2)
theorem ckq116_125 : ∀ y, 116 ≤ y → y < 125 → raAll (chkE y) (ctA.get y) = true := fun y h1 h2 => (Nat.lt_or_ge y 120).elim (fun q => ckq116_120 y h1 q) (fun q => ckq120_125 y q h2)
theorem ckq107_125 : ∀ y, 107 ≤ y → y < 125 → raAll (chkE y) (ctA.get y) = true := fun y h1 h2 => (Nat.lt_or_ge y 116).elim (fun q => ckq107_116 y h1 q) (fun q => ckq116_125 y q h2)
theorem ckq125_126 : ∀ y, 125 ≤ y → y < 126 → raAll (chkE y) (ctA.get y) = true := fun y h1 h2 => by
  have e : y = 125 := by omega
  subst e
  exact ck125
theorem ckq126_127 : ∀ y, 126 ≤ y → y < 127 → raAll (chkE y) (ctA.get y) = true := fun y h1 h2 => by
  have e : y = 126 := by omega
  subst e
  exact ck126
theorem ckq125_127 : ∀ y, 125 ≤ y → y < 127 → raAll (chkE y) (ctA.get y) = true := fun y h1 h2 => (Nat.lt_or_ge y 126).elim (fun q => ckq125_126 y h1 q) (fun q => ckq126_127 y q h2)
theorem ckq127_128 : ∀ y, 127 ≤ y → y < 128 → raAll (chkE y) (ctA.get y) = true := fun y h1 h2 => by
  have e : y = 127 := by omega
  subst e
  exact ck127
theorem ckq128_129 : ∀ y, 128 ≤ y → y < 129 → raAll (chkE y) (ctA.get y) = true := fun y h1 h2 => by
  have e : y = 128 := by omega
  subst e
  exact ck128
theorem ckq127_129 : ∀ y, 127 ≤ y → y < 129 → raAll (chkE y) (ctA.get y) = true := fun y h1 h2 => (Nat.lt_or_ge y 128).elim (fun q => ckq127_128 y h1 q) (fun q => ckq128_129 y q h2)
theorem ckq125_129 : ∀ y, 125 ≤ y → y < 129 → raAll (chkE y) (ctA.get y) = true := fun y h1 h2 => (Nat.lt_or_ge y 127).elim (fun q => ckq125_127 y h1 q) (fun q => ckq127_129 y q h2)
theorem ckq129_130 : ∀ y, 129 ≤ y → y < 130 → raAll (chkE y) (ctA.get y) = true := fun y h1 h2 => by
  have e : y = 129 := by omega
  subst e
  exact ck129
theorem ckq130_131 : ∀ y, 130 ≤ y → y < 131 → raAll (chkE y) (ctA.get y) = true := fun y h1 h2 => by
  have e : y = 130 := by omega
  subst e
  exact ck130
theorem ckq129_131 : ∀ y, 129 ≤ y → y < 131 → raAll (chkE y) (ctA.get y) = true := fun y h1 h2 => (Nat.lt_or_ge y 130).elim (fun q => ckq129_130 y h1 q) (fun q => ckq130_131 y q h2)
theorem ckq131_132 : ∀ y, 131 ≤ y → y < 132 → raAll (chkE y) (ctA.get y) = true := fun y h1 h2 => by
  have e : y = 131 := by omega
  subst e
  exact ck131
theorem ckq132_133 : ∀ y, 132 ≤ y → y < 133 → raAll (chkE y) (ctA.get y) = true := fun y h1 h2 => by
  have e : y = 132 := by omega
  subst e
  exact ck132
theorem ckq133_134 : ∀ y, 133 ≤ y → y < 134 → raAll (chkE y) (ctA.get y) = true := fun y h1 h2 => by
  have e : y = 133 := by omega
  subst e
  exact ck133
theorem ckq132_134 : ∀ y, 132 ≤ y → y < 134 → raAll (chkE y) (ctA.get y) = true := fun y h1 h2 => (Nat.lt_or_ge y 133).elim (fun q => ckq132_133 y h1 q) (fun q => ckq133_134 y q h2)
theorem ckq131_134 : ∀ y, 131 ≤ y → y < 134 → raAll (chkE y) (ctA.get y) = true := fun y h1 h2 => (Nat.lt_or_ge y 132).elim (fun q => ckq131_132 y h1 q) (fun q => ckq132_134 y q h2)
theorem ckq129_134 : ∀ y, 129 ≤ y → y < 134 → raAll (chkE y) (ctA.get y) = true := fun y h1 h2 => (Nat.lt_or_ge y 131).elim (fun q => ckq129_131 y h1 q) (fun q => ckq131_134 y q h2)
theorem ckq125_134 : ∀ y, 125 ≤ y → y < 134 → raAll (chkE y) (ctA.get y) = true := fun y h1 h2 => (Nat.lt_or_ge y 129).elim (fun q => ckq125_129 y h1 q) (fun q => ckq129_134 y q h2)
theorem ckq134_135 : ∀ y, 134 ≤ y → y < 135 → raAll (chkE y) (ctA.get y) = true := fun y h1 h2 => by
  have e : y = 134 := by omega
  subst e
  exact ck134
theorem ckq135_136 : ∀ y, 135 ≤ y → y < 136 → raAll (chkE y) (ctA.get y) = true := fun y h1 h2 => by
  have e : y = 135 := by omega
  subst e
  exact ck135
theorem ckq134_136 : ∀ y, 134 ≤ y → y < 136 → raAll (chkE y) (ctA.get y) = true := fun y h1 h2 => (Nat.lt_or_ge y 135).elim (fun q => ckq134_135 y h1 q) (fun q => ckq135_136 y q h2)
theorem ckq136_137 : ∀ y, 136 ≤ y → y < 137 → raAll (chkE y) (ctA.get y) = true := fun y h1 h2 => by
  have e : y = 136 := by omega
  subst e
  exact ck136
theorem ckq137_138 : ∀ y, 137 ≤ y → y < 138 → raAll (chkE y) (ctA.get y) = true := fun y h1 h2 => by
  have e : y = 137 := by omega
  subst e
  exact ck137
theorem ckq136_138 : ∀ y, 136 ≤ y → y < 138 → raAll (chkE y) (ctA.get y) = true := fun y h1 h2 => (Nat.lt_or_ge y 137).elim (fun q => ckq136_137 y h1 q) (fun q => ckq137_138 y q h2)
theorem ckq134_138 : ∀ y, 134 ≤ y → y < 138 → raAll (chkE y) (ctA.get y) = true := fun y h1 h2 => (Nat.lt_or_ge y 136).elim (fun q => ckq134_136 y h1 q) (fun q => ckq136_138 y q h2)
theorem ckq138_139 : ∀ y, 138 ≤ y → y < 139 → raAll (chkE y) (ctA.get y) = true := fun y h1 h2 => by
  have e : y = 138 := by omega
  subst e
  exact ck138
theorem ckq139_140 : ∀ y, 139 ≤ y → y < 140 → raAll (chkE y) (ctA.get y) = true := fun y h1 h2 => by
  have e : y = 139 := by omega
  subst e
  exact ck139
theorem ckq138_140 : ∀ y, 138 ≤ y → y < 140 → raAll (chkE y) (ctA.get y) = true := fun y h1 h2 => (Nat.lt_or_ge y 139).elim (fun q => ckq138_139 y h1 q) (fun q => ckq139_140 y q h2)
theorem ckq140_141 : ∀ y, 140 ≤ y → y < 141 → raAll (chkE y) (ctA.get y) = true := fun y h1 h2 => by
  have e : y = 140 := by omega
  subst e
  exact ck140
theorem ckq141_142 : ∀ y, 141 ≤ y → y < 142 → raAll (chkE y) (ctA.get y) = true := fun y h1 h2 => by
  have e : y = 141 := by omega
  subst e
  exact ck141
theorem ckq142_143 : ∀ y, 142 ≤ y → y < 143 → raAll (chkE y) (ctA.get y) = true := fun y h1 h2 => by
  have e : y = 142 := by omega
  subst e
  exact ck142
theorem ckq141_143 : ∀ y, 141 ≤ y → y < 143 → raAll (chkE y) (ctA.get y) = true := fun y h1 h2 => (Nat.lt_or_ge y 142).elim (fun q => ckq141_142 y h1 q) (fun q => ckq142_143 y q h2)
theorem ckq140_143 : ∀ y, 140 ≤ y → y < 143 → raAll (chkE y) (ctA.get y) = true := fun y h1 h2 => (Nat.lt_or_ge y 141).elim (fun q => ckq140_141 y h1 q) (fun q => ckq141_143 y q h2)
theorem ckq138_143 : ∀ y, 138 ≤ y → y < 143 → raAll (chkE y) (ctA.get y) = true := fun y h1 h2 => (Nat.lt_or_ge y 140).elim (fun q => ckq138_140 y h1 q) (fun q => ckq140_143 y q h2)
theorem ckq134_143 : ∀ y, 134 ≤ y → y < 143 → raAll (chkE y) (ctA.get y) = true := fun y h1 h2 => (Nat.lt_or_ge y 138).elim (fun q => ckq134_138 y h1 q) (fun q => ckq138_143 y q h2)
theorem ckq125_143 : ∀ y, 125 ≤ y → y < 143 → raAll (chkE y) (ctA.get y) = true := fun y h1 h2 => (Nat.lt_or_ge y 134).elim (fun q => ckq125_134 y h1 q) (fun q => ckq134_143 y q h2)
theorem ckq107_143 : ∀ y, 107 ≤ y → y < 143 → raAll (chkE y) (ctA.get y) = true := fun y h1 h2 => (Nat.lt_or_ge y 125).elim (fun q => ckq107_125 y h1 q) (fun q => ckq125_143 y q h2)
theorem ckq71_143 : ∀ y, 71 ≤ y → y < 143 → raAll (chkE y) (ctA.get y) = true := fun y h1 h2 => (Nat.lt_or_ge y 107).elim (fun q => ckq71_107 y h1 q) (fun q => ckq107_143 y q h2)
theorem ckq0_143 : ∀ y, 0 ≤ y → y < 143 → raAll (chkE y) (ctA.get y) = true := fun y h1 h2 => (Nat.lt_or_ge y 71).elim (fun q => ckq0_71 y h1 q) (fun q => ckq71_143 y q h2)
theorem ckq143_144 : ∀ y, 143 ≤ y → y < 144 → raAll (chkE y) (ctA.get y) = true := fun y h1 h2 => by
  have e : y = 143 := by omega
  subst e
  exact ck143
theorem ckq144_145 : ∀ y, 144 ≤ y → y < 145 → raAll (chkE y) (ctA.get y) = true := fun y h1 h2 => by
  have e : y = 144 := by omega
  subst e
  exact ck144
theorem ckq143_145 : ∀ y, 143 ≤ y → y < 145 → raAll (chkE y) (ctA.get y) = true := fun y h1 h2 => (Nat.lt_or_ge y 144).elim (fun q => ckq143_144 y h1 q) (fun q => ckq144_145 y q h2)
theorem ckq145_146 : ∀ y, 145 ≤ y → y < 146 → raAll (chkE y) (ctA.get y) = true := fun y h1 h2 => by
  have e : y = 145 := by omega
  subst e
  exact ck145
theorem ckq146_147 : ∀ y, 146 ≤ y → y < 147 → raAll (chkE y) (ctA.get y) = true := fun y h1 h2 => by
  have e : y = 146 := by omega
  subst e
  exact ck146
theorem ckq145_147 : ∀ y, 145 ≤ y → y < 147 → raAll (chkE y) (ctA.get y) = true := fun y h1 h2 => (Nat.lt_or_ge y 146).elim (fun q => ckq145_146 y h1 q) (fun q => ckq146_147 y q h2)
theorem ckq143_147 : ∀ y, 143 ≤ y → y < 147 → raAll (chkE y) (ctA.get y) = true := fun y h1 h2 => (Nat.lt_or_ge y 145).elim (fun q => ckq143_145 y h1 q) (fun q => ckq145_147 y q h2)
theorem ckq147_148 : ∀ y, 147 ≤ y → y < 148 → raAll (chkE y) (ctA.get y) = true := fun y h1 h2 => by
  have e : y = 147 := by omega
  subst e
  exact ck147
theorem ckq148_149 : ∀ y, 148 ≤ y → y < 149 → raAll (chkE y) (ctA.get y) = true := fun y h1 h2 => by
  have e : y = 148 := by omega
  subst e
  exact ck148
theorem ckq147_149 : ∀ y, 147 ≤ y → y < 149 → raAll (chkE y) (ctA.get y) = true := fun y h1 h2 => (Nat.lt_or_ge y 148).elim (fun q => ckq147_148 y h1 q) (fun q => ckq148_149 y q h2)
theorem ckq149_150 : ∀ y, 149 ≤ y → y < 150 → raAll (chkE y) (ctA.get y) = true := fun y h1 h2 => by
  have e : y = 149 := by omega
  subst e
  exact ck149
theorem ckq150_151 : ∀ y, 150 ≤ y → y < 151 → raAll (chkE y) (ctA.get y) = true := fun y h1 h2 => by
  have e : y = 150 := by omega
  subst e
  exact ck150
theorem ckq149_151 : ∀ y, 149 ≤ y → y < 151 → raAll (chkE y) (ctA.get y) = true := fun y h1 h2 => (Nat.lt_or_ge y 150).elim (fun q => ckq149_150 y h1 q) (fun q => ckq150_151 y q h2)
theorem ckq147_151 : ∀ y, 147 ≤ y → y < 151 → raAll (chkE y) (ctA.get y) = true := fun y h1 h2 => (Nat.lt_or_ge y 149).elim (fun q => ckq147_149 y h1 q) (fun q => ckq149_151 y q h2)
theorem ckq143_151 : ∀ y, 143 ≤ y → y < 151 → raAll (chkE y) (ctA.get y) = true := fun y h1 h2 => (Nat.lt_or_ge y 147).elim (fun q => ckq143_147 y h1 q) (fun q => ckq147_151 y q h2)
theorem ckq151_152 : ∀ y, 151 ≤ y → y < 152 → raAll (chkE y) (ctA.get y) = true := fun y h1 h2 => by
  have e : y = 151 := by omega
  subst e
  exact ck151
theorem ckq152_153 : ∀ y, 152 ≤ y → y < 153 → raAll (chkE y) (ctA.get y) = true := fun y h1 h2 => by
  have e : y = 152 := by omega
  subst e
  exact ck152
theorem ckq151_153 : ∀ y, 151 ≤ y → y < 153 → raAll (chkE y) (ctA.get y) = true := fun y h1 h2 => (Nat.lt_or_ge y 152).elim (fun q => ckq151_152 y h1 q) (fun q => ckq152_153 y q h2)
theorem ckq153_154 : ∀ y, 153 ≤ y → y < 154 → raAll (chkE y) (ctA.get y) = true := fun y h1 h2 => by
  have e : y = 153 := by omega
  subst e
  exact ck153
theorem ckq154_155 : ∀ y, 154 ≤ y → y < 155 → raAll (chkE y) (ctA.get y) = true := fun y h1 h2 => by
  have e : y = 154 := by omega
  subst e
  exact ck154
theorem ckq153_155 : ∀ y, 153 ≤ y → y < 155 → raAll (chkE y) (ctA.get y) = true := fun y h1 h2 => (Nat.lt_or_ge y 154).elim (fun q => ckq153_154 y h1 q) (fun q => ckq154_155 y q h2)
theorem ckq151_155 : ∀ y, 151 ≤ y → y < 155 → raAll (chkE y) (ctA.get y) = true := fun y h1 h2 => (Nat.lt_or_ge y 153).elim (fun q => ckq151_153 y h1 q) (fun q => ckq153_155 y q h2)
theorem ckq155_156 : ∀ y, 155 ≤ y → y < 156 → raAll (chkE y) (ctA.get y) = true := fun y h1 h2 => by
  have e : y = 155 := by omega
  subst e
  exact ck155
theorem ckq156_157 : ∀ y, 156 ≤ y → y < 157 → raAll (chkE y) (ctA.get y) = true := fun y h1 h2 => by
  have e : y = 156 := by omega
  subst e
  exact ck156
theorem ckq155_157 : ∀ y, 155 ≤ y → y < 157 → raAll (chkE y) (ctA.get y) = true := fun y h1 h2 => (Nat.lt_or_ge y 156).elim (fun q => ckq155_156 y h1 q) (fun q => ckq156_157 y q h2)
theorem ckq157_158 : ∀ y, 157 ≤ y → y < 158 → raAll (chkE y) (ctA.get y) = true := fun y h1 h2 => by
  have e : y = 157 := by omega
  subst e
  exact ck157
theorem ckq158_159 : ∀ y, 158 ≤ y → y < 159 → raAll (chkE y) (ctA.get y) = true := fun y h1 h2 => by
  have e : y = 158 := by omega
  subst e
  exact ck158
theorem ckq159_160 : ∀ y, 159 ≤ y → y < 160 → raAll (chkE y) (ctA.get y) = true := fun y h1 h2 => by
  have e : y = 159 := by omega
  subst e
  exact ck159
theorem ckq158_160 : ∀ y, 158 ≤ y → y < 160 → raAll (chkE y) (ctA.get y) = true := fun y h1 h2 => (Nat.lt_or_ge y 159).elim (fun q => ckq158_159 y h1 q) (fun q => ckq159_160 y q h2)
theorem ckq157_160 : ∀ y, 157 ≤ y → y < 160 → raAll (chkE y) (ctA.get y) = true := fun y h1 h2 => (Nat.lt_or_ge y 158).elim (fun q => ckq157_158 y h1 q) (fun q => ckq158_160 y q h2)
theorem ckq155_160 : ∀ y, 155 ≤ y → y < 160 → raAll (chkE y) (ctA.get y) = true := fun y h1 h2 => (Nat.lt_or_ge y 157).elim (fun q => ckq155_157 y h1 q) (fun q => ckq157_160 y q h2)
theorem ckq151_160 : ∀ y, 151 ≤ y → y < 160 → raAll (chkE y) (ctA.get y) = true := fun y h1 h2 => (Nat.lt_or_ge y 155).elim (fun q => ckq151_155 y h1 q) (fun q => ckq155_160 y q h2)
theorem ckq143_160 : ∀ y, 143 ≤ y → y < 160 → raAll (chkE y) (ctA.get y) = true := fun y h1 h2 => (Nat.lt_or_ge y 151).elim (fun q => ckq143_151 y h1 q) (fun q => ckq151_160 y q h2)
theorem ckq160_161 : ∀ y, 160 ≤ y → y < 161 → raAll (chkE y) (ctA.get y) = true := fun y h1 h2 => by
  have e : y = 160 := by omega
  subst e
  exact ck160
theorem ckq161_162 : ∀ y, 161 ≤ y → y < 162 → raAll (chkE y) (ctA.get y) = true := fun y h1 h2 => by
  have e : y = 161 := by omega
  subst e
  exact ck161
theorem ckq160_162 : ∀ y, 160 ≤ y → y < 162 → raAll (chkE y) (ctA.get y) = true := fun y h1 h2 => (Nat.lt_or_ge y 161).elim (fun q => ckq160_161 y h1 q) (fun q => ckq161_162 y q h2)
theorem ckq162_163 : ∀ y, 162 ≤ y → y < 163 → raAll (chkE y) (ctA.get y) = true := fun y h1 h2 => by
  have e : y = 162 := by omega
  subst e
  exact ck162
theorem ckq163_164 : ∀ y, 163 ≤ y → y < 164 → raAll (chkE y) (ctA.get y) = true := fun y h1 h2 => by
  have e : y = 163 := by omega
  subst e
  exact ck163
theorem ckq162_164 : ∀ y, 162 ≤ y → y < 164 → raAll (chkE y) (ctA.get y) = true := fun y h1 h2 => (Nat.lt_or_ge y 163).elim (fun q => ckq162_163 y h1 q) (fun q => ckq163_164 y q h2)
theorem ckq160_164 : ∀ y, 160 ≤ y → y < 164 → raAll (chkE y) (ctA.get y) = true := fun y h1 h2 => (Nat.lt_or_ge y 162).elim (fun q => ckq160_162 y h1 q) (fun q => ckq162_164 y q h2)
theorem ckq164_165 : ∀ y, 164 ≤ y → y < 165 → raAll (chkE y) (ctA.get y) = true := fun y h1 h2 => by
  have e : y = 164 := by omega
  subst e
  exact ck164
theorem ckq165_166 : ∀ y, 165 ≤ y → y < 166 → raAll (chkE y) (ctA.get y) = true := fun y h1 h2 => by
  have e : y = 165 := by omega
  subst e
  exact ck165
theorem ckq164_166 : ∀ y, 164 ≤ y → y < 166 → raAll (chkE y) (ctA.get y) = true := fun y h1 h2 => (Nat.lt_or_ge y 165).elim (fun q => ckq164_165 y h1 q) (fun q => ckq165_166 y q h2)
theorem ckq166_167 : ∀ y, 166 ≤ y → y < 167 → raAll (chkE y) (ctA.get y) = true := fun y h1 h2 => by
  have e : y = 166 := by omega
  subst e
  exact ck166
theorem ckq167_168 : ∀ y, 167 ≤ y → y < 168 → raAll (chkE y) (ctA.get y) = true := fun y h1 h2 => by
  have e : y = 167 := by omega
  subst e
  exact ck167
theorem ckq168_169 : ∀ y, 168 ≤ y → y < 169 → raAll (chkE y) (ctA.get y) = true := fun y h1 h2 => by
  have e : y = 168 := by omega
  subst e
  exact ck168
theorem ckq167_169 : ∀ y, 167 ≤ y → y < 169 → raAll (chkE y) (ctA.get y) = true := fun y h1 h2 => (Nat.lt_or_ge y 168).elim (fun q => ckq167_168 y h1 q) (fun q => ckq168_169 y q h2)
theorem ckq166_169 : ∀ y, 166 ≤ y → y < 169 → raAll (chkE y) (ctA.get y) = true := fun y h1 h2 => (Nat.lt_or_ge y 167).elim (fun q => ckq166_167 y h1 q) (fun q => ckq167_169 y q h2)
theorem ckq164_169 : ∀ y, 164 ≤ y → y < 169 → raAll (chkE y) (ctA.get y) = true := fun y h1 h2 => (Nat.lt_or_ge y 166).elim (fun q => ckq164_166 y h1 q) (fun q => ckq166_169 y q h2)
theorem ckq160_169 : ∀ y, 160 ≤ y → y < 169 → raAll (chkE y) (ctA.get y) = true := fun y h1 h2 => (Nat.lt_or_ge y 164).elim (fun q => ckq160_164 y h1 q) (fun q => ckq164_169 y q h2)
theorem ckq169_170 : ∀ y, 169 ≤ y → y < 170 → raAll (chkE y) (ctA.get y) = true := fun y h1 h2 => by
  have e : y = 169 := by omega
  subst e
  exact ck169
theorem ckq170_171 : ∀ y, 170 ≤ y → y < 171 → raAll (chkE y) (ctA.get y) = true := fun y h1 h2 => by
  have e : y = 170 := by omega
  subst e
  exact ck170
theorem ckq169_171 : ∀ y, 169 ≤ y → y < 171 → raAll (chkE y) (ctA.get y) = true := fun y h1 h2 => (Nat.lt_or_ge y 170).elim (fun q => ckq169_170 y h1 q) (fun q => ckq170_171 y q h2)
theorem ckq171_172 : ∀ y, 171 ≤ y → y < 172 → raAll (chkE y) (ctA.get y) = true := fun y h1 h2 => by
  have e : y = 171 := by omega
  subst e
  exact ck171
theorem ckq172_173 : ∀ y, 172 ≤ y → y < 173 → raAll (chkE y) (ctA.get y) = true := fun y h1 h2 => by
  have e : y = 172 := by omega
  subst e
  exact ck172
theorem ckq171_173 : ∀ y, 171 ≤ y → y < 173 → raAll (chkE y) (ctA.get y) = true := fun y h1 h2 => (Nat.lt_or_ge y 172).elim (fun q => ckq171_172 y h1 q) (fun q => ckq172_173 y q h2)
theorem ckq169_173 : ∀ y, 169 ≤ y → y < 173 → raAll (chkE y) (ctA.get y) = true := fun y h1 h2 => (Nat.lt_or_ge y 171).elim (fun q => ckq169_171 y h1 q) (fun q => ckq171_173 y q h2)
theorem ckq173_174 : ∀ y, 173 ≤ y → y < 174 → raAll (chkE y) (ctA.get y) = true := fun y h1 h2 => by
  have e : y = 173 := by omega
  subst e
  exact ck173
theorem ckq174_175 : ∀ y, 174 ≤ y → y < 175 → raAll (chkE y) (ctA.get y) = true := fun y h1 h2 => by
  have e : y = 174 := by omega
  subst e
  exact ck174
theorem ckq173_175 : ∀ y, 173 ≤ y → y < 175 → raAll (chkE y) (ctA.get y) = true := fun y h1 h2 => (Nat.lt_or_ge y 174).elim (fun q => ckq173_174 y h1 q) (fun q => ckq174_175 y q h2)
theorem ckq175_176 : ∀ y, 175 ≤ y → y < 176 → raAll (chkE y) (ctA.get y) = true := fun y h1 h2 => by
  have e : y = 175 := by omega
  subst e
  exact ck175
theorem ckq176_177 : ∀ y, 176 ≤ y → y < 177 → raAll (chkE y) (ctA.get y) = true := fun y h1 h2 => by
  have e : y = 176 := by omega
  subst e
  exact ck176
theorem ckq177_178 : ∀ y, 177 ≤ y → y < 178 → raAll (chkE y) (ctA.get y) = true := fun y h1 h2 => by
  have e : y = 177 := by omega
  subst e
  exact ck177
theorem ckq176_178 : ∀ y, 176 ≤ y → y < 178 → raAll (chkE y) (ctA.get y) = true := fun y h1 h2 => (Nat.lt_or_ge y 177).elim (fun q => ckq176_177 y h1 q) (fun q => ckq177_178 y q h2)
theorem ckq175_178 : ∀ y, 175 ≤ y → y < 178 → raAll (chkE y) (ctA.get y) = true := fun y h1 h2 => (Nat.lt_or_ge y 176).elim (fun q => ckq175_176 y h1 q) (fun q => ckq176_178 y q h2)
theorem ckq173_178 : ∀ y, 173 ≤ y → y < 178 → raAll (chkE y) (ctA.get y) = true := fun y h1 h2 => (Nat.lt_or_ge y 175).elim (fun q => ckq173_175 y h1 q) (fun q => ckq175_178 y q h2)
theorem ckq169_178 : ∀ y, 169 ≤ y → y < 178 → raAll (chkE y) (ctA.get y) = true := fun y h1 h2 => (Nat.lt_or_ge y 173).elim (fun q => ckq169_173 y h1 q) (fun q => ckq173_178 y q h2)
theorem ckq160_178 : ∀ y, 160 ≤ y → y < 178 → raAll (chkE y) (ctA.get y) = true := fun y h1 h2 => (Nat.lt_or_ge y 169).elim (fun q => ckq160_169 y h1 q) (fun q => ckq169_178 y q h2)
theorem ckq143_178 : ∀ y, 143 ≤ y → y < 178 → raAll (chkE y) (ctA.get y) = true := fun y h1 h2 => (Nat.lt_or_ge y 160).elim (fun q => ckq143_160 y h1 q) (fun q => ckq160_178 y q h2)
theorem ckq178_179 : ∀ y, 178 ≤ y → y < 179 → raAll (chkE y) (ctA.get y) = true := fun y h1 h2 => by
  have e : y = 178 := by omega
  subst e
  exact ck178
theorem ckq179_180 : ∀ y, 179 ≤ y → y < 180 → raAll (chkE y) (ctA.get y) = true := fun y h1 h2 => by
  have e : y = 179 := by omega
  subst e
  exact ck179
theorem ckq178_180 : ∀ y, 178 ≤ y → y < 180 → raAll (chkE y) (ctA.get y) = true := fun y h1 h2 => (Nat.lt_or_ge y 179).elim (fun q => ckq178_179 y h1 q) (fun q => ckq179_180 y q h2)
theorem ckq180_181 : ∀ y, 180 ≤ y → y < 181 → raAll (chkE y) (ctA.get y) = true := fun y h1 h2 => by
  have e : y = 180 := by omega
  subst e
  exact ck180
theorem ckq181_182 : ∀ y, 181 ≤ y → y < 182 → raAll (chkE y) (ctA.get y) = true := fun y h1 h2 => by
  have e : y = 181 := by omega
  subst e
  exact ck181
theorem ckq180_182 : ∀ y, 180 ≤ y → y < 182 → raAll (chkE y) (ctA.get y) = true := fun y h1 h2 => (Nat.lt_or_ge y 181).elim (fun q => ckq180_181 y h1 q) (fun q => ckq181_182 y q h2)
theorem ckq178_182 : ∀ y, 178 ≤ y → y < 182 → raAll (chkE y) (ctA.get y) = true := fun y h1 h2 => (Nat.lt_or_ge y 180).elim (fun q => ckq178_180 y h1 q) (fun q => ckq180_182 y q h2)
theorem ckq182_183 : ∀ y, 182 ≤ y → y < 183 → raAll (chkE y) (ctA.get y) = true := fun y h1 h2 => by
  have e : y = 182 := by omega
  subst e
  exact ck182
theorem ckq183_184 : ∀ y, 183 ≤ y → y < 184 → raAll (chkE y) (ctA.get y) = true := fun y h1 h2 => by
  have e : y = 183 := by omega
  subst e
  exact ck183
theorem ckq182_184 : ∀ y, 182 ≤ y → y < 184 → raAll (chkE y) (ctA.get y) = true := fun y h1 h2 => (Nat.lt_or_ge y 183).elim (fun q => ckq182_183 y h1 q) (fun q => ckq183_184 y q h2)
theorem ckq184_185 : ∀ y, 184 ≤ y → y < 185 → raAll (chkE y) (ctA.get y) = true := fun y h1 h2 => by
  have e : y = 184 := by omega
  subst e
  exact ck184
theorem ckq185_186 : ∀ y, 185 ≤ y → y < 186 → raAll (chkE y) (ctA.get y) = true := fun y h1 h2 => by
  have e : y = 185 := by omega
  subst e
  exact ck185
theorem ckq186_187 : ∀ y, 186 ≤ y → y < 187 → raAll (chkE y) (ctA.get y) = true := fun y h1 h2 => by
  have e : y = 186 := by omega
  subst e
  exact ck186
theorem ckq185_187 : ∀ y, 185 ≤ y → y < 187 → raAll (chkE y) (ctA.get y) = true := fun y h1 h2 => (Nat.lt_or_ge y 186).elim (fun q => ckq185_186 y h1 q) (fun q => ckq186_187 y q h2)
theorem ckq184_187 : ∀ y, 184 ≤ y → y < 187 → raAll (chkE y) (ctA.get y) = true := fun y h1 h2 => (Nat.lt_or_ge y 185).elim (fun q => ckq184_185 y h1 q) (fun q => ckq185_187 y q h2)
theorem ckq182_187 : ∀ y, 182 ≤ y → y < 187 → raAll (chkE y) (ctA.get y) = true := fun y h1 h2 => (Nat.lt_or_ge y 184).elim (fun q => ckq182_184 y h1 q) (fun q => ckq184_187 y q h2)
theorem ckq178_187 : ∀ y, 178 ≤ y → y < 187 → raAll (chkE y) (ctA.get y) = true := fun y h1 h2 => (Nat.lt_or_ge y 182).elim (fun q => ckq178_182 y h1 q) (fun q => ckq182_187 y q h2)
theorem ckq187_188 : ∀ y, 187 ≤ y → y < 188 → raAll (chkE y) (ctA.get y) = true := fun y h1 h2 => by
  have e : y = 187 := by omega
  subst e
  exact ck187
theorem ckq188_189 : ∀ y, 188 ≤ y → y < 189 → raAll (chkE y) (ctA.get y) = true := fun y h1 h2 => by
  have e : y = 188 := by omega
  subst e
  exact ck188
theorem ckq187_189 : ∀ y, 187 ≤ y → y < 189 → raAll (chkE y) (ctA.get y) = true := fun y h1 h2 => (Nat.lt_or_ge y 188).elim (fun q => ckq187_188 y h1 q) (fun q => ckq188_189 y q h2)
theorem ckq189_190 : ∀ y, 189 ≤ y → y < 190 → raAll (chkE y) (ctA.get y) = true := fun y h1 h2 => by
  have e : y = 189 := by omega
  subst e
  exact ck189
theorem ckq190_191 : ∀ y, 190 ≤ y → y < 191 → raAll (chkE y) (ctA.get y) = true := fun y h1 h2 => by
  have e : y = 190 := by omega
  subst e
  exact ck190
theorem ckq189_191 : ∀ y, 189 ≤ y → y < 191 → raAll (chkE y) (ctA.get y) = true := fun y h1 h2 => (Nat.lt_or_ge y 190).elim (fun q => ckq189_190 y h1 q) (fun q => ckq190_191 y q h2)
theorem ckq187_191 : ∀ y, 187 ≤ y → y < 191 → raAll (chkE y) (ctA.get y) = true := fun y h1 h2 => (Nat.lt_or_ge y 189).elim (fun q => ckq187_189 y h1 q) (fun q => ckq189_191 y q h2)
theorem ckq191_192 : ∀ y, 191 ≤ y → y < 192 → raAll (chkE y) (ctA.get y) = true := fun y h1 h2 => by
  have e : y = 191 := by omega
  subst e
  exact ck191
theorem ckq192_193 : ∀ y, 192 ≤ y → y < 193 → raAll (chkE y) (ctA.get y) = true := fun y h1 h2 => by
  have e : y = 192 := by omega
  subst e
  exact ck192
theorem ckq191_193 : ∀ y, 191 ≤ y → y < 193 → raAll (chkE y) (ctA.get y) = true := fun y h1 h2 => (Nat.lt_or_ge y 192).elim (fun q => ckq191_192 y h1 q) (fun q => ckq192_193 y q h2)
theorem ckq193_194 : ∀ y, 193 ≤ y → y < 194 → raAll (chkE y) (ctA.get y) = true := fun y h1 h2 => by
  have e : y = 193 := by omega
  subst e
  exact ck193
theorem ckq194_195 : ∀ y, 194 ≤ y → y < 195 → raAll (chkE y) (ctA.get y) = true := fun y h1 h2 => by
  have e : y = 194 := by omega
  subst e
  exact ck194
theorem ckq195_196 : ∀ y, 195 ≤ y → y < 196 → raAll (chkE y) (ctA.get y) = true := fun y h1 h2 => by
  have e : y = 195 := by omega
  subst e
  exact ck195
theorem ckq194_196 : ∀ y, 194 ≤ y → y < 196 → raAll (chkE y) (ctA.get y) = true := fun y h1 h2 => (Nat.lt_or_ge y 195).elim (fun q => ckq194_195 y h1 q) (fun q => ckq195_196 y q h2)
theorem ckq193_196 : ∀ y, 193 ≤ y → y < 196 → raAll (chkE y) (ctA.get y) = true := fun y h1 h2 => (Nat.lt_or_ge y 194).elim (fun q => ckq193_194 y h1 q) (fun q => ckq194_196 y q h2)
theorem ckq191_196 : ∀ y, 191 ≤ y → y < 196 → raAll (chkE y) (ctA.get y) = true := fun y h1 h2 => (Nat.lt_or_ge y 193).elim (fun q => ckq191_193 y h1 q) (fun q => ckq193_196 y q h2)
theorem ckq187_196 : ∀ y, 187 ≤ y → y < 196 → raAll (chkE y) (ctA.get y) = true := fun y h1 h2 => (Nat.lt_or_ge y 191).elim (fun q => ckq187_191 y h1 q) (fun q => ckq191_196 y q h2)
theorem ckq178_196 : ∀ y, 178 ≤ y → y < 196 → raAll (chkE y) (ctA.get y) = true := fun y h1 h2 => (Nat.lt_or_ge y 187).elim (fun q => ckq178_187 y h1 q) (fun q => ckq187_196 y q h2)
theorem ckq196_197 : ∀ y, 196 ≤ y → y < 197 → raAll (chkE y) (ctA.get y) = true := fun y h1 h2 => by
  have e : y = 196 := by omega
  subst e
  exact ck196
theorem ckq197_198 : ∀ y, 197 ≤ y → y < 198 → raAll (chkE y) (ctA.get y) = true := fun y h1 h2 => by
  have e : y = 197 := by omega
  subst e
  exact ck197
theorem ckq196_198 : ∀ y, 196 ≤ y → y < 198 → raAll (chkE y) (ctA.get y) = true := fun y h1 h2 => (Nat.lt_or_ge y 197).elim (fun q => ckq196_197 y h1 q) (fun q => ckq197_198 y q h2)
theorem ckq198_199 : ∀ y, 198 ≤ y → y < 199 → raAll (chkE y) (ctA.get y) = true := fun y h1 h2 => by
  have e : y = 198 := by omega
  subst e
  exact ck198
theorem ckq199_200 : ∀ y, 199 ≤ y → y < 200 → raAll (chkE y) (ctA.get y) = true := fun y h1 h2 => by
  have e : y = 199 := by omega
  subst e
  exact ck199
theorem ckq198_200 : ∀ y, 198 ≤ y → y < 200 → raAll (chkE y) (ctA.get y) = true := fun y h1 h2 => (Nat.lt_or_ge y 199).elim (fun q => ckq198_199 y h1 q) (fun q => ckq199_200 y q h2)
theorem ckq196_200 : ∀ y, 196 ≤ y → y < 200 → raAll (chkE y) (ctA.get y) = true := fun y h1 h2 => (Nat.lt_or_ge y 198).elim (fun q => ckq196_198 y h1 q) (fun q => ckq198_200 y q h2)
theorem ckq200_201 : ∀ y, 200 ≤ y → y < 201 → raAll (chkE y) (ctA.get y) = true := fun y h1 h2 => by
  have e : y = 200 := by omega
  subst e
  exact ck200
theorem ckq201_202 : ∀ y, 201 ≤ y → y < 202 → raAll (chkE y) (ctA.get y) = true := fun y h1 h2 => by
  have e : y = 201 := by omega
  subst e
  exact ck201
theorem ckq200_202 : ∀ y, 200 ≤ y → y < 202 → raAll (chkE y) (ctA.get y) = true := fun y h1 h2 => (Nat.lt_or_ge y 201).elim (fun q => ckq200_201 y h1 q) (fun q => ckq201_202 y q h2)
theorem ckq202_203 : ∀ y, 202 ≤ y → y < 203 → raAll (chkE y) (ctA.get y) = true := fun y h1 h2 => by
  have e : y = 202 := by omega
  subst e
  exact ck202
theorem ckq203_204 : ∀ y, 203 ≤ y → y < 204 → raAll (chkE y) (ctA.get y) = true := fun y h1 h2 => by
  have e : y = 203 := by omega
  subst e
  exact ck203
theorem ckq204_205 : ∀ y, 204 ≤ y → y < 205 → raAll (chkE y) (ctA.get y) = true := fun y h1 h2 => by
  have e : y = 204 := by omega
  subst e
  exact ck204
theorem ckq203_205 : ∀ y, 203 ≤ y → y < 205 → raAll (chkE y) (ctA.get y) = true := fun y h1 h2 => (Nat.lt_or_ge y 204).elim (fun q => ckq203_204 y h1 q) (fun q => ckq204_205 y q h2)
theorem ckq202_205 : ∀ y, 202 ≤ y → y < 205 → raAll (chkE y) (ctA.get y) = true := fun y h1 h2 => (Nat.lt_or_ge y 203).elim (fun q => ckq202_203 y h1 q) (fun q => ckq203_205 y q h2)
theorem ckq200_205 : ∀ y, 200 ≤ y → y < 205 → raAll (chkE y) (ctA.get y) = true := fun y h1 h2 => (Nat.lt_or_ge y 202).elim (fun q => ckq200_202 y h1 q) (fun q => ckq202_205 y q h2)
theorem ckq196_205 : ∀ y, 196 ≤ y → y < 205 → raAll (chkE y) (ctA.get y) = true := fun y h1 h2 => (Nat.lt_or_ge y 200).elim (fun q => ckq196_200 y h1 q) (fun q => ckq200_205 y q h2)
theorem ckq205_206 : ∀ y, 205 ≤ y → y < 206 → raAll (chkE y) (ctA.get y) = true := fun y h1 h2 => by
  have e : y = 205 := by omega
  subst e
  exact ck205
theorem ckq206_207 : ∀ y, 206 ≤ y → y < 207 → raAll (chkE y) (ctA.get y) = true := fun y h1 h2 => by
  have e : y = 206 := by omega
  subst e
  exact ck206
theorem ckq205_207 : ∀ y, 205 ≤ y → y < 207 → raAll (chkE y) (ctA.get y) = true := fun y h1 h2 => (Nat.lt_or_ge y 206).elim (fun q => ckq205_206 y h1 q) (fun q => ckq206_207 y q h2)
theorem ckq207_208 : ∀ y, 207 ≤ y → y < 208 → raAll (chkE y) (ctA.get y) = true := fun y h1 h2 => by
  have e : y = 207 := by omega
  subst e
  exact ck207
theorem ckq208_209 : ∀ y, 208 ≤ y → y < 209 → raAll (chkE y) (ctA.get y) = true := fun y h1 h2 => by
  have e : y = 208 := by omega
  subst e
  exact ck208
theorem ckq207_209 : ∀ y, 207 ≤ y → y < 209 → raAll (chkE y) (ctA.get y) = true := fun y h1 h2 => (Nat.lt_or_ge y 208).elim (fun q => ckq207_208 y h1 q) (fun q => ckq208_209 y q h2)
theorem ckq205_209 : ∀ y, 205 ≤ y → y < 209 → raAll (chkE y) (ctA.get y) = true := fun y h1 h2 => (Nat.lt_or_ge y 207).elim (fun q => ckq205_207 y h1 q) (fun q => ckq207_209 y q h2)
theorem ckq209_210 : ∀ y, 209 ≤ y → y < 210 → raAll (chkE y) (ctA.get y) = true := fun y h1 h2 => by
  have e : y = 209 := by omega
  subst e
  exact ck209
theorem ckq210_211 : ∀ y, 210 ≤ y → y < 211 → raAll (chkE y) (ctA.get y) = true := fun y h1 h2 => by
  have e : y = 210 := by omega
  subst e
  exact ck210
theorem ckq209_211 : ∀ y, 209 ≤ y → y < 211 → raAll (chkE y) (ctA.get y) = true := fun y h1 h2 => (Nat.lt_or_ge y 210).elim (fun q => ckq209_210 y h1 q) (fun q => ckq210_211 y q h2)
theorem ckq211_212 : ∀ y, 211 ≤ y → y < 212 → raAll (chkE y) (ctA.get y) = true := fun y h1 h2 => by
  have e : y = 211 := by omega
  subst e
  exact ck211
theorem ckq212_213 : ∀ y, 212 ≤ y → y < 213 → raAll (chkE y) (ctA.get y) = true := fun y h1 h2 => by
  have e : y = 212 := by omega
  subst e
  exact ck212
theorem ckq213_214 : ∀ y, 213 ≤ y → y < 214 → raAll (chkE y) (ctA.get y) = true := fun y h1 h2 => by
  have e : y = 213 := by omega
  subst e
  exact ck213
theorem ckq212_214 : ∀ y, 212 ≤ y → y < 214 → raAll (chkE y) (ctA.get y) = true := fun y h1 h2 => (Nat.lt_or_ge y 213).elim (fun q => ckq212_213 y h1 q) (fun q => ckq213_214 y q h2)
theorem ckq211_214 : ∀ y, 211 ≤ y → y < 214 → raAll (chkE y) (ctA.get y) = true := fun y h1 h2 => (Nat.lt_or_ge y 212).elim (fun q => ckq211_212 y h1 q) (fun q => ckq212_214 y q h2)
theorem ckq209_214 : ∀ y, 209 ≤ y → y < 214 → raAll (chkE y) (ctA.get y) = true := fun y h1 h2 => (Nat.lt_or_ge y 211).elim (fun q => ckq209_211 y h1 q) (fun q => ckq211_214 y q h2)
theorem ckq205_214 : ∀ y, 205 ≤ y → y < 214 → raAll (chkE y) (ctA.get y) = true := fun y h1 h2 => (Nat.lt_or_ge y 209).elim (fun q => ckq205_209 y h1 q) (fun q => ckq209_214 y q h2)
theorem ckq196_214 : ∀ y, 196 ≤ y → y < 214 → raAll (chkE y) (ctA.get y) = true := fun y h1 h2 => (Nat.lt_or_ge y 205).elim (fun q => ckq196_205 y h1 q) (fun q => ckq205_214 y q h2)
theorem ckq178_214 : ∀ y, 178 ≤ y → y < 214 → raAll (chkE y) (ctA.get y) = true := fun y h1 h2 => (Nat.lt_or_ge y 196).elim (fun q => ckq178_196 y h1 q) (fun q => ckq196_214 y q h2)
theorem ckq143_214 : ∀ y, 143 ≤ y → y < 214 → raAll (chkE y) (ctA.get y) = true := fun y h1 h2 => (Nat.lt_or_ge y 178).elim (fun q => ckq143_178 y h1 q) (fun q => ckq178_214 y q h2)
theorem ckq214_215 : ∀ y, 214 ≤ y → y < 215 → raAll (chkE y) (ctA.get y) = true := fun y h1 h2 => by
  have e : y = 214 := by omega
  subst e
  exact ck214
theorem ckq215_216 : ∀ y, 215 ≤ y → y < 216 → raAll (chkE y) (ctA.get y) = true := fun y h1 h2 => by
  have e : y = 215 := by omega
  subst e
  exact ck215
theorem ckq214_216 : ∀ y, 214 ≤ y → y < 216 → raAll (chkE y) (ctA.get y) = true := fun y h1 h2 => (Nat.lt_or_ge y 215).elim (fun q => ckq214_215 y h1 q) (fun q => ckq215_216 y q h2)
theorem ckq216_217 : ∀ y, 216 ≤ y → y < 217 → raAll (chkE y) (ctA.get y) = true := fun y h1 h2 => by
  have e : y = 216 := by omega
  subst e
  exact ck216
theorem ckq217_218 : ∀ y, 217 ≤ y → y < 218 → raAll (chkE y) (ctA.get y) = true := fun y h1 h2 => by
  have e : y = 217 := by omega
  subst e
  exact ck217
theorem ckq216_218 : ∀ y, 216 ≤ y → y < 218 → raAll (chkE y) (ctA.get y) = true := fun y h1 h2 => (Nat.lt_or_ge y 217).elim (fun q => ckq216_217 y h1 q) (fun q => ckq217_218 y q h2)
theorem ckq214_218 : ∀ y, 214 ≤ y → y < 218 → raAll (chkE y) (ctA.get y) = true := fun y h1 h2 => (Nat.lt_or_ge y 216).elim (fun q => ckq214_216 y h1 q) (fun q => ckq216_218 y q h2)
theorem ckq218_219 : ∀ y, 218 ≤ y → y < 219 → raAll (chkE y) (ctA.get y) = true := fun y h1 h2 => by
  have e : y = 218 := by omega
  subst e
  exact ck218
theorem ckq219_220 : ∀ y, 219 ≤ y → y < 220 → raAll (chkE y) (ctA.get y) = true := fun y h1 h2 => by
  have e : y = 219 := by omega
  subst e
  exact ck219
theorem ckq218_220 : ∀ y, 218 ≤ y → y < 220 → raAll (chkE y) (ctA.get y) = true := fun y h1 h2 => (Nat.lt_or_ge y 219).elim (fun q => ckq218_219 y h1 q) (fun q => ckq219_220 y q h2)
theorem ckq220_221 : ∀ y, 220 ≤ y → y < 221 → raAll (chkE y) (ctA.get y) = true := fun y h1 h2 => by
  have e : y = 220 := by omega
  subst e
  exact ck220
theorem ckq221_222 : ∀ y, 221 ≤ y → y < 222 → raAll (chkE y) (ctA.get y) = true := fun y h1 h2 => by
  have e : y = 221 := by omega
  subst e
  exact ck221
theorem ckq222_223 : ∀ y, 222 ≤ y → y < 223 → raAll (chkE y) (ctA.get y) = true := fun y h1 h2 => by
  have e : y = 222 := by omega
  subst e
  exact ck222
theorem ckq221_223 : ∀ y, 221 ≤ y → y < 223 → raAll (chkE y) (ctA.get y) = true := fun y h1 h2 => (Nat.lt_or_ge y 222).elim (fun q => ckq221_222 y h1 q) (fun q => ckq222_223 y q h2)
theorem ckq220_223 : ∀ y, 220 ≤ y → y < 223 → raAll (chkE y) (ctA.get y) = true := fun y h1 h2 => (Nat.lt_or_ge y 221).elim (fun q => ckq220_221 y h1 q) (fun q => ckq221_223 y q h2)
theorem ckq218_223 : ∀ y, 218 ≤ y → y < 223 → raAll (chkE y) (ctA.get y) = true := fun y h1 h2 => (Nat.lt_or_ge y 220).elim (fun q => ckq218_220 y h1 q) (fun q => ckq220_223 y q h2)
theorem ckq214_223 : ∀ y, 214 ≤ y → y < 223 → raAll (chkE y) (ctA.get y) = true := fun y h1 h2 => (Nat.lt_or_ge y 218).elim (fun q => ckq214_218 y h1 q) (fun q => ckq218_223 y q h2)
theorem ckq223_224 : ∀ y, 223 ≤ y → y < 224 → raAll (chkE y) (ctA.get y) = true := fun y h1 h2 => by
  have e : y = 223 := by omega
  subst e
  exact ck223
theorem ckq224_225 : ∀ y, 224 ≤ y → y < 225 → raAll (chkE y) (ctA.get y) = true := fun y h1 h2 => by
  have e : y = 224 := by omega
  subst e
  exact ck224
theorem ckq223_225 : ∀ y, 223 ≤ y → y < 225 → raAll (chkE y) (ctA.get y) = true := fun y h1 h2 => (Nat.lt_or_ge y 224).elim (fun q => ckq223_224 y h1 q) (fun q => ckq224_225 y q h2)
theorem ckq225_226 : ∀ y, 225 ≤ y → y < 226 → raAll (chkE y) (ctA.get y) = true := fun y h1 h2 => by
  have e : y = 225 := by omega
  subst e
  exact ck225
theorem ckq226_227 : ∀ y, 226 ≤ y → y < 227 → raAll (chkE y) (ctA.get y) = true := fun y h1 h2 => by
  have e : y = 226 := by omega
  subst e
  exact ck226
theorem ckq225_227 : ∀ y, 225 ≤ y → y < 227 → raAll (chkE y) (ctA.get y) = true := fun y h1 h2 => (Nat.lt_or_ge y 226).elim (fun q => ckq225_226 y h1 q) (fun q => ckq226_227 y q h2)
theorem ckq223_227 : ∀ y, 223 ≤ y → y < 227 → raAll (chkE y) (ctA.get y) = true := fun y h1 h2 => (Nat.lt_or_ge y 225).elim (fun q => ckq223_225 y h1 q) (fun q => ckq225_227 y q h2)
theorem ckq227_228 : ∀ y, 227 ≤ y → y < 228 → raAll (chkE y) (ctA.get y) = true := fun y h1 h2 => by
  have e : y = 227 := by omega
  subst e
  exact ck227
theorem ckq228_229 : ∀ y, 228 ≤ y → y < 229 → raAll (chkE y) (ctA.get y) = true := fun y h1 h2 => by
  have e : y = 228 := by omega
  subst e
  exact ck228
theorem ckq227_229 : ∀ y, 227 ≤ y → y < 229 → raAll (chkE y) (ctA.get y) = true := fun y h1 h2 => (Nat.lt_or_ge y 228).elim (fun q => ckq227_228 y h1 q) (fun q => ckq228_229 y q h2)
theorem ckq229_230 : ∀ y, 229 ≤ y → y < 230 → raAll (chkE y) (ctA.get y) = true := fun y h1 h2 => by
  have e : y = 229 := by omega
  subst e
  exact ck229
theorem ckq230_231 : ∀ y, 230 ≤ y → y < 231 → raAll (chkE y) (ctA.get y) = true := fun y h1 h2 => by
  have e : y = 230 := by omega
  subst e
  exact ck230
theorem ckq231_232 : ∀ y, 231 ≤ y → y < 232 → raAll (chkE y) (ctA.get y) = true := fun y h1 h2 => by
  have e : y = 231 := by omega
  subst e
  exact ck231
theorem ckq230_232 : ∀ y, 230 ≤ y → y < 232 → raAll (chkE y) (ctA.get y) = true := fun y h1 h2 => (Nat.lt_or_ge y 231).elim (fun q => ckq230_231 y h1 q) (fun q => ckq231_232 y q h2)
theorem ckq229_232 : ∀ y, 229 ≤ y → y < 232 → raAll (chkE y) (ctA.get y) = true := fun y h1 h2 => (Nat.lt_or_ge y 230).elim (fun q => ckq229_230 y h1 q) (fun q => ckq230_232 y q h2)
theorem ckq227_232 : ∀ y, 227 ≤ y → y < 232 → raAll (chkE y) (ctA.get y) = true := fun y h1 h2 => (Nat.lt_or_ge y 229).elim (fun q => ckq227_229 y h1 q) (fun q => ckq229_232 y q h2)
theorem ckq223_232 : ∀ y, 223 ≤ y → y < 232 → raAll (chkE y) (ctA.get y) = true := fun y h1 h2 => (Nat.lt_or_ge y 227).elim (fun q => ckq223_227 y h1 q) (fun q => ckq227_232 y q h2)
theorem ckq214_232 : ∀ y, 214 ≤ y → y < 232 → raAll (chkE y) (ctA.get y) = true := fun y h1 h2 => (Nat.lt_or_ge y 223).elim (fun q => ckq214_223 y h1 q) (fun q => ckq223_232 y q h2)
theorem ckq232_233 : ∀ y, 232 ≤ y → y < 233 → raAll (chkE y) (ctA.get y) = true := fun y h1 h2 => by
  have e : y = 232 := by omega
  subst e
  exact ck232
theorem ckq233_234 : ∀ y, 233 ≤ y → y < 234 → raAll (chkE y) (ctA.get y) = true := fun y h1 h2 => by
  have e : y = 233 := by omega
  subst e
  exact ck233
theorem ckq232_234 : ∀ y, 232 ≤ y → y < 234 → raAll (chkE y) (ctA.get y) = true := fun y h1 h2 => (Nat.lt_or_ge y 233).elim (fun q => ckq232_233 y h1 q) (fun q => ckq233_234 y q h2)
theorem ckq234_235 : ∀ y, 234 ≤ y → y < 235 → raAll (chkE y) (ctA.get y) = true := fun y h1 h2 => by
  have e : y = 234 := by omega
  subst e
  exact ck234
theorem ckq235_236 : ∀ y, 235 ≤ y → y < 236 → raAll (chkE y) (ctA.get y) = true := fun y h1 h2 => by
  have e : y = 235 := by omega
  subst e
  exact ck235
theorem ckq234_236 : ∀ y, 234 ≤ y → y < 236 → raAll (chkE y) (ctA.get y) = true := fun y h1 h2 => (Nat.lt_or_ge y 235).elim (fun q => ckq234_235 y h1 q) (fun q => ckq235_236 y q h2)
theorem ckq232_236 : ∀ y, 232 ≤ y → y < 236 → raAll (chkE y) (ctA.get y) = true := fun y h1 h2 => (Nat.lt_or_ge y 234).elim (fun q => ckq232_234 y h1 q) (fun q => ckq234_236 y q h2)
theorem ckq236_237 : ∀ y, 236 ≤ y → y < 237 → raAll (chkE y) (ctA.get y) = true := fun y h1 h2 => by
  have e : y = 236 := by omega
  subst e
  exact ck236
theorem ckq237_238 : ∀ y, 237 ≤ y → y < 238 → raAll (chkE y) (ctA.get y) = true := fun y h1 h2 => by
  have e : y = 237 := by omega
  subst e
  exact ck237
theorem ckq236_238 : ∀ y, 236 ≤ y → y < 238 → raAll (chkE y) (ctA.get y) = true := fun y h1 h2 => (Nat.lt_or_ge y 237).elim (fun q => ckq236_237 y h1 q) (fun q => ckq237_238 y q h2)
theorem ckq238_239 : ∀ y, 238 ≤ y → y < 239 → raAll (chkE y) (ctA.get y) = true := fun y h1 h2 => by
  have e : y = 238 := by omega
  subst e
  exact ck238
theorem ckq239_240 : ∀ y, 239 ≤ y → y < 240 → raAll (chkE y) (ctA.get y) = true := fun y h1 h2 => by
  have e : y = 239 := by omega
  subst e
  exact ck239
theorem ckq240_241 : ∀ y, 240 ≤ y → y < 241 → raAll (chkE y) (ctA.get y) = true := fun y h1 h2 => by
  have e : y = 240 := by omega
  subst e
  exact ck240
theorem ckq239_241 : ∀ y, 239 ≤ y → y < 241 → raAll (chkE y) (ctA.get y) = true := fun y h1 h2 => (Nat.lt_or_ge y 240).elim (fun q => ckq239_240 y h1 q) (fun q => ckq240_241 y q h2)
theorem ckq238_241 : ∀ y, 238 ≤ y → y < 241 → raAll (chkE y) (ctA.get y) = true := fun y h1 h2 => (Nat.lt_or_ge y 239).elim (fun q => ckq238_239 y h1 q) (fun q => ckq239_241 y q h2)
theorem ckq236_241 : ∀ y, 236 ≤ y → y < 241 → raAll (chkE y) (ctA.get y) = true := fun y h1 h2 => (Nat.lt_or_ge y 238).elim (fun q => ckq236_238 y h1 q) (fun q => ckq238_241 y q h2)
theorem ckq232_241 : ∀ y, 232 ≤ y → y < 241 → raAll (chkE y) (ctA.get y) = true := fun y h1 h2 => (Nat.lt_or_ge y 236).elim (fun q => ckq232_236 y h1 q) (fun q => ckq236_241 y q h2)
theorem ckq241_242 : ∀ y, 241 ≤ y → y < 242 → raAll (chkE y) (ctA.get y) = true := fun y h1 h2 => by
  have e : y = 241 := by omega
  subst e
  exact ck241
theorem ckq242_243 : ∀ y, 242 ≤ y → y < 243 → raAll (chkE y) (ctA.get y) = true := fun y h1 h2 => by
  have e : y = 242 := by omega
  subst e
  exact ck242
theorem ckq241_243 : ∀ y, 241 ≤ y → y < 243 → raAll (chkE y) (ctA.get y) = true := fun y h1 h2 => (Nat.lt_or_ge y 242).elim (fun q => ckq241_242 y h1 q) (fun q => ckq242_243 y q h2)
theorem ckq243_244 : ∀ y, 243 ≤ y → y < 244 → raAll (chkE y) (ctA.get y) = true := fun y h1 h2 => by
  have e : y = 243 := by omega
  subst e
  exact ck243
theorem ckq244_245 : ∀ y, 244 ≤ y → y < 245 → raAll (chkE y) (ctA.get y) = true := fun y h1 h2 => by
  have e : y = 244 := by omega
  subst e
  exact ck244
theorem ckq243_245 : ∀ y, 243 ≤ y → y < 245 → raAll (chkE y) (ctA.get y) = true := fun y h1 h2 => (Nat.lt_or_ge y 244).elim (fun q => ckq243_244 y h1 q) (fun q => ckq244_245 y q h2)
theorem ckq241_245 : ∀ y, 241 ≤ y → y < 245 → raAll (chkE y) (ctA.get y) = true := fun y h1 h2 => (Nat.lt_or_ge y 243).elim (fun q => ckq241_243 y h1 q) (fun q => ckq243_245 y q h2)
theorem ckq245_246 : ∀ y, 245 ≤ y → y < 246 → raAll (chkE y) (ctA.get y) = true := fun y h1 h2 => by
  have e : y = 245 := by omega
  subst e
  exact ck245
theorem ckq246_247 : ∀ y, 246 ≤ y → y < 247 → raAll (chkE y) (ctA.get y) = true := fun y h1 h2 => by
  have e : y = 246 := by omega
  subst e
  exact ck246
theorem ckq245_247 : ∀ y, 245 ≤ y → y < 247 → raAll (chkE y) (ctA.get y) = true := fun y h1 h2 => (Nat.lt_or_ge y 246).elim (fun q => ckq245_246 y h1 q) (fun q => ckq246_247 y q h2)
theorem ckq247_248 : ∀ y, 247 ≤ y → y < 248 → raAll (chkE y) (ctA.get y) = true := fun y h1 h2 => by
  have e : y = 247 := by omega
  subst e
  exact ck247
theorem ckq248_249 : ∀ y, 248 ≤ y → y < 249 → raAll (chkE y) (ctA.get y) = true := fun y h1 h2 => by
  have e : y = 248 := by omega
  subst e
  exact ck248
theorem ckq249_250 : ∀ y, 249 ≤ y → y < 250 → raAll (chkE y) (ctA.get y) = true := fun y h1 h2 => by
  have e : y = 249 := by omega
  subst e
  exact ck249
theorem ckq248_250 : ∀ y, 248 ≤ y → y < 250 → raAll (chkE y) (ctA.get y) = true := fun y h1 h2 => (Nat.lt_or_ge y 249).elim (fun q => ckq248_249 y h1 q) (fun q => ckq249_250 y q h2)
theorem ckq247_250 : ∀ y, 247 ≤ y → y < 250 → raAll (chkE y) (ctA.get y) = true := fun y h1 h2 => (Nat.lt_or_ge y 248).elim (fun q => ckq247_248 y h1 q) (fun q => ckq248_250 y q h2)
theorem ckq245_250 : ∀ y, 245 ≤ y → y < 250 → raAll (chkE y) (ctA.get y) = true := fun y h1 h2 => (Nat.lt_or_ge y 247).elim (fun q => ckq245_247 y h1 q) (fun q => ckq247_250 y q h2)
theorem ckq241_250 : ∀ y, 241 ≤ y → y < 250 → raAll (chkE y) (ctA.get y) = true := fun y h1 h2 => (Nat.lt_or_ge y 245).elim (fun q => ckq241_245 y h1 q) (fun q => ckq245_250 y q h2)
theorem ckq232_250 : ∀ y, 232 ≤ y → y < 250 → raAll (chkE y) (ctA.get y) = true := fun y h1 h2 => (Nat.lt_or_ge y 241).elim (fun q => ckq232_241 y h1 q) (fun q => ckq241_250 y q h2)
theorem ckq214_250 : ∀ y, 214 ≤ y → y < 250 → raAll (chkE y) (ctA.get y) = true := fun y h1 h2 => (Nat.lt_or_ge y 232).elim (fun q => ckq214_232 y h1 q) (fun q => ckq232_250 y q h2)
theorem ckq250_251 : ∀ y, 250 ≤ y → y < 251 → raAll (chkE y) (ctA.get y) = true := fun y h1 h2 => by
  have e : y = 250 := by omega
  subst e
  exact ck250
theorem ckq251_252 : ∀ y, 251 ≤ y → y < 252 → raAll (chkE y) (ctA.get y) = true := fun y h1 h2 => by
  have e : y = 251 := by omega
  subst e
  exact ck251
theorem ckq250_252 : ∀ y, 250 ≤ y → y < 252 → raAll (chkE y) (ctA.get y) = true := fun y h1 h2 => (Nat.lt_or_ge y 251).elim (fun q => ckq250_251 y h1 q) (fun q => ckq251_252 y q h2)
theorem ckq252_253 : ∀ y, 252 ≤ y → y < 253 → raAll (chkE y) (ctA.get y) = true := fun y h1 h2 => by
  have e : y = 252 := by omega
  subst e
  exact ck252
theorem ckq253_254 : ∀ y, 253 ≤ y → y < 254 → raAll (chkE y) (ctA.get y) = true := fun y h1 h2 => by
  have e : y = 253 := by omega
  subst e
  exact ck253
theorem ckq252_254 : ∀ y, 252 ≤ y → y < 254 → raAll (chkE y) (ctA.get y) = true := fun y h1 h2 => (Nat.lt_or_ge y 253).elim (fun q => ckq252_253 y h1 q) (fun q => ckq253_254 y q h2)
theorem ckq250_254 : ∀ y, 250 ≤ y → y < 254 → raAll (chkE y) (ctA.get y) = true := fun y h1 h2 => (Nat.lt_or_ge y 252).elim (fun q => ckq250_252 y h1 q) (fun q => ckq252_254 y q h2)
theorem ckq254_255 : ∀ y, 254 ≤ y → y < 255 → raAll (chkE y) (ctA.get y) = true := fun y h1 h2 => by
  have e : y = 254 := by omega
  subst e
  exact ck254
theorem ckq255_256 : ∀ y, 255 ≤ y → y < 256 → raAll (chkE y) (ctA.get y) = true := fun y h1 h2 => by
  have e : y = 255 := by omega
  subst e
  exact ck255
theorem ckq254_256 : ∀ y, 254 ≤ y → y < 256 → raAll (chkE y) (ctA.get y) = true := fun y h1 h2 => (Nat.lt_or_ge y 255).elim (fun q => ckq254_255 y h1 q) (fun q => ckq255_256 y q h2)
theorem ckq256_257 : ∀ y, 256 ≤ y → y < 257 → raAll (chkE y) (ctA.get y) = true := fun y h1 h2 => by
  have e : y = 256 := by omega
  subst e
  exact ck256
theorem ckq257_258 : ∀ y, 257 ≤ y → y < 258 → raAll (chkE y) (ctA.get y) = true := fun y h1 h2 => by
  have e : y = 257 := by omega
  subst e
  exact ck257
theorem ckq258_259 : ∀ y, 258 ≤ y → y < 259 → raAll (chkE y) (ctA.get y) = true := fun y h1 h2 => by
  have e : y = 258 := by omega
  subst e
  exact ck258
theorem ckq257_259 : ∀ y, 257 ≤ y → y < 259 → raAll (chkE y) (ctA.get y) = true := fun y h1 h2 => (Nat.lt_or_ge y 258).elim (fun q => ckq257_258 y h1 q) (fun q => ckq258_259 y q h2)
theorem ckq256_259 : ∀ y, 256 ≤ y → y < 259 → raAll (chkE y) (ctA.get y) = true := fun y h1 h2 => (Nat.lt_or_ge y 257).elim (fun q => ckq256_257 y h1 q) (fun q => ckq257_259 y q h2)
theorem ckq254_259 : ∀ y, 254 ≤ y → y < 259 → raAll (chkE y) (ctA.get y) = true := fun y h1 h2 => (Nat.lt_or_ge y 256).elim (fun q => ckq254_256 y h1 q) (fun q => ckq256_259 y q h2)
theorem ckq250_259 : ∀ y, 250 ≤ y → y < 259 → raAll (chkE y) (ctA.get y) = true := fun y h1 h2 => (Nat.lt_or_ge y 254).elim (fun q => ckq250_254 y h1 q) (fun q => ckq254_259 y q h2)
theorem ckq259_260 : ∀ y, 259 ≤ y → y < 260 → raAll (chkE y) (ctA.get y) = true := fun y h1 h2 => by
  have e : y = 259 := by omega
  subst e
  exact ck259
theorem ckq260_261 : ∀ y, 260 ≤ y → y < 261 → raAll (chkE y) (ctA.get y) = true := fun y h1 h2 => by
  have e : y = 260 := by omega
  subst e
  exact ck260
theorem ckq259_261 : ∀ y, 259 ≤ y → y < 261 → raAll (chkE y) (ctA.get y) = true := fun y h1 h2 => (Nat.lt_or_ge y 260).elim (fun q => ckq259_260 y h1 q) (fun q => ckq260_261 y q h2)
theorem ckq261_262 : ∀ y, 261 ≤ y → y < 262 → raAll (chkE y) (ctA.get y) = true := fun y h1 h2 => by
  have e : y = 261 := by omega
  subst e
  exact ck261
theorem ckq262_263 : ∀ y, 262 ≤ y → y < 263 → raAll (chkE y) (ctA.get y) = true := fun y h1 h2 => by
  have e : y = 262 := by omega
  subst e
  exact ck262
theorem ckq261_263 : ∀ y, 261 ≤ y → y < 263 → raAll (chkE y) (ctA.get y) = true := fun y h1 h2 => (Nat.lt_or_ge y 262).elim (fun q => ckq261_262 y h1 q) (fun q => ckq262_263 y q h2)
theorem ckq259_263 : ∀ y, 259 ≤ y → y < 263 → raAll (chkE y) (ctA.get y) = true := fun y h1 h2 => (Nat.lt_or_ge y 261).elim (fun q => ckq259_261 y h1 q) (fun q => ckq261_263 y q h2)
theorem ckq263_264 : ∀ y, 263 ≤ y → y < 264 → raAll (chkE y) (ctA.get y) = true := fun y h1 h2 => by
  have e : y = 263 := by omega
  subst e
  exact ck263
theorem ckq264_265 : ∀ y, 264 ≤ y → y < 265 → raAll (chkE y) (ctA.get y) = true := fun y h1 h2 => by
  have e : y = 264 := by omega
  subst e
  exact ck264
theorem ckq263_265 : ∀ y, 263 ≤ y → y < 265 → raAll (chkE y) (ctA.get y) = true := fun y h1 h2 => (Nat.lt_or_ge y 264).elim (fun q => ckq263_264 y h1 q) (fun q => ckq264_265 y q h2)
theorem ckq265_266 : ∀ y, 265 ≤ y → y < 266 → raAll (chkE y) (ctA.get y) = true := fun y h1 h2 => by
  have e : y = 265 := by omega
  subst e
  exact ck265
theorem ckq266_267 : ∀ y, 266 ≤ y → y < 267 → raAll (chkE y) (ctA.get y) = true := fun y h1 h2 => by
  have e : y = 266 := by omega
  subst e
  exact ck266
theorem ckq267_268 : ∀ y, 267 ≤ y → y < 268 → raAll (chkE y) (ctA.get y) = true := fun y h1 h2 => by
  have e : y = 267 := by omega
  subst e
  exact ck267
theorem ckq266_268 : ∀ y, 266 ≤ y → y < 268 → raAll (chkE y) (ctA.get y) = true := fun y h1 h2 => (Nat.lt_or_ge y 267).elim (fun q => ckq266_267 y h1 q) (fun q => ckq267_268 y q h2)
theorem ckq265_268 : ∀ y, 265 ≤ y → y < 268 → raAll (chkE y) (ctA.get y) = true := fun y h1 h2 => (Nat.lt_or_ge y 266).elim (fun q => ckq265_266 y h1 q) (fun q => ckq266_268 y q h2)
theorem ckq263_268 : ∀ y, 263 ≤ y → y < 268 → raAll (chkE y) (ctA.get y) = true := fun y h1 h2 => (Nat.lt_or_ge y 265).elim (fun q => ckq263_265 y h1 q) (fun q => ckq265_268 y q h2)
theorem ckq259_268 : ∀ y, 259 ≤ y → y < 268 → raAll (chkE y) (ctA.get y) = true := fun y h1 h2 => (Nat.lt_or_ge y 263).elim (fun q => ckq259_263 y h1 q) (fun q => ckq263_268 y q h2)
theorem ckq250_268 : ∀ y, 250 ≤ y → y < 268 → raAll (chkE y) (ctA.get y) = true := fun y h1 h2 => (Nat.lt_or_ge y 259).elim (fun q => ckq250_259 y h1 q) (fun q => ckq259_268 y q h2)
theorem ckq268_269 : ∀ y, 268 ≤ y → y < 269 → raAll (chkE y) (ctA.get y) = true := fun y h1 h2 => by
  have e : y = 268 := by omega
  subst e
  exact ck268
theorem ckq269_270 : ∀ y, 269 ≤ y → y < 270 → raAll (chkE y) (ctA.get y) = true := fun y h1 h2 => by
  have e : y = 269 := by omega
  subst e
  exact ck269
theorem ckq268_270 : ∀ y, 268 ≤ y → y < 270 → raAll (chkE y) (ctA.get y) = true := fun y h1 h2 => (Nat.lt_or_ge y 269).elim (fun q => ckq268_269 y h1 q) (fun q => ckq269_270 y q h2)
theorem ckq270_271 : ∀ y, 270 ≤ y → y < 271 → raAll (chkE y) (ctA.get y) = true := fun y h1 h2 => by
  have e : y = 270 := by omega
  subst e
  exact ck270
theorem ckq271_272 : ∀ y, 271 ≤ y → y < 272 → raAll (chkE y) (ctA.get y) = true := fun y h1 h2 => by
  have e : y = 271 := by omega
  subst e
  exact ck271
theorem ckq270_272 : ∀ y, 270 ≤ y → y < 272 → raAll (chkE y) (ctA.get y) = true := fun y h1 h2 => (Nat.lt_or_ge y 271).elim (fun q => ckq270_271 y h1 q) (fun q => ckq271_272 y q h2)
theorem ckq268_272 : ∀ y, 268 ≤ y → y < 272 → raAll (chkE y) (ctA.get y) = true := fun y h1 h2 => (Nat.lt_or_ge y 270).elim (fun q => ckq268_270 y h1 q) (fun q => ckq270_272 y q h2)
theorem ckq272_273 : ∀ y, 272 ≤ y → y < 273 → raAll (chkE y) (ctA.get y) = true := fun y h1 h2 => by
  have e : y = 272 := by omega
  subst e
  exact ck272
theorem ckq273_274 : ∀ y, 273 ≤ y → y < 274 → raAll (chkE y) (ctA.get y) = true := fun y h1 h2 => by
  have e : y = 273 := by omega
  subst e
  exact ck273
theorem ckq272_274 : ∀ y, 272 ≤ y → y < 274 → raAll (chkE y) (ctA.get y) = true := fun y h1 h2 => (Nat.lt_or_ge y 273).elim (fun q => ckq272_273 y h1 q) (fun q => ckq273_274 y q h2)
theorem ckq274_275 : ∀ y, 274 ≤ y → y < 275 → raAll (chkE y) (ctA.get y) = true := fun y h1 h2 => by
  have e : y = 274 := by omega
  subst e
  exact ck274
theorem ckq275_276 : ∀ y, 275 ≤ y → y < 276 → raAll (chkE y) (ctA.get y) = true := fun y h1 h2 => by
  have e : y = 275 := by omega
  subst e
  exact ck275
theorem ckq276_277 : ∀ y, 276 ≤ y → y < 277 → raAll (chkE y) (ctA.get y) = true := fun y h1 h2 => by
  have e : y = 276 := by omega
  subst e
  exact ck276
theorem ckq275_277 : ∀ y, 275 ≤ y → y < 277 → raAll (chkE y) (ctA.get y) = true := fun y h1 h2 => (Nat.lt_or_ge y 276).elim (fun q => ckq275_276 y h1 q) (fun q => ckq276_277 y q h2)
theorem ckq274_277 : ∀ y, 274 ≤ y → y < 277 → raAll (chkE y) (ctA.get y) = true := fun y h1 h2 => (Nat.lt_or_ge y 275).elim (fun q => ckq274_275 y h1 q) (fun q => ckq275_277 y q h2)
theorem ckq272_277 : ∀ y, 272 ≤ y → y < 277 → raAll (chkE y) (ctA.get y) = true := fun y h1 h2 => (Nat.lt_or_ge y 274).elim (fun q => ckq272_274 y h1 q) (fun q => ckq274_277 y q h2)
theorem ckq268_277 : ∀ y, 268 ≤ y → y < 277 → raAll (chkE y) (ctA.get y) = true := fun y h1 h2 => (Nat.lt_or_ge y 272).elim (fun q => ckq268_272 y h1 q) (fun q => ckq272_277 y q h2)
theorem ckq277_278 : ∀ y, 277 ≤ y → y < 278 → raAll (chkE y) (ctA.get y) = true := fun y h1 h2 => by
  have e : y = 277 := by omega
  subst e
  exact ck277
theorem ckq278_279 : ∀ y, 278 ≤ y → y < 279 → raAll (chkE y) (ctA.get y) = true := fun y h1 h2 => by
  have e : y = 278 := by omega
  subst e
  exact ck278
theorem ckq277_279 : ∀ y, 277 ≤ y → y < 279 → raAll (chkE y) (ctA.get y) = true := fun y h1 h2 => (Nat.lt_or_ge y 278).elim (fun q => ckq277_278 y h1 q) (fun q => ckq278_279 y q h2)
theorem ckq279_280 : ∀ y, 279 ≤ y → y < 280 → raAll (chkE y) (ctA.get y) = true := fun y h1 h2 => by
  have e : y = 279 := by omega
  subst e
  exact ck279
theorem ckq280_281 : ∀ y, 280 ≤ y → y < 281 → raAll (chkE y) (ctA.get y) = true := fun y h1 h2 => by
  have e : y = 280 := by omega
  subst e
  exact ck280
theorem ckq279_281 : ∀ y, 279 ≤ y → y < 281 → raAll (chkE y) (ctA.get y) = true := fun y h1 h2 => (Nat.lt_or_ge y 280).elim (fun q => ckq279_280 y h1 q) (fun q => ckq280_281 y q h2)
theorem ckq277_281 : ∀ y, 277 ≤ y → y < 281 → raAll (chkE y) (ctA.get y) = true := fun y h1 h2 => (Nat.lt_or_ge y 279).elim (fun q => ckq277_279 y h1 q) (fun q => ckq279_281 y q h2)
theorem ckq281_282 : ∀ y, 281 ≤ y → y < 282 → raAll (chkE y) (ctA.get y) = true := fun y h1 h2 => by
  have e : y = 281 := by omega
  subst e
  exact ck281
theorem ckq282_283 : ∀ y, 282 ≤ y → y < 283 → raAll (chkE y) (ctA.get y) = true := fun y h1 h2 => by
  have e : y = 282 := by omega
  subst e
  exact ck282
theorem ckq281_283 : ∀ y, 281 ≤ y → y < 283 → raAll (chkE y) (ctA.get y) = true := fun y h1 h2 => (Nat.lt_or_ge y 282).elim (fun q => ckq281_282 y h1 q) (fun q => ckq282_283 y q h2)
theorem ckq283_284 : ∀ y, 283 ≤ y → y < 284 → raAll (chkE y) (ctA.get y) = true := fun y h1 h2 => by
  have e : y = 283 := by omega
  subst e
  exact ck283
theorem ckq284_285 : ∀ y, 284 ≤ y → y < 285 → raAll (chkE y) (ctA.get y) = true := fun y h1 h2 => by
  have e : y = 284 := by omega
  subst e
  exact ck284
theorem ckq285_286 : ∀ y, 285 ≤ y → y < 286 → raAll (chkE y) (ctA.get y) = true := fun y h1 h2 => by
  have e : y = 285 := by omega
  subst e
  exact ck285
theorem ckq284_286 : ∀ y, 284 ≤ y → y < 286 → raAll (chkE y) (ctA.get y) = true := fun y h1 h2 => (Nat.lt_or_ge y 285).elim (fun q => ckq284_285 y h1 q) (fun q => ckq285_286 y q h2)
theorem ckq283_286 : ∀ y, 283 ≤ y → y < 286 → raAll (chkE y) (ctA.get y) = true := fun y h1 h2 => (Nat.lt_or_ge y 284).elim (fun q => ckq283_284 y h1 q) (fun q => ckq284_286 y q h2)
theorem ckq281_286 : ∀ y, 281 ≤ y → y < 286 → raAll (chkE y) (ctA.get y) = true := fun y h1 h2 => (Nat.lt_or_ge y 283).elim (fun q => ckq281_283 y h1 q) (fun q => ckq283_286 y q h2)
theorem ckq277_286 : ∀ y, 277 ≤ y → y < 286 → raAll (chkE y) (ctA.get y) = true := fun y h1 h2 => (Nat.lt_or_ge y 281).elim (fun q => ckq277_281 y h1 q) (fun q => ckq281_286 y q h2)
theorem ckq268_286 : ∀ y, 268 ≤ y → y < 286 → raAll (chkE y) (ctA.get y) = true := fun y h1 h2 => (Nat.lt_or_ge y 277).elim (fun q => ckq268_277 y h1 q) (fun q => ckq277_286 y q h2)
theorem ckq250_286 : ∀ y, 250 ≤ y → y < 286 → raAll (chkE y) (ctA.get y) = true := fun y h1 h2 => (Nat.lt_or_ge y 268).elim (fun q => ckq250_268 y h1 q) (fun q => ckq268_286 y q h2)
theorem ckq214_286 : ∀ y, 214 ≤ y → y < 286 → raAll (chkE y) (ctA.get y) = true := fun y h1 h2 => (Nat.lt_or_ge y 250).elim (fun q => ckq214_250 y h1 q) (fun q => ckq250_286 y q h2)
theorem ckq143_286 : ∀ y, 143 ≤ y → y < 286 → raAll (chkE y) (ctA.get y) = true := fun y h1 h2 => (Nat.lt_or_ge y 214).elim (fun q => ckq143_214 y h1 q) (fun q => ckq214_286 y q h2)
theorem ckq0_286 : ∀ y, 0 ≤ y → y < 286 → raAll (chkE y) (ctA.get y) = true := fun y h1 h2 => (Nat.lt_or_ge y 143).elim (fun q => ckq0_143 y h1 q) (fun q => ckq143_286 y q h2)
theorem ck_all {y : Nat} (h : y < 286) : raAll (chkE y) (ctA.get y) = true := ckq0_286 y (Nat.zero_le y) h
theorem chM_all {z : Nat} (h0 : 1 ≤ z) (h : z < 286) : chkM z = true := by
  by_cases q1 : z < 33
  · exact List.all_eq_true.mp ckm1 z (List.mem_map.mpr ⟨z - 1, List.mem_range.mpr (by omega), by omega⟩)
  by_cases q33 : z < 65
  · exact List.all_eq_true.mp ckm33 z (List.mem_map.mpr ⟨z - 33, List.mem_range.mpr (by omega), by omega⟩)
  by_cases q65 : z < 97
  · exact List.all_eq_true.mp ckm65 z (List.mem_map.mpr ⟨z - 65, List.mem_range.mpr (by omega), by omega⟩)
  by_cases q97 : z < 129
  · exact List.all_eq_true.mp ckm97 z (List.mem_map.mpr ⟨z - 97, List.mem_range.mpr (by omega), by omega⟩)
  by_cases q129 : z < 161
  · exact List.all_eq_true.mp ckm129 z (List.mem_map.mpr ⟨z - 129, List.mem_range.mpr (by omega), by omega⟩)
  by_cases q161 : z < 193
  · exact List.all_eq_true.mp ckm161 z (List.mem_map.mpr ⟨z - 161, List.mem_range.mpr (by omega), by omega⟩)
  by_cases q193 : z < 225
  · exact List.all_eq_true.mp ckm193 z (List.mem_map.mpr ⟨z - 193, List.mem_range.mpr (by omega), by omega⟩)
  by_cases q225 : z < 257
  · exact List.all_eq_true.mp ckm225 z (List.mem_map.mpr ⟨z - 225, List.mem_range.mpr (by omega), by omega⟩)
  by_cases q257 : z < 286
  · exact List.all_eq_true.mp ckm257 z (List.mem_map.mpr ⟨z - 257, List.mem_range.mpr (by omega), by omega⟩)
  omega
theorem cW_all {z : Nat} (h0 : 1 ≤ z) (h : z < 286) : lw_tbl[cwT.get z]? = some (cWd z) := by
  by_cases q1 : z < 33
  · exact ckc1 z (by simp only [List.mem_cons, List.not_mem_nil, or_false]; omega)
  by_cases q33 : z < 65
  · exact ckc33 z (by simp only [List.mem_cons, List.not_mem_nil, or_false]; omega)
  by_cases q65 : z < 97
  · exact ckc65 z (by simp only [List.mem_cons, List.not_mem_nil, or_false]; omega)
  by_cases q97 : z < 129
  · exact ckc97 z (by simp only [List.mem_cons, List.not_mem_nil, or_false]; omega)
  by_cases q129 : z < 161
  · exact ckc129 z (by simp only [List.mem_cons, List.not_mem_nil, or_false]; omega)
  by_cases q161 : z < 193
  · exact ckc161 z (by simp only [List.mem_cons, List.not_mem_nil, or_false]; omega)
  by_cases q193 : z < 225
  · exact ckc193 z (by simp only [List.mem_cons, List.not_mem_nil, or_false]; omega)
  by_cases q225 : z < 257
  · exact ckc225 z (by simp only [List.mem_cons, List.not_mem_nil, or_false]; omega)
  by_cases q257 : z < 286
  · exact ckc257 z (by simp only [List.mem_cons, List.not_mem_nil, or_false]; omega)
  omega
end
