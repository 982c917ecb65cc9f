/-! an hour passes -/
theorem place1 {pl : Nat} {P : St} (r4 : P 1 0 = nI pl) (r1 : pl ≤ 8) {p : Nat} (hp : p < pl) : x_X4_hasPlace P (nI p) = some 1 := by
  unfold x_X4_hasPlace
  rw [if_neg (fun h => by have := (nI_ltI (b := 0) (by omega) (by omega)).mp h; omega), r4, if_neg (nleI hp (by omega))]
theorem goes_eq {pl ch : Nat} {D : Nat → Nat → Nat} {P M : St} (hPR : PR pl ch D P (M 15 0) (M 16 0) (M 17 0) (M 18) (M 19)) {p s : Nat} (hp : p < pl) (hs : s < 256) : ∃ g, g < 256 ∧ x_X4_goingOn P (nI p) (nI s) = some (nI g) ∧ x_X10_goesOn M (nI p) (nI s) = some (nI g) := by
  obtain ⟨r1, r2, r3, r4, r5, r6, r7, r8, r9, _⟩ := hPR
  obtain ⟨b1, b2, b3, b4, b5, b6⟩ := r8 p hp
  have hp8 : p < 8 := by omega
  have e1 := place1 r4 r1 hp
  have i1 : ¬ (nI p < 0 ∨ 8 ≤ p) := by have := nI_in (c := p) (N := 8) hp8 (by omega); rwa [cl (by omega)] at this
  have i2 : ¬ (nI (2 * p) < 0 ∨ 16 ≤ 2 * p) := by have := nI_in (c := 2 * p) (N := 16) (by omega) (by omega); rwa [cl (by omega)] at this
  have e2 : (2 : Int32) * nI p = nI (2 * p) := by simp (disch := omega) only [li_0, li_1, li_2, li_3, li_4, li_5, li_6, li_7, li_8, li_9, li_10, li_11, li_15, li_16, li_20, li_30, li_32, li_48, li_57, li_58, li_59, li_60, li_61, li_63, li_64, li_80, li_85, li_88, li_99, li_100, li_112, li_115, li_152, li_162, li_172, li_173, li_174, li_240, li_255, li_348, li_1000, li_3306, pk_mul]
  unfold x_X4_goingOn x_X10_goesOn
  rw [e1, e2, cl (show 2 * p < 2 ^ 31 by omega), if_neg i2]
  simp only [Option.bind_some, if_neg z10, cl (show p < 2 ^ 31 by omega), if_neg i1, b3, b4, xl]
  by_cases h3 : nI (D 0 p) = 3
  · rw [if_pos h3]
    exact ⟨0, by omega, rfl, rfl⟩
  · rw [if_neg h3]
    by_cases h1 : nI (D 0 p) = 1
    · rw [if_pos h1]
      exact ⟨s &&& 85, Nat.lt_of_le_of_lt Nat.and_le_left hs, by rw [← nI_and]; rfl, by rw [← nI_and]; rfl⟩
    · rw [if_neg h1]
      exact ⟨s, hs, rfl, rfl⟩
/-- the row moves up -/
theorem shift_step {N pl : Nat} {M : St} {A : Nat → Int32} (r5 : M 16 0 = nI pl) (r1 : pl ≤ 8) {k : Nat} (hk : k < 10 * pl) : x_X10_passHour_b184 N M A (nI k) = some (.inl (nI (k + 1), upd A k (if k % 10 = 9 then 0 else A (k + 1)))) := by
  have e : (10 : Int32) * nI pl = nI (10 * pl) := by simp (disch := omega) only [li_0, li_1, li_2, li_3, li_4, li_5, li_6, li_7, li_8, li_9, li_10, li_11, li_15, li_16, li_20, li_30, li_32, li_48, li_57, li_58, li_59, li_60, li_61, li_63, li_64, li_80, li_85, li_88, li_99, li_100, li_112, li_115, li_152, li_162, li_172, li_173, li_174, li_240, li_255, li_348, li_1000, li_3306, pk_mul]
  have e1 : nI k + (1 : Int32) = nI (k + 1) := by simp (disch := omega) only [li_0, li_1, li_2, li_3, li_4, li_5, li_6, li_7, li_8, li_9, li_10, li_11, li_15, li_16, li_20, li_30, li_32, li_48, li_57, li_58, li_59, li_60, li_61, li_63, li_64, li_80, li_85, li_88, li_99, li_100, li_112, li_115, li_152, li_162, li_172, li_173, li_174, li_240, li_255, li_348, li_1000, li_3306, nI_add]
  have i1 : ∀ j, j < 174 → ¬ (nI j < 0 ∨ 174 ≤ j) := fun j hj => by have := nI_in (c := j) (N := 174) hj (by omega); rwa [cl (by omega)] at this
  unfold x_X10_passHour_b184 x_X10_passHour_b184_k215
  rw [r5, e, if_neg (nleI hk (by omega)), rem10 (by omega), e1, cl (by omega), cl (by omega), if_neg (i1 k (by omega)), if_neg (i1 (k + 1) (by omega)), if_neg (i1 k (by omega))]
  by_cases h : k % 10 = 9
  · rw [if_pos h, if_pos (show nI (k % 10) = 9 by rw [h]; rfl)]
  · rw [if_neg h, if_neg (show ¬ nI (k % 10) = 9 from fun h2 => h (nI_inj (b := 9) (by omega) (by omega) h2))]
theorem shift_eq {N : Nat} (hN : 4096 ≤ N) {pl : Nat} {M : St} {A : Nat → Int32} (r5 : M 16 0 = nI pl) (r1 : pl ≤ 8) : ∃ r, lpc (fun (z : Int32 × (Nat → Int32)) => x_X10_passHour_b184 N M z.2 z.1) N ((0 : Int32), A) = some r ∧ (∀ j, 10 * pl ≤ j → r j = A j) ∧ (∀ j, j < 10 * pl → j % 10 = 9 → r j = 0) ∧ (∀ j, j < 10 * pl → ¬ j % 10 = 9 → r j = A (j + 1)) := by
  have e : (10 : Int32) * nI pl = nI (10 * pl) := by simp (disch := omega) only [li_0, li_1, li_2, li_3, li_4, li_5, li_6, li_7, li_8, li_9, li_10, li_11, li_15, li_16, li_20, li_30, li_32, li_48, li_57, li_58, li_59, li_60, li_61, li_63, li_64, li_80, li_85, li_88, li_99, li_100, li_112, li_115, li_152, li_162, li_172, li_173, li_174, li_240, li_255, li_348, li_1000, li_3306, pk_mul]
  exact lpc_run (body := fun (z : Int32 × (Nat → Int32)) => x_X10_passHour_b184 N M z.2 z.1) (I := fun k z => z.1 = nI k ∧ (∀ j, k ≤ j → z.2 j = A j) ∧ (∀ j, j < k → j % 10 = 9 → z.2 j = 0) ∧ (∀ j, j < k → ¬ j % 10 = 9 → z.2 j = A (j + 1))) (Pst := fun r => (∀ j, 10 * pl ≤ j → r j = A j) ∧ (∀ j, j < 10 * pl → j % 10 = 9 → r j = 0) ∧ (∀ j, j < 10 * pl → ¬ j % 10 = 9 → r j = A (j + 1))) (10 * pl) (fun k z hk hI => by
    obtain ⟨z1, f⟩ := z
    obtain ⟨rfl, i1, i2, i3⟩ := hI
    dsimp only at i1 i2 i3
    by_cases hk8 : k = 10 * pl
    · subst hk8
      right
      refine ⟨f, ?_, i1, i2, i3⟩
      show x_X10_passHour_b184 _ _ _ _ = _
      unfold x_X10_passHour_b184
      rw [r5, e, if_pos (nI_le (Nat.le_refl _) (by omega))]
    · left
      refine ⟨_, shift_step r5 r1 (by omega), by omega, rfl, fun j hj => ?_, fun j hj hj2 => ?_, fun j hj hj2 => ?_⟩
      · show upd f k _ j = _
        rw [pk_un (by omega)]
        exact i1 j (by omega)
      · show upd f k _ j = _
        by_cases h : j = k
        · subst h
          rw [pk_us, if_pos hj2]
        · rw [pk_un h]
          exact i2 j (by omega) hj2
      · show upd f k (if k % 10 = 9 then 0 else f (k + 1)) j = _
        by_cases h : j = k
        · subst h
          rw [pk_us, if_neg hj2]
          exact i1 _ (by omega)
        · rw [pk_un h]
          exact i3 j (by omega) hj2) (N := N) (z := ((0 : Int32), A)) (by omega) ⟨rfl, fun _ _ => rfl, fun j hj => absurd hj (Nat.not_lt_zero j), fun j hj => absurd hj (Nat.not_lt_zero j)⟩
theorem FR.mid {pl hb : Nat} {F : St} {A : Nat → Int32} (g : FR pl hb F A) : ∃ h, h ≤ hb ∧ FM pl h 0 F A := by
  obtain ⟨⟨y, a1, a2, a3, a4⟩, hb2, c1, d1, e1⟩ := g
  refine ⟨y, a1, a2, a3, fun p k hp hk => ?_, hb2, c1, d1, e1⟩
  obtain ⟨z, z1, z2, z3, z4⟩ := a4 p k hp hk
  exact ⟨z, z1, z2, fun h => by omega, fun _ => z3, z4⟩
/-- one place's turn -/
theorem turn_step {N : Nat} (hN : 4096 ≤ N) {pl ch h : Nat} {D : Nat → Nat → Nat} {P M F : St} {A : Nat → Int32} (hPR : PR pl ch D P (M 15 0) (M 16 0) (M 17 0) (M 18) (M 19)) {p : Nat} (g : FM pl h p F A) (hh : h < 2 ^ 19) (hp : p < pl) : ∃ f2 f4 f5 f6 r, x_X0_passHour_b2 N F P (nI p) = some (.inl (nI (p + 1), f2, f4, f5, f6)) ∧ x_X10_passHour_b2 N M A (nI p) = some (.inl (nI (p + 1), r)) ∧ FM pl h (p + 1) (va_up (va_up (va_up (va_up F 2 f2) 4 f4) 5 f5) 6 f6) r := by
  have r4 := hPR.2.2.2.1
  have r5 := hPR.2.2.2.2.1
  have r1 := hPR.1
  have g' := g
  obtain ⟨a1, a2, a3, a4, a5, a6, a7⟩ := g
  obtain ⟨s, s1, s2, s3, s4, s5⟩ := a3 p 0 (by omega) (by omega)
  have s4 : F 6 (10 * p + h % 10) = nI s := s4 (fun h => by omega)
  have s2 : A (10 * p) = nI s := s2
  have g1 : FM pl h (p + 1) (va_up F 6 (upd (F 6) (10 * p + h % 10) (0 : Int32))) A := by
    refine ⟨a1, a2, fun q k hq hk => ?_, a4, a5, a6, a7⟩
    obtain ⟨z, z1, z2, z3, z4, z5⟩ := a3 q k hq hk
    refine ⟨z, z1, z2, fun hqk => ?_, fun hqk => ?_, z5⟩
    · obtain ⟨rfl, hq2⟩ := hqk
      show upd (F 6) (10 * p + h % 10) 0 (10 * q + h % 10) = _
      by_cases hqp : q = p
      · subst hqp; exact pk_us
      · rw [pk_un (by omega)]
        exact z3 ⟨rfl, by omega⟩
    · show upd (F 6) (10 * p + h % 10) 0 (10 * q + (h + k) % 10) = _
      rw [pk_un (by omega)]
      exact z4 (fun h => hqk ⟨h.1, by omega⟩)
  obtain ⟨f4, f5, r, q1, q2, q3⟩ := g1.hear hN (show h < 2 ^ 20 by omega) (q := p) (by omega) s1
  obtain ⟨gg, y1, y2, y3⟩ := goes_eq hPR hp s1
  obtain ⟨f2, f4', f5', f6, r', u1, u2, u3⟩ := send_eq hN hPR (q3.of (F' := va_up (va_up (va_up F 4 f4) 5 f5) 6 (upd (F 6) (10 * p + h % 10) (0 : Int32))) rfl rfl rfl rfl rfl rfl rfl) hh (p := p) y1
  have e : nI p * (10 : Int32) + (nI h - nI h / (10 : Int32) * (10 : Int32)) = nI (10 * p + h % 10) := by
    rw [rem10 (by omega)]
    simp (disch := omega) only [li_0, li_1, li_2, li_3, li_4, li_5, li_6, li_7, li_8, li_9, li_10, li_11, li_15, li_16, li_20, li_30, li_32, li_48, li_57, li_58, li_59, li_60, li_61, li_63, li_64, li_80, li_85, li_88, li_99, li_100, li_112, li_115, li_152, li_162, li_172, li_173, li_174, li_240, li_255, li_348, li_1000, li_3306, nI_add, pk_mul]
    rw [Nat.mul_comm]
  have e1 : nI p + (1 : Int32) = nI (p + 1) := by simp (disch := omega) only [li_0, li_1, li_2, li_3, li_4, li_5, li_6, li_7, li_8, li_9, li_10, li_11, li_15, li_16, li_20, li_30, li_32, li_48, li_57, li_58, li_59, li_60, li_61, li_63, li_64, li_80, li_85, li_88, li_99, li_100, li_112, li_115, li_152, li_162, li_172, li_173, li_174, li_240, li_255, li_348, li_1000, li_3306, nI_add]
  have e2 : (10 : Int32) * nI p = nI (10 * p) := by simp (disch := omega) only [li_0, li_1, li_2, li_3, li_4, li_5, li_6, li_7, li_8, li_9, li_10, li_11, li_15, li_16, li_20, li_30, li_32, li_48, li_57, li_58, li_59, li_60, li_61, li_63, li_64, li_80, li_85, li_88, li_99, li_100, li_112, li_115, li_152, li_162, li_172, li_173, li_174, li_240, li_255, li_348, li_1000, li_3306, pk_mul]
  have i1 : ¬ (nI (10 * p + h % 10) < 0 ∨ 80 ≤ 10 * p + h % 10) := by have := nI_in (c := 10 * p + h % 10) (N := 80) (by omega) (by omega); rwa [cl (by omega)] at this
  refine ⟨f2, f4', f5', f6, r', ?_, ?_, u3.of rfl rfl rfl rfl rfl rfl rfl⟩
  · unfold x_X0_passHour_b2
    rw [r4, if_neg (nleI hp (by omega)), a1, e]
    simp only [xl, cl (show 10 * p + h % 10 < 2 ^ 31 by omega), if_neg i1, s4, q1, y2, Option.bind_some, u1, e1]
  · unfold x_X10_passHour_b2
    rw [r5, if_neg (nleI hp (by omega)), e2, ix (by omega) (by omega), cl (by omega), s2]
    simp only [xl, q2, y3, Option.bind_some, u2, e1]
/-- an hour passes in both -/
theorem FR.hour {N : Nat} (hN : 4096 ≤ N) {pl ch hb : Nat} {D : Nat → Nat → Nat} {P M F : St} {A : Nat → Int32} (hPR : PR pl ch D P (M 15 0) (M 16 0) (M 17 0) (M 18) (M 19)) (g : FR pl hb F A) (hh : hb < 2 ^ 19) : ∃ f0 f2 f4 f5 f6 r, x_X0_passHour N F P = some (f0, f2, f4, f5, f6) ∧ x_X10_passHour N M A = some r ∧ f0 = r 173 ∧ FR pl (hb + 1) (va_up (va_up (va_up (va_up (va_up F 0 (fun _ => f0)) 2 f2) 4 f4) 5 f5) 6 f6) r := by
  have r4 := hPR.2.2.2.1
  have r5 := hPR.2.2.2.2.1
  have r1 := hPR.1
  have c173 : (173 : Int32).toNatClampNeg = 173 := cl (k := 173) (by omega)
  obtain ⟨h, hh1, g⟩ := g.mid
  obtain ⟨x, x', e1, e2, e3⟩ := lpc_sim (b1 := fun (z : Int32 × (Nat → Int32) × (Nat → Int32) × (Nat → Int32) × (Nat → Int32)) => x_X0_passHour_b2 N (va_up (va_up (va_up (va_up F 2 z.2.1) 4 z.2.2.1) 5 z.2.2.2.1) 6 z.2.2.2.2) P z.1) (b2 := fun (z : Int32 × (Nat → Int32)) => x_X10_passHour_b2 N M z.2 z.1)
      (I := fun k z z' => z.1 = nI k ∧ z'.1 = nI k ∧ FM pl h k (va_up (va_up (va_up (va_up F 2 z.2.1) 4 z.2.2.1) 5 z.2.2.2.1) 6 z.2.2.2.2) z'.2) (Pst := fun z z' => FM pl h pl (va_up (va_up (va_up (va_up F 2 z.1) 4 z.2.1) 5 z.2.2.1) 6 z.2.2.2) z') pl (fun k z z' hk hI => by
      obtain ⟨z1, f2, f4, f5, f6⟩ := z
      obtain ⟨z1', A'⟩ := z'
      obtain ⟨rfl, rfl, hI⟩ := hI
      dsimp only at hI
      by_cases hk8 : k = pl
      · subst hk8
        right
        refine ⟨(f2, f4, f5, f6), A', ?_, ?_, hI⟩
        · show x_X0_passHour_b2 _ _ _ _ = _
          unfold x_X0_passHour_b2
          rw [r4, if_pos (nI_le (Nat.le_refl _) (by omega))]
          rfl
        · show x_X10_passHour_b2 _ _ _ _ = _
          unfold x_X10_passHour_b2
          rw [r5, if_pos (nI_le (Nat.le_refl _) (by omega))]
      · left
        obtain ⟨g2, g4, g5, g6, r, q1, q2, q3⟩ := turn_step hN hPR hI (by omega) (show k < pl by omega)
        exact ⟨_, _, q1, q2, by omega, rfl, rfl, q3.of rfl rfl rfl rfl rfl rfl rfl⟩) (N := N) (z := ((0 : Int32), F 2, F 4, F 5, F 6)) (z' := ((0 : Int32), A)) (by omega) ⟨rfl, rfl, g.of rfl rfl rfl rfl rfl rfl rfl⟩
  obtain ⟨f2, f4, f5, f6⟩ := x
  obtain ⟨r, q1, q2, q3, q4⟩ := shift_eq hN (A := x') r5 r1
  have hF0 : F 0 0 = nI h := g.1
  have e5 : nI h + (1 : Int32) = nI (h + 1) := by simp (disch := omega) only [li_0, li_1, li_2, li_3, li_4, li_5, li_6, li_7, li_8, li_9, li_10, li_11, li_15, li_16, li_20, li_30, li_32, li_48, li_57, li_58, li_59, li_60, li_61, li_63, li_64, li_80, li_85, li_88, li_99, li_100, li_112, li_115, li_152, li_162, li_172, li_173, li_174, li_240, li_255, li_348, li_1000, li_3306, nI_add]
  obtain ⟨a1, a2, a3, ⟨w, w1, w2, w3⟩, a5, a6, a7⟩ := e3
  refine ⟨nI (h + 1), f2, f4, f5, f6, upd r 173 (nI (h + 1)), ?_, ?_, pk_us.symm, ?_⟩
  · unfold x_X0_passHour
    rw [e1, hF0]
    simp only [Option.bind_some, xl, e5]
  · unfold x_X10_passHour
    rw [e2]
    simp only [Option.bind_some, xl, c173]
    rw [q1]
    simp only [Option.bind_some]
    rw [q2 173 (by omega), a2, e5]
  · refine ⟨⟨h + 1, by omega, rfl, pk_us, fun p k hp hk => ?_⟩, ⟨w, w1, w2, ?_⟩, fun c hc => ?_, fun c hc => ?_, ?_⟩
    · rw [pk_un (by omega)]
      show ∃ z, z < 256 ∧ r (10 * p + k) = nI z ∧ f6 (10 * p + (h + 1 + k) % 10) = nI z ∧ _
      by_cases hpl : p < pl
      · by_cases hk9 : k = 9
        · subst hk9
          obtain ⟨z, z1, z2, z3, z4, z5⟩ := a3 p 0 hp (by omega)
          refine ⟨0, by omega, q3 _ (by omega) (by omega), ?_, fun _ => rfl⟩
          rw [show (h + 1 + 9) % 10 = (h + 0) % 10 by omega]
          exact z3 ⟨rfl, hpl⟩
        · obtain ⟨z, z1, z2, z3, z4, z5⟩ := a3 p (k + 1) hp (by omega)
          refine ⟨z, z1, (q4 _ (by omega) (by omega)).trans z2, ?_, z5⟩
          rw [show h + 1 + k = h + (k + 1) by omega]
          exact z4 (fun h => by omega)
      · obtain ⟨z, z1, z2, z3, z4, z5⟩ := a3 p k hp hk
        have hz := z5 (by omega)
        subst hz
        refine ⟨0, by omega, (q2 _ (by omega)).trans z2, ?_, fun _ => rfl⟩
        by_cases hk9 : k = 9
        · subst hk9
          obtain ⟨z, y1, y2, y3, y4, y5⟩ := a3 p 0 hp (by omega)
          have hz := y5 (by omega)
          subst hz
          rw [show (h + 1 + 9) % 10 = (h + 0) % 10 by omega]
          exact y4 (fun h => by omega)
        · obtain ⟨z, y1, y2, y3, y4, y5⟩ := a3 p (k + 1) hp (by omega)
          have hz := y5 (by omega)
          subst hz
          rw [show h + 1 + k = h + (k + 1) by omega]
          exact y4 (fun h => by omega)
    · rw [pk_un (by omega), q2 _ (by omega)]; exact w3
    · rw [pk_un (by omega), q2 _ (by omega)]; exact a5 c hc
    · rw [pk_un (by omega), q2 _ (by omega)]; exact a6 c hc
    · exact a7.far (fun j _ _ => (pk_un (by omega)).trans (q2 _ (by omega)))
