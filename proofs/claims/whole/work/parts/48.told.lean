/-! told, channel, empty -/
def sumN (f : Nat → Nat) : Nat → Nat
  | 0 => 0
  | k + 1 => sumN f k + f k
theorem blk10 (x : Nat → Nat) (h : Nat) : x ((h + 0) % 10) + x ((h + 1) % 10) + x ((h + 2) % 10) + x ((h + 3) % 10) + x ((h + 4) % 10) + x ((h + 5) % 10) + x ((h + 6) % 10) + x ((h + 7) % 10) + x ((h + 8) % 10) + x ((h + 9) % 10) = x 0 + x 1 + x 2 + x 3 + x 4 + x 5 + x 6 + x 7 + x 8 + x 9 := by
  have e : ∀ k, (h + k) % 10 = (h % 10 + k) % 10 := fun k => by omega
  rw [e 0, e 1, e 2, e 3, e 4, e 5, e 6, e 7, e 8, e 9]
  have hr : h % 10 < 10 := Nat.mod_lt _ (by omega)
  generalize h % 10 = r at hr
  rcases (show r = 0 ∨ r = 1 ∨ r = 2 ∨ r = 3 ∨ r = 4 ∨ r = 5 ∨ r = 6 ∨ r = 7 ∨ r = 8 ∨ r = 9 by omega) with rfl | rfl | rfl | rfl | rfl | rfl | rfl | rfl | rfl | rfl <;> simp only [Nat.reduceAdd, Nat.reduceMod] <;> omega
theorem sum_rot {f a : Nat → Nat} {h : Nat} (hf : ∀ p k, p < 8 → k < 10 → f (10 * p + (h + k) % 10) = a (10 * p + k)) : ∀ p, p ≤ 8 → sumN f (10 * p) = sumN a (10 * p) := by
  intro p
  induction p with
  | zero => intro _; rfl
  | succ p ih =>
    intro hp
    have e := blk10 (fun i => f (10 * p + i)) h
    have g := fun k hk => hf p k (by omega) hk
    rw [g 0 (by omega), g 1 (by omega), g 2 (by omega), g 3 (by omega), g 4 (by omega), g 5 (by omega), g 6 (by omega), g 7 (by omega), g 8 (by omega), g 9 (by omega)] at e
    rw [show 10 * (p + 1) = 10 * p + 10 by omega]
    simp only [sumN]
    have ih := ih (by omega)
    simp only [Nat.add_zero] at e
    omega
theorem due_at {pl hb : Nat} {F : St} {A : Nat → Int32} (h : FR pl hb F A) : ∃ (zf za : Nat → Nat), (∀ i, i < 80 → zf i < 256 ∧ F 6 i = nI (zf i)) ∧ (∀ i, i < 80 → za i < 256 ∧ A i = nI (za i)) ∧ ∃ hh, ∀ p k, p < 8 → k < 10 → zf (10 * p + (hh + k) % 10) = za (10 * p + k) := by
  obtain ⟨⟨y, a1, a2, a3, a4⟩, _⟩ := h
  refine ⟨fun i => (F 6 i).toNatClampNeg, fun i => (A i).toNatClampNeg, fun i hi => ?_, fun i hi => ?_, y, fun p k hp hk => ?_⟩
  · obtain ⟨z, z1, z2, z3, z4⟩ := a4 (i / 10) ((i % 10 + 10 - y % 10) % 10) (by omega) (by omega)
    rw [show 10 * (i / 10) + (y + (i % 10 + 10 - y % 10) % 10) % 10 = i by omega] at z3
    show (F 6 i).toNatClampNeg < 256 ∧ F 6 i = nI (F 6 i).toNatClampNeg
    rw [z3, cl (by omega)]
    exact ⟨z1, rfl⟩
  · obtain ⟨z, z1, z2, z3, z4⟩ := a4 (i / 10) (i % 10) (by omega) (by omega)
    rw [show 10 * (i / 10) + i % 10 = i by omega] at z2
    show (A i).toNatClampNeg < 256 ∧ A i = nI (A i).toNatClampNeg
    rw [z2, cl (by omega)]
    exact ⟨z1, rfl⟩
  · obtain ⟨z, z1, z2, z3, z4⟩ := a4 p k hp hk
    show (F 6 _).toNatClampNeg = (A _).toNatClampNeg
    rw [z2, z3]
theorem sum_le (f : Nat → Nat) (hf : ∀ i, f i ≤ 11) : ∀ k, sumN f k ≤ 11 * k := by
  intro k
  induction k with
  | zero => exact Nat.le_refl _
  | succ k ih => have := hf k; simp only [sumN]; omega
theorem onway {N : Nat} (hN : 4096 ≤ N) {pl hb : Nat} {F : St} {M : St} (h : FR pl hb F (M 20)) : ∃ r, x_X0_yetToCome N F = some r ∧ x_X10_onTheWay N M = some r := by
  obtain ⟨zf, za, hf, ha, hh, hr⟩ := due_at h
  have es : sumN (fun i => bc (zf i)) 80 = sumN (fun i => bc (za i)) 80 := sum_rot (f := fun i => bc (zf i)) (a := fun i => bc (za i)) (h := hh) (fun p k hp hk => by show bc _ = bc _; rw [hr p k hp hk]) 8 (by omega)
  have b1 := sum_le (fun i => bc (zf i)) (fun i => bcN_le _ 11)
  have b2 := sum_le (fun i => bc (za i)) (fun i => bcN_le _ 11)
  refine ⟨nI (sumN (fun i => bc (zf i)) 80), ?_, ?_⟩
  · unfold x_X0_yetToCome
    obtain ⟨x, e1, e2⟩ := lpc_run (body := fun (z : Int32 × Int32) => x_X0_yetToCome_b4 N F z.1 z.2) (I := fun k z => z = (nI (sumN (fun i => bc (zf i)) k), nI k)) (Pst := fun x => x = nI (sumN (fun i => bc (zf i)) 80)) 80 (fun k z hk hI => by
      subst hI
      unfold x_X0_yetToCome_b4
      by_cases hk8 : k = 80
      · subst hk8
        right
        exact ⟨_, by rw [if_pos (show (80 : Int32) ≤ nI 80 from nI_le (a := 80) (Nat.le_refl _) (by omega))], rfl⟩
      · left
        obtain ⟨q1, q2⟩ := hf k (by omega)
        simp (disch := omega) only [li_0, li_1, li_2, li_3, li_4, li_5, li_6, li_7, li_8, li_9, li_10, li_11, li_15, li_16, li_20, li_30, li_32, li_48, li_57, li_58, li_59, li_60, li_61, li_63, li_64, li_80, li_85, li_88, li_99, li_100, li_112, li_115, li_152, li_162, li_172, li_173, li_174, li_240, li_255, li_348, li_1000, li_3306, nI_add, nI_ltI, nI_leI, nI_clamp, if_neg, q2, bitCount_eq (zf k) (by omega), Option.bind_some, xl]
        exact ⟨_, rfl, by omega, rfl⟩) (N := N) (z := ((0 : Int32), (0 : Int32))) (by omega) rfl
    rw [e1, e2]
    rfl
  · rw [es]
    unfold x_X10_onTheWay
    obtain ⟨x, e1, e2⟩ := lpc_run (body := fun (z : Int32 × Int32) => x_X10_onTheWay_b4 N M z.1 z.2) (I := fun k z => z = (nI (sumN (fun i => bc (za i)) k), nI k)) (Pst := fun x => x = nI (sumN (fun i => bc (za i)) 80)) 80 (fun k z hk hI => by
      subst hI
      unfold x_X10_onTheWay_b4
      by_cases hk8 : k = 80
      · subst hk8
        right
        exact ⟨_, by rw [if_pos (show (80 : Int32) ≤ nI 80 from nI_le (a := 80) (Nat.le_refl _) (by omega))], rfl⟩
      · left
        obtain ⟨q1, q2⟩ := ha k (by omega)
        simp (disch := omega) only [li_0, li_1, li_2, li_3, li_4, li_5, li_6, li_7, li_8, li_9, li_10, li_11, li_15, li_16, li_20, li_30, li_32, li_48, li_57, li_58, li_59, li_60, li_61, li_63, li_64, li_80, li_85, li_88, li_99, li_100, li_112, li_115, li_152, li_162, li_172, li_173, li_174, li_240, li_255, li_348, li_1000, li_3306, nI_add, nI_ltI, nI_leI, nI_clamp, if_neg, q2, bits_eq hN (show za k < 2 ^ 31 by omega), Option.bind_some, xl]
        exact ⟨_, rfl, by omega, rfl⟩) (N := N) (z := ((0 : Int32), (0 : Int32))) (by omega) rfl
    rw [e1, e2]
    rfl
theorem blocked_eq {N : Nat} (hN : 4096 ≤ N) {ch : Nat} (hch : ch ≤ 10) {F P M : St} {A : Nat → Int32} (hF : ∀ c, c < 10 → F 2 c = A (152 + c)) (p0 : P 0 0 = M 15 0) (p2 : P 2 0 = nI ch) (m17 : M 17 0 = nI ch) : ∃ z, z < 2 ^ ch ∧ x_X0_blocked N F P = some (nI z) ∧ x_X10_blockedIn N M A = some (nI z) ∧ ∀ c, c < ch → (z.testBit c = true ↔ ¬ F 2 c < M 15 0) := by
  unfold x_X0_blocked x_X10_blockedIn
  obtain ⟨x, x', e1, e2, z, e3, e4, e5, e6⟩ := lpc_sim (b1 := fun (z : Int32 × Int32) => x_X0_blocked_b4 N F P z.1 z.2) (b2 := fun (z : Int32 × Int32) => x_X10_blockedIn_b4 N M A z.1 z.2) (I := fun k q q' => ∃ z, z < 2 ^ k ∧ q = (nI z, nI k) ∧ q' = (nI z, nI k) ∧ ∀ c, c < k → (z.testBit c = true ↔ ¬ F 2 c < M 15 0)) (Pst := fun x x' => ∃ z, z < 2 ^ ch ∧ x = nI z ∧ x' = nI z ∧ ∀ c, c < ch → (z.testBit c = true ↔ ¬ F 2 c < M 15 0)) ch (fun k q q' hk hI => by
    obtain ⟨z, hz, rfl, rfl, hb⟩ := hI
    unfold x_X0_blocked_b4 x_X10_blockedIn_b4 x_X10_blockedIn_b4_k34
    simp only [p2, m17]
    by_cases hkc : k = ch
    · subst hkc
      right
      exact ⟨_, _, by rw [if_pos (nI_le (Nat.le_refl _) (by omega))], by rw [if_pos (nI_le (Nat.le_refl _) (by omega))], z, hz, rfl, rfl, hb⟩
    · left
      have hs := hF k (by omega)
      simp (disch := omega) only [li_0, li_1, li_2, li_3, li_4, li_5, li_6, li_7, li_8, li_9, li_10, li_11, li_15, li_16, li_20, li_30, li_32, li_48, li_57, li_58, li_59, li_60, li_61, li_63, li_64, li_80, li_85, li_88, li_99, li_100, li_112, li_115, li_152, li_162, li_172, li_173, li_174, li_240, li_255, li_348, li_1000, li_3306, nI_add, nI_ltI, nI_leI, nI_clamp, if_neg, xl, hs, p0]
      have hp := hb
      by_cases hsl : A (152 + k) < M 15 0
      · rw [if_pos hsl, if_pos hsl, nI_or, Nat.or_zero]
        refine ⟨_, _, rfl, rfl, by omega, z, Nat.lt_trans hz (Nat.pow_lt_pow_right (by omega) (by omega)), rfl, rfl, fun c hc => ?_⟩
        by_cases hck : c = k
        · subst hck
          rw [Nat.testBit_lt_two_pow hz, hs]
          simp [hsl]
        · exact hb c (by omega)
      · rw [if_neg hsl, if_neg hsl]
        have hsh : (nI 1 <<< (nI k &&& 31)) = nI (2 ^ k) := s_l10 k (by omega)
        rw [hsh, nI_or]
        refine ⟨_, _, rfl, rfl, by omega, z ||| 2 ^ k, Nat.or_lt_two_pow (Nat.lt_trans hz (Nat.pow_lt_pow_right (by omega) (by omega))) (Nat.pow_lt_pow_right (by omega) (by omega)), rfl, rfl, fun c hc => ?_⟩
        rw [Nat.testBit_or, Nat.testBit_two_pow]
        by_cases hck : c = k
        · subst hck
          rw [hs]
          simp [hsl]
        · have := hb c (by omega)
          rw [← this]
          simp [Ne.symm hck]) (N := N) (z := ((0 : Int32), (0 : Int32))) (z' := ((0 : Int32), (0 : Int32))) (by omega) ⟨0, by decide, rfl, rfl, fun c hc => absurd hc (Nat.not_lt_zero c)⟩
  rw [e1, e2]
  exact ⟨z, e3, by rw [e4]; rfl, by rw [e5]; rfl, e6⟩
theorem P_told {N n : Nat} (hN : 4096 ≤ N) (hn : n < 64) {C RF : Nat → St} {M : St} (h : Rel n C RF M) (x1 : Int32) : ∃ (v : Int32) (w : Int32), x_X9_told N (C 0) (C 4) (C 7) (C 6) (C 2) (C 1) x1 = some v ∧ x_X10_told N M x1 = some w ∧ v = w ∧ Rel (n + 1) C RF M := by
  have hR := Rel_step hn h
  obtain ⟨h1, h2, h3, ⟨len, t1, t2, t3, t4⟩, pl, ch, D, hPR, h6, ⟨cnt, nx, a1, a2, a3, a4, a5, a6⟩, h8, h9, ⟨d, d1, d2, d3, d4⟩, ⟨e, e1, e2, e3, e4⟩⟩ := h
  obtain ⟨z, z1, z2, z3, z4⟩ := blocked_eq (N := N) hN hPR.2.1 h6.2.2.1 hPR.2.2.1 hPR.2.2.2.2.2.1 hPR.2.2.2.2.2.2.1
  obtain ⟨r, r1, r2⟩ := onway hN h6
  obtain ⟨y, y1, y2, y3, y4⟩ := h6.1
  obtain ⟨s, s1, s2, s3⟩ := h6.2.1
  have c173 : (173 : Int32).toNatClampNeg = 173 := cl (k := 173) (by omega)
  have c172 : (172 : Int32).toNatClampNeg = 172 := cl (k := 172) (by omega)
  unfold x_X9_told x_X10_told
  by_cases i0 : x1 = 0
  · rw [if_pos i0, if_pos i0]
    exact ⟨_, _, rfl, rfl, hPR.2.2.1, hR⟩
  rw [if_neg i0, if_neg i0]
  by_cases i1 : x1 = 1
  · rw [if_pos i1, if_pos i1]
    exact ⟨_, _, rfl, rfl, hPR.2.2.2.1.trans hPR.2.2.2.2.1.symm, hR⟩
  rw [if_neg i1, if_neg i1]
  by_cases i2 : x1 = 2
  · rw [if_pos i2, if_pos i2]
    exact ⟨_, _, rfl, rfl, hPR.2.2.2.2.2.1.trans hPR.2.2.2.2.2.2.1.symm, hR⟩
  rw [if_neg i2, if_neg i2]
  by_cases i3 : x1 = 3
  · rw [if_pos i3, if_pos i3]
    exact ⟨_, _, rfl, rfl, t2.trans t3.symm, hR⟩
  rw [if_neg i3, if_neg i3]
  by_cases i4 : x1 = 4
  · rw [if_pos i4, if_pos i4, c173]
    exact ⟨_, _, rfl, rfl, y2.trans y3.symm, hR⟩
  rw [if_neg i4, if_neg i4]
  by_cases i5 : x1 = 5
  · rw [if_pos i5, if_pos i5, c172]
    exact ⟨_, _, rfl, rfl, s2.trans s3.symm, hR⟩
  rw [if_neg i5, if_neg i5]
  by_cases i6 : x1 = 6
  · rw [if_pos i6, if_pos i6, z2, z3]
    exact ⟨_, _, rfl, rfl, rfl, hR⟩
  rw [if_neg i6, if_neg i6]
  by_cases i7 : x1 = 7
  · rw [if_pos i7, if_pos i7, r1, r2]
    exact ⟨_, _, rfl, rfl, rfl, hR⟩
  rw [if_neg i7, if_neg i7]
  by_cases i8 : x1 = 8
  · rw [if_pos i8, if_pos i8]
    exact ⟨_, _, rfl, rfl, d2.trans d3.symm, hR⟩
  rw [if_neg i8, if_neg i8]
  by_cases i9 : x1 = 9
  · rw [if_pos i9, if_pos i9]
    exact ⟨_, _, rfl, rfl, e2.trans e3.symm, hR⟩
  rw [if_neg i9, if_neg i9]
  by_cases i10 : x1 = 10
  · rw [if_pos i10, if_pos i10]
    exact ⟨_, _, rfl, rfl, a3.trans a5.symm, hR⟩
  rw [if_neg i10, if_neg i10]
  exact ⟨_, _, rfl, rfl, rfl, hR⟩
theorem P_channel {N n : Nat} (hN : 4096 ≤ N) (hn : n < 64) {C RF : Nat → St} {M : St} (h : Rel n C RF M) (x1 : Int32) (x2 : Int32) : ∃ (v : Int32) (w : Int32), x_X9_channel (C 0) (C 4) (C 2) x1 x2 = some v ∧ x_X10_channel M x1 x2 = some w ∧ v = w ∧ Rel (n + 1) C RF M := by
  have hR := Rel_step hn h
  obtain ⟨h1, h2, h3, h4, pl, ch, D, hPR, h6, h7⟩ := h
  have hch := hPR.2.1
  unfold x_X9_channel x_X10_channel
  rcases hp_chan hPR.2.2.2.2.2.1 hPR.2.2.2.2.2.2.1 hPR.2.1 x1 with ⟨j, hj, rfl, e1, e2⟩ | ⟨e1, e2⟩
  · rw [e1, e2]
    obtain ⟨a1, a2, a3, a4, a5, a6, a7, a8, a9, a10, a11⟩ := hPR.2.2.2.2.2.2.2.2.1 j hj
    obtain ⟨z, z1, z2, z3⟩ := h6.2.1
    have c172 : (172 : Int32).toNatClampNeg = 172 := cl (k := 172) (by omega)
    rcases in_cases x2 0 5 (by omega) (by omega) with ⟨k, k0, k1, rfl, hk⟩ | ⟨hk, hk2⟩
    · have hk : x_X10_in (nI k) 0 5 = some 1 := hk
      rw [hk]
      rcases (show k = 0 ∨ k = 1 ∨ k = 2 ∨ k = 3 ∨ k = 4 ∨ k = 5 by omega) with rfl | rfl | rfl | rfl | rfl | rfl
      · simp (disch := omega) only [li_0, li_1, li_2, li_3, li_4, li_5, li_6, li_7, li_8, li_9, li_10, li_11, li_15, li_16, li_20, li_30, li_32, li_48, li_57, li_58, li_59, li_60, li_61, li_63, li_64, li_80, li_85, li_88, li_99, li_100, li_112, li_115, li_152, li_162, li_172, li_173, li_174, li_240, li_255, li_348, li_1000, li_3306, nI_add, pk_mul, nI_ltI, nI_leI, nI_eq, nI_clamp, if_pos, if_neg, Option.bind_some]
        exact ⟨_, _, rfl, rfl, by rw [a6, Nat.add_zero, a7], hR⟩
      · simp (disch := omega) only [li_0, li_1, li_2, li_3, li_4, li_5, li_6, li_7, li_8, li_9, li_10, li_11, li_15, li_16, li_20, li_30, li_32, li_48, li_57, li_58, li_59, li_60, li_61, li_63, li_64, li_80, li_85, li_88, li_99, li_100, li_112, li_115, li_152, li_162, li_172, li_173, li_174, li_240, li_255, li_348, li_1000, li_3306, nI_add, pk_mul, nI_ltI, nI_leI, nI_eq, nI_clamp, if_pos, if_neg, Option.bind_some]
        exact ⟨_, _, rfl, rfl, by rw [a8, a9], hR⟩
      · simp (disch := omega) only [li_0, li_1, li_2, li_3, li_4, li_5, li_6, li_7, li_8, li_9, li_10, li_11, li_15, li_16, li_20, li_30, li_32, li_48, li_57, li_58, li_59, li_60, li_61, li_63, li_64, li_80, li_85, li_88, li_99, li_100, li_112, li_115, li_152, li_162, li_172, li_173, li_174, li_240, li_255, li_348, li_1000, li_3306, nI_add, pk_mul, nI_ltI, nI_leI, nI_eq, nI_clamp, if_pos, if_neg, Option.bind_some]
        exact ⟨_, _, rfl, rfl, by rw [a10, a11], hR⟩
      · simp (disch := omega) only [li_0, li_1, li_2, li_3, li_4, li_5, li_6, li_7, li_8, li_9, li_10, li_11, li_15, li_16, li_20, li_30, li_32, li_48, li_57, li_58, li_59, li_60, li_61, li_63, li_64, li_80, li_85, li_88, li_99, li_100, li_112, li_115, li_152, li_162, li_172, li_173, li_174, li_240, li_255, li_348, li_1000, li_3306, nI_add, pk_mul, nI_ltI, nI_leI, nI_eq, nI_clamp, if_pos, if_neg, Option.bind_some]
        exact ⟨_, _, rfl, rfl, h6.2.2.1 j (by omega), hR⟩
      · have hb := has_eq (z := z) (k := j) (by omega) (by omega)
        have hb3 : z.testBit j = decide (z / 2 ^ j % 2 = 1) := Nat.testBit_eq_decide_div_mod_eq
        have q9 : ∀ {a b c d e f : Option Int32}, (if (nI 4 : Int32) = 0 then a else if (nI 4 : Int32) = 1 then b else if (nI 4 : Int32) = 2 then c else if (nI 4 : Int32) = 3 then d else if (nI 4 : Int32) = 4 then e else f) = e := by intros; rfl
        simp only [Option.bind_some, if_neg z10]
        rw [q9, z2, hb, hb3, if_pos (show (3 : Int32) ≤ nI 4 by decide), if_neg (show ¬ nI 4 = 3 by decide), if_pos (show nI 4 = 4 from rfl), c172, z3, shr1 (by omega) (by omega)]
        rcases Nat.mod_two_eq_zero_or_one (z / 2 ^ j) with h | h
        · rw [h]
          exact ⟨_, _, rfl, rfl, rfl, hR⟩
        · rw [h]
          exact ⟨_, _, rfl, rfl, rfl, hR⟩
      · simp (disch := omega) only [li_0, li_1, li_2, li_3, li_4, li_5, li_6, li_7, li_8, li_9, li_10, li_11, li_15, li_16, li_20, li_30, li_32, li_48, li_57, li_58, li_59, li_60, li_61, li_63, li_64, li_80, li_85, li_88, li_99, li_100, li_112, li_115, li_152, li_162, li_172, li_173, li_174, li_240, li_255, li_348, li_1000, li_3306, nI_add, pk_mul, nI_ltI, nI_leI, nI_eq, nI_clamp, if_pos, if_neg, Option.bind_some]
        exact ⟨_, _, rfl, rfl, (h6.2.2.2.1 j (by omega)).1, hR⟩
    · have hk2 : x_X10_in x2 0 5 = some 0 := hk2
      have n0 : ¬ x2 = 0 := fun h => by subst h; revert hk; decide
      have n1 : ¬ x2 = 1 := fun h => by subst h; revert hk; decide
      have n2 : ¬ x2 = 2 := fun h => by subst h; revert hk; decide
      have n3 : ¬ x2 = 3 := fun h => by subst h; revert hk; decide
      have n4 : ¬ x2 = 4 := fun h => by subst h; revert hk; decide
      have n5 : ¬ x2 = 5 := fun h => by subst h; revert hk; decide
      rw [hk2]
      simp only [Option.bind_some, if_neg z10, if_neg n0, if_neg n1, if_neg n2, if_neg n3, if_neg n4, if_neg n5]
      exact ⟨_, _, rfl, rfl, rfl, hR⟩
  · rw [e1, e2]
    exact ⟨_, _, rfl, rfl, rfl, hR⟩
