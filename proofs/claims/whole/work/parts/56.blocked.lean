/-! the first that is blocked -/
def lowb (z : Nat) : Nat := ((List.range 10).find? (fun k => z.testBit k)).getD 0
theorem ntz_eq : ∀ z, z < 1024 → ¬ z = 0 → x_J6_numberOfTrailingZeros_0f7a4 (nI z) = some (nI (lowb z)) ∧ lowb z < 10 ∧ z.testBit (lowb z) = true ∧ ∀ j, j < lowb z → z.testBit j = false := by decide +kernel
theorem fresh_lt2 {s z n : Nat} (hs : s < 2 ^ n) : fresh s z < 2 ^ n := Nat.xor_lt_two_pow hs (Nat.lt_of_le_of_lt Nat.and_le_left hs)
theorem low_find {N : Nat} (hN : 4096 ≤ N) {ch y : Nat} {M : St} {x1 x2 : Int32} (hch : ch ≤ 10) (m17 : M 17 0 = nI ch) (hy : y < 2 ^ ch) : (y = 0 ∧ lpc (fun (z : Int32) => x_X10_firstBlocked_b77 N M x1 x2 (nI y) z) N (0 : Int32) = some (.inr ())) ∨ (¬ y = 0 ∧ ∃ k, x_J6_numberOfTrailingZeros_0f7a4 (nI y) = some (nI k) ∧ lpc (fun (z : Int32) => x_X10_firstBlocked_b77 N M x1 x2 (nI y) z) N (0 : Int32) = some (.inl (nI k))) := by
  have hy2 : y < 1024 := Nat.lt_of_lt_of_le hy ((show 2 ^ ch ≤ 2 ^ 10 from Nat.pow_le_pow_right (by omega) hch))
  have hhas : ∀ k, k < 10 → x_X10_has (nI y) (nI k) = some (if y.testBit k = true then 1 else 0) := fun k hk => by rw [has_10, has_eq (by omega) (by omega)]
  by_cases h0 : y = 0
  · subst h0
    left
    refine ⟨rfl, ?_⟩
    obtain ⟨x, e1, e2⟩ := lpc_run (body := fun (z : Int32) => x_X10_firstBlocked_b77 N M x1 x2 (nI 0) z) (I := fun k z => z = nI k) (Pst := fun x => x = .inr ()) ch (fun k z hk hI => by
      subst hI
      unfold x_X10_firstBlocked_b77
      by_cases hk8 : k = ch
      · subst hk8
        right
        rw [m17, if_pos (nI_le (Nat.le_refl _) (by omega))]
        exact ⟨_, rfl, rfl⟩
      · left
        rw [m17, if_neg (nleI (show k < ch by omega) (by omega)), hhas k (by omega), if_neg (by rw [Nat.zero_testBit]; decide)]
        refine ⟨nI (k + 1), ?_, by omega, rfl⟩
        simp (disch := omega) only [Option.bind_some, if_pos, if_true, li_0, li_1, li_2, li_3, li_4, li_5, li_6, li_7, li_8, li_9, li_10, li_11, li_15, li_16, li_20, li_30, li_32, li_48, li_57, li_58, li_59, li_60, li_61, li_63, li_64, li_80, li_85, li_88, li_99, li_100, li_112, li_115, li_152, li_162, li_172, li_173, li_174, li_240, li_255, li_348, li_1000, li_3306, nI_add]) (N := N) (z := (0 : Int32)) (by omega) rfl
    rw [e1, e2]
  · right
    obtain ⟨l1, l2, l3, l4⟩ := ntz_eq y hy2 h0
    refine ⟨h0, lowb y, l1, ?_⟩
    have hl : lowb y < ch := by
      refine Nat.lt_of_not_le (fun h => ?_)
      rw [Nat.testBit_lt_two_pow (Nat.lt_of_lt_of_le hy (Nat.pow_le_pow_right (by omega) h))] at l3
      exact absurd l3 (by decide)
    obtain ⟨x, e1, e2⟩ := lpc_run (body := fun (z : Int32) => x_X10_firstBlocked_b77 N M x1 x2 (nI y) z) (I := fun k z => z = nI k) (Pst := fun x => x = .inl (nI (lowb y))) (lowb y) (fun k z hk hI => by
      subst hI
      unfold x_X10_firstBlocked_b77
      rw [m17, if_neg (nleI (show k < ch by omega) (by omega)), hhas k (by omega)]
      by_cases hk8 : k = lowb y
      · subst hk8
        right
        rw [if_pos l3]
        exact ⟨_, rfl, rfl⟩
      · left
        rw [if_neg (by rw [l4 k (by omega)]; decide)]
        refine ⟨nI (k + 1), ?_, by omega, rfl⟩
        simp (disch := omega) only [Option.bind_some, if_pos, if_true, li_0, li_1, li_2, li_3, li_4, li_5, li_6, li_7, li_8, li_9, li_10, li_11, li_15, li_16, li_20, li_30, li_32, li_48, li_57, li_58, li_59, li_60, li_61, li_63, li_64, li_80, li_85, li_88, li_99, li_100, li_112, li_115, li_152, li_162, li_172, li_173, li_174, li_240, li_255, li_348, li_1000, li_3306, nI_add]) (N := N) (z := (0 : Int32)) (by omega) rfl
    rw [e1, e2]
theorem P_firstBlocked {N n : Nat} (hN : 4096 ≤ N) (hn : n < 64) {C RF : Nat → St} {M : St} (h : Rel n C RF M) : ∃ (v : Int32 × Int32 × Int32 × (Nat → Int32) × (Nat → Int32) × (Nat → Int32) × (Nat → Int32) × (Nat → Int32)) (w : Int32 × (Nat → Int32)), x_X9_firstBlocked N (C 0) (C 4) (C 2) (C 5) = some v ∧ x_X10_firstBlocked N M = some w ∧ v.1 = w.1 ∧ Rel (n + 1) (va_up C 5 (va_up (va_up (va_up (va_up (va_up (va_up (va_up (C 5) 0 (fun _ => v.2.1)) 1 (fun _ => v.2.2.1)) 2 v.2.2.2.1) 3 v.2.2.2.2.1) 4 v.2.2.2.2.2.1) 5 v.2.2.2.2.2.2.1) 6 v.2.2.2.2.2.2.2)) RF (va_up M 21 w.2) := by
  have hrel := h
  obtain ⟨h1, h2, h3, h4, pl, ch, D, hPR, h6, h7, h8⟩ := h
  have r1 := hPR.1
  have hch := hPR.2.1
  have p0 := hPR.2.2.1
  have r4 := hPR.2.2.2.1
  have r5 := hPR.2.2.2.2.1
  have r6 := hPR.2.2.2.2.2.1
  have r7 := hPR.2.2.2.2.2.2.1
  have c0 : (0 : Int32).toNatClampNeg = 0 := rfl
  unfold x_X9_firstBlocked x_X10_firstBlocked x_X0_copyFrom
  by_cases hpl : pl = 0
  · rw [if_pos (show C 2 1 0 = 0 by rw [r4, hpl]; rfl), if_pos (show M 16 0 = 0 by rw [r5, hpl]; rfl)]
    exact ⟨_, _, rfl, rfl, rfl, Rel_trial hn hrel _ _⟩
  · have b1 : ¬ nI pl = 0 := fun h => hpl (nI_inj (b := 0) (by omega) (by omega) h)
    obtain ⟨B, k1, k2⟩ := copy_eq hN (na := 174) (nb := 174) (fr := 0) (to := 0) (a := M 20) (b := M 21) (by omega) (by omega) (by omega) (by omega)
    have k1 : x_X10_copy N 174 174 (M 20) (M 21) (0 : Int32) (0 : Int32) = some B := k1
    have g1 : FR pl (60 * n) (cpF (C 5) (C 4)) (M 20) := h6.cp (G := C 5)
    have g2 : FR pl (60 * n) (cpF (C 5) (C 4)) B := g1.row (fun j hj => by rw [k2, if_pos (by omega), show 0 + (j - 0) = j by omega])
    obtain ⟨b, y1, y2, y3, _⟩ := blocked_eq hN hch (M := M) (P := C 2) g1.2.2.1 p0 r6 r7
    rw [r4, r5, if_neg b1, if_neg b1, y3, k1]
    simp only [Option.bind_some, xl]
    rw [y2]
    simp only [Option.bind_some]
    obtain ⟨x, x', u1, u2, u3⟩ := lpc_sim
      (b1 := fun (z : Int32 × Int32 × (Nat → Int32) × (Nat → Int32) × (Nat → Int32) × (Nat → Int32)) => x_X9_firstBlocked_b37 N (C 0) (C 4) (C 2) (va_up (va_up (va_up (va_up (va_up (va_up (va_up (C 5) 0 (fun _ => z.2.1)) 1 (fun _ => C 4 1 0)) 2 z.2.2.1) 3 (va_cpy (C 4 3) (C 5 3) 0 0 10)) 4 z.2.2.2.1) 5 z.2.2.2.2.1) 6 z.2.2.2.2.2) (nI b) z.1)
      (b2 := fun (z : Int32 × (Nat → Int32)) => x_X10_firstBlocked_b33 N (va_up M 21 z.2) (nI b) z.1)
      (I := fun k q q' => q.1 = nI k ∧ q'.1 = nI k ∧ FR pl (60 * n + k) (va_up (va_up (va_up (va_up (va_up (va_up (va_up (C 5) 0 (fun _ => q.2.1)) 1 (fun _ => C 4 1 0)) 2 q.2.2.1) 3 (va_cpy (C 4 3) (C 5 3) 0 0 10)) 4 q.2.2.2.1) 5 q.2.2.2.2.1) 6 q.2.2.2.2.2) q'.2)
      (Pst := fun q q' => (∃ y k v r, q = .inl (y, v) ∧ q' = .inl (nI k, r) ∧ x_J6_numberOfTrailingZeros_0f7a4 y = some (nI k)) ∨ (∃ v r, q = .inr v ∧ q' = .inr r)) 99 (fun k q q' hk hI => by
        obtain ⟨y1, y2, h2, h4, h5, h6⟩ := q
        obtain ⟨y1', A'⟩ := q'
        obtain ⟨rfl, rfl, hI⟩ := hI
        dsimp only at hI
        dsimp only
        have e8 : nI k + (1 : Int32) = nI (k + 1) := by simp (disch := omega) only [li_0, li_1, li_2, li_3, li_4, li_5, li_6, li_7, li_8, li_9, li_10, li_11, li_15, li_16, li_20, li_30, li_32, li_48, li_57, li_58, li_59, li_60, li_61, li_63, li_64, li_80, li_85, li_88, li_99, li_100, li_112, li_115, li_152, li_162, li_172, li_173, li_174, li_240, li_255, li_348, li_1000, li_3306, nI_add]
        unfold x_X9_firstBlocked_b37 x_X10_firstBlocked_b33
        by_cases hk8 : k = 99
        · subst hk8
          right
          rw [if_pos (show (99 : Int32) ≤ nI 99 by decide), if_pos (show (99 : Int32) ≤ nI 99 by decide)]
          exact ⟨_, _, rfl, rfl, Or.inr ⟨_, _, rfl, rfl⟩⟩
        · have n9 : ¬ (99 : Int32) ≤ nI k := nleI (a := 99) (by omega) (by omega)
          obtain ⟨z, z1, f6', z2, z3, z4⟩ := hI.come hN (by omega) (by omega) (show 1 < 256 by omega)
          have z2 : x_X0_comeToSpring (va_up (va_up (va_up (va_up (va_up (va_up (va_up (C 5) 0 (fun _ => y2)) 1 (fun _ => C 4 1 0)) 2 h2) 3 (va_cpy (C 4 3) (C 5 3) 0 0 10)) 4 h4) 5 h5) 6 h6) (1 : Int32) = some (nI z, f6') := z2
          have z3 : (va_up M 21 A') 21 0 ||| (1 : Int32) = nI z := z3
          obtain ⟨g0, g2, g4, g5, g6, r, w1, w2, w3, w4⟩ := z4.hour hN (M := va_up (va_up M 21 A') 21 (upd A' 0 (nI z))) hPR (by omega)
          have w2 : x_X10_passHour N (va_up (va_up M 21 A') 21 (upd ((va_up M 21 A') 21) 0 (nI z))) (upd ((va_up M 21 A') 21) 0 (nI z)) = some r := w2
          have w5 : FR pl (60 * n + k + 1) (va_up (va_up (va_up (va_up (va_up (va_up (va_up (va_up (va_up (va_up (va_up (va_up (C 5) 0 (fun _ => y2)) 1 (fun _ => C 4 1 0)) 2 h2) 3 (va_cpy (C 4 3) (C 5 3) 0 0 10)) 4 h4) 5 h5) 6 h6) 0 (fun _ => g0)) 2 g2) 4 g4) 5 g5) 6 g6) r := w4.of rfl rfl rfl rfl rfl rfl rfl
          obtain ⟨bb, a1, a2, a3, _⟩ := blocked_eq hN hch (M := va_up (va_up M 21 A') 21 r) (P := C 2) w5.2.2.1 p0 r6 r7
          rw [if_neg n9, if_neg n9, z2, c0, z3]
          simp only [Option.bind_some, xl]
          rw [w1, w2]
          simp only [Option.bind_some]
          rw [a2, a3]
          simp only [Option.bind_some]
          rw [fresh_eq]
          rcases low_find hN (M := va_up (va_up M 21 A') 21 r) (x1 := nI b) (x2 := nI k) hch r7 (fresh_lt2 (z := b) a1) with ⟨l0, l1⟩ | ⟨l0, kk, l1, l2⟩
          · left
            rw [l1, l0, if_pos (show nI 0 = 0 from rfl), e8]
            exact ⟨_, _, rfl, rfl, by omega, rfl, rfl, w5.of rfl rfl rfl rfl rfl rfl rfl⟩
          · right
            have hb2 : fresh bb b < 2 ^ 10 := Nat.lt_of_lt_of_le (fresh_lt2 a1) (Nat.pow_le_pow_right (by omega) hch)
            rw [l2, if_neg (show ¬ nI (fresh bb b) = 0 from fun h => l0 (nI_inj (b := 0) (by omega) (by omega) h))]
            exact ⟨_, _, rfl, rfl, Or.inl ⟨_, kk, _, _, rfl, rfl, l1⟩⟩) (N := N) (z := ((0 : Int32), C 4 0 0, va_cpy (C 4 2) (C 5 2) 0 0 10, va_cpy (C 4 4) (C 5 4) 0 0 8, va_cpy (C 4 5) (C 5 5) 0 0 64, va_cpy (C 4 6) (C 5 6) 0 0 80)) (z' := ((0 : Int32), B)) (by omega) ⟨rfl, rfl, g2.of rfl rfl rfl rfl rfl rfl rfl⟩
    rw [u1, u2]
    simp only [Option.bind_some]
    rcases u3 with ⟨y, kk, v, r, rfl, rfl, l1⟩ | ⟨v, r, rfl, rfl⟩
    · simp only [Sum.elim_inl]
      rw [l1]
      exact ⟨_, _, rfl, rfl, rfl, Rel_trial hn hrel _ _⟩
    · exact ⟨_, _, rfl, rfl, rfl, Rel_trial hn hrel _ _⟩
