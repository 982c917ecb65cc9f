/-! drift -/
theorem i64_of {k : Nat} (h : k < 2 ^ 62) : (Int64.ofInt k).toInt = k := Int64.toInt_ofInt_of_le (by omega) (by omega)
theorem nI_l6 {k : Nat} (h : k < 2 ^ 31) : (nI k).toInt64 = Int64.ofInt k := by
  apply Int64.toInt_inj.mp
  rw [Int32.toInt_toInt64, i64_of (by omega)]
  exact nI_toInt h
theorem l_mod {x : Nat} (h : x < 2 ^ 62) : (Int64.ofInt x - Int64.ofInt x / (2147483648 : Int64) * (2147483648 : Int64)).toInt32 = nI (x % 2 ^ 31) := by
  have e : (2147483648 : Int64) = Int64.ofInt 2147483648 := rfl
  rw [e, ← Int64.ofInt_tdiv (by show (-9223372036854775808 : Int) ≤ _; omega) (by show _ ≤ (9223372036854775807 : Int); omega) (by decide) (by decide), ← Int64.ofInt_mul, ← Int64.ofInt_sub, Int64.toInt32_ofInt]
  have : (x : Int) - (x : Int).tdiv 2147483648 * 2147483648 = ((x % 2 ^ 31 : Nat) : Int) := by
    rw [Int.tdiv_eq_ediv_of_nonneg (by omega)]
    omega
  rw [this]
  rfl
/-- the next seed -/
def nxt (sd : Nat) : Nat := (sd * 1103515245 + 12345) % 2 ^ 31
theorem nxt_lt (sd : Nat) : nxt sd < 2 ^ 31 := Nat.mod_lt _ (by omega)
theorem step_eq {C : St} {sd : Nat} (h : C 10 0 = nI sd) : x_X9_stepSeed C = some (nI (nxt sd)) := by
  unfold x_X9_stepSeed
  rw [h, show nI sd * (1103515245 : Int32) = nI (sd * 1103515245) from pk_mul sd 1103515245, show nI (sd * 1103515245) + (12345 : Int32) = nI (sd * 1103515245 + 12345) from nI_add _ 12345, show (2147483647 : Int32) = nI (2 ^ 31 - 1) from rfl, nI_and, Nat.and_two_pow_sub_one_eq_mod]
  rfl
theorem draw_eq {M : St} {sd : Nat} (hs : sd < 2 ^ 31) (h : M 27 0 = nI sd) {x : Int32} (hx : ¬ x = 0) : x_X10_draw M x = some (nI (nxt sd) / (65536 : Int32) - nI (nxt sd) / (65536 : Int32) / x * x, nI (nxt sd)) := by
  unfold x_X10_draw
  rw [h, nI_l6 hs, show (1103515245 : Int64) = Int64.ofInt 1103515245 from rfl, show (12345 : Int64) = Int64.ofInt 12345 from rfl, ← Int64.ofInt_mul, ← Int64.ofInt_add]
  have e : (sd : Int) * 1103515245 + 12345 = ((sd * 1103515245 + 12345 : Nat) : Int) := by omega
  rw [e, l_mod (by omega)]
  unfold xl
  dsimp only
  rw [if_neg hx]
  rfl
theorem seed_both {C M : St} {sd : Nat} (hs : sd < 2 ^ 31) (hC : C 10 0 = nI sd) (hM : M 27 0 = nI sd) : ∃ a, a < 2 ^ 31 ∧ x_X9_stepSeed C = some (nI a) ∧ ∀ x : Int32, ¬ x = 0 → x_X10_draw M x = some (nI a / (65536 : Int32) - nI a / (65536 : Int32) / x * x, nI a) := ⟨nxt sd, nxt_lt sd, step_eq hC, fun _ hx => draw_eq hs hM hx⟩
theorem pick8 {y : Nat} (hy : y < 2 ^ 31) : ∃ t, t < 8 ∧ nI y / (65536 : Int32) - nI y / (65536 : Int32) / (8 : Int32) * (8 : Int32) = nI t := by
  have e : nI y / (65536 : Int32) = nI (y / 65536) := pk_div (d := 65536) hy (by omega) (by omega)
  rw [e]
  exact ⟨y / 65536 % 8, by omega, pk_rem (d := 8) (by omega) (by omega) (by omega)⟩
/-- one hour of drift in the class and in the reference -/
theorem drift_step {N : Nat} (hN : 4096 ≤ N) {pl ch hb m k sd q : Nat} {D : Nat → Nat → Nat} {C0 B G P M F : St} {R : Nat → Option Nat} (hPR : PR pl ch D P (M 15 0) (M 16 0) (M 17 0) (M 18) (M 19)) (g : FR pl hb F (M 20)) (hhb : hb < 2 ^ 18) (hpl : 0 < pl) (hsd : sd < 2 ^ 31) (hC : C0 10 0 = nI sd) (hM : M 27 0 = nI sd) (hk : k < m) (hm : m ≤ 60) :
    ∃ s' f0 f2 f4 f5 f6 r, s' < 2 ^ 31 ∧ x_X9_drift_b25 N q C0 F B R G P (nI m) (nI k) = some (.inl (nI (k + 1), nI s', f0, f2, f4, f5, f6)) ∧ x_X10_drift_b46 N M (nI m) (nI k) = some (.inl (nI (k + 1), r, nI s')) ∧ f0 = r 173 ∧ FR pl (hb + 1) (va_up (va_up (va_up (va_up (va_up F 0 (fun _ => f0)) 2 f2) 4 f4) 5 f5) 6 f6) r := by
  have e8 : nI k + (1 : Int32) = nI (k + 1) := by simp (disch := omega) only [li_0, li_1, li_2, li_3, li_4, li_5, li_6, li_7, li_8, li_9, li_10, li_11, li_15, li_16, li_20, li_30, li_32, li_48, li_57, li_58, li_59, li_60, li_61, li_63, li_64, li_80, li_85, li_88, li_99, li_100, li_112, li_115, li_152, li_162, li_172, li_173, li_174, li_240, li_255, li_348, li_1000, li_3306, nI_add]
  have c0 : (0 : Int32).toNatClampNeg = 0 := rfl
  obtain ⟨a, n1, s1, d1⟩ := seed_both hsd hC hM
  have d1 := d1 3 (by decide)
  unfold x_X9_drift_b25 x_X10_drift_b46 x_X9_drawThird
  rw [if_neg (nleI hk (by omega)), if_neg (nleI hk (by omega)), d1, s1]
  simp only [Option.bind_some]
  by_cases h3 : nI a / (65536 : Int32) - nI a / (65536 : Int32) / (3 : Int32) * (3 : Int32) = 0
  · rw [if_pos h3, if_pos h3]
    obtain ⟨b, n2, s2, d2⟩ := seed_both (C := va_up C0 10 (fun _ => nI a)) (M := va_up M 27 (fun _ => nI a)) n1 rfl rfl
    have d2 := d2 8 (by decide)
    obtain ⟨t, t1, t2⟩ := pick8 n2
    unfold x_X9_drawSaying
    rw [d2, s2]
    simp only [Option.bind_some, t2]
    rw [s_l10 t (by omega)]
    have ht : 2 ^ t < 256 := Nat.pow_lt_pow_right (a := 2) (by omega) t1
    obtain ⟨z, z1, f6, z2, z3, z4⟩ := g.come hN (show hb < 2 ^ 20 by omega) hpl ht
    rw [z2]
    simp only [Option.bind_some, xl, c0]
    rw [z3]
    obtain ⟨g0, g2, g4, g5, g6, r, y1, y2, y3, y4⟩ := z4.hour hN (M := va_up (va_up M 20 (upd (M 20) 0 (nI z))) 27 (fun _ => nI b)) hPR (by omega)
    refine ⟨b, g0, g2, g4, g5, g6, r, n2, ?_, ?_, y3, y4.of rfl rfl rfl rfl rfl rfl rfl⟩
    · unfold x_X9_drift_b25_k51
      rw [y1, e8]
      rfl
    · unfold x_X10_drift_b46_k80
      show Option.bind (x_X10_passHour N (va_up (va_up M 20 (upd (M 20) 0 (nI z))) 27 (fun _ => nI b)) (upd (M 20) 0 (nI z))) _ = _
      rw [y2, e8]
      rfl
  · rw [if_neg h3, if_neg h3]
    obtain ⟨g0, g2, g4, g5, g6, r, y1, y2, y3, y4⟩ := g.hour hN (M := va_up M 27 (fun _ => nI a)) hPR (by omega)
    refine ⟨a, g0, g2, g4, g5, g6, r, n1, ?_, ?_, y3, y4⟩
    · unfold x_X9_drift_b25_k51
      rw [y1, e8]
      rfl
    · unfold x_X10_drift_b46_k80
      show Option.bind (x_X10_passHour N (va_up M 27 (fun _ => nI a)) (M 20)) _ = _
      rw [y2, e8]
      rfl
theorem P_drift {N n : Nat} (hN : 4096 ≤ N) (hn : n < 64) {C RF : Nat → St} {M : St} (h : Rel n C RF M) (RQ : Nat → Ad) (x1 : Int32) : ∃ (v : Int32 × Int32 × Int32 × (Nat → Int32) × (Nat → Int32) × (Nat → Int32) × (Nat → Int32) × Int32 × Int32 × Int32 × Int32 × (Nat → Int32) × (Nat → Int32) × (Nat → Int32) × (Nat → Int32) × (Nat → Int32)) (w : Int32 × (Nat → Int32) × (Nat → Int32) × Int32 × Int32), x_X9_drift N (RQ (kr C) 7) (C 0) (C 4) (C 6) (fun i => some (RQ i 7)) (RF (kr C)) (C 2) x1 = some v ∧ x_X10_drift N M x1 = some w ∧ v.1 = w.1 ∧ Rel (n + 1) (va_up (va_up (va_up C 0 (va_up (C 0) 10 (fun _ => v.2.1))) 4 (va_up (va_up (va_up (va_up (va_up (C 4) 0 (fun _ => v.2.2.1)) 2 v.2.2.2.1) 4 v.2.2.2.2.1) 5 v.2.2.2.2.2.1) 6 v.2.2.2.2.2.2.1)) 6 (va_up (va_up (C 6) 0 (fun _ => v.2.2.2.2.2.2.2.1)) 1 (fun _ => v.2.2.2.2.2.2.2.2.1))) (va_up RF (kr C) (va_up (va_up (va_up (va_up (va_up (va_up (va_up (RF (kr C)) 0 (fun _ => v.2.2.2.2.2.2.2.2.2.1)) 1 (fun _ => v.2.2.2.2.2.2.2.2.2.2.1)) 2 v.2.2.2.2.2.2.2.2.2.2.2.1) 3 v.2.2.2.2.2.2.2.2.2.2.2.2.1) 4 v.2.2.2.2.2.2.2.2.2.2.2.2.2.1) 5 v.2.2.2.2.2.2.2.2.2.2.2.2.2.2.1) 6 v.2.2.2.2.2.2.2.2.2.2.2.2.2.2.2)) (va_up (va_up (va_up (va_up M 20 w.2.1) 22 w.2.2.1) 23 (fun _ => w.2.2.2.1)) 27 (fun _ => w.2.2.2.2)) := by
  have hs := h.2.2.1
  have hrel := h
  have c173 : (173 : Int32).toNatClampNeg = 173 := cl (k := 173) (by omega)
  obtain ⟨h1, h2, h3, h4, pl, ch, D, hPR, h6, h7, h8⟩ := h
  unfold kr x_X9_drift x_X10_drift
  rcases hours_in (C0 := C 0) hn hPR h6 x1 with ⟨m, m0, m1, rfl, hpl, e1, e2, e3, e4⟩ | ⟨e1, e2, e3⟩ | ⟨e1, e2⟩
  · obtain ⟨b0, b1, w, q1, q2, q3⟩ := push_note hN RQ h7 h6
    rw [e1, e2, q1, q2, c173]
    simp only [Option.bind_some, if_pos, if_neg z10, if_neg e3, if_pos e4]
    obtain ⟨x, x', u1, u2, u3, u4, u5⟩ := lpc_sim
      (b1 := fun (z : Int32 × Int32 × Int32 × (Nat → Int32) × (Nat → Int32) × (Nat → Int32) × (Nat → Int32)) => x_X9_drift_b25 N (RQ (C 6 1 0).toNatClampNeg 7) (va_up (C 0) 10 (fun _ => z.2.1)) (va_up (va_up (va_up (va_up (va_up (C 4) 0 (fun _ => z.2.2.1)) 2 z.2.2.2.1) 4 z.2.2.2.2.1) 5 z.2.2.2.2.2.1) 6 z.2.2.2.2.2.2) (va_up (va_up (C 6) 0 (fun _ => b0)) 1 (fun _ => b1)) (fun i => some (RQ i 7)) (cpF (RF (C 6 1 0).toNatClampNeg) (C 4)) (C 2) (nI m) z.1)
      (b2 := fun (z : Int32 × (Nat → Int32) × Int32) => x_X10_drift_b46 N (va_up (va_up (va_up (va_up M 20 z.2.1) 22 w.1) 23 (fun _ => w.2)) 27 (fun _ => z.2.2)) (nI m) z.1)
      (I := fun k z z' => z.1 = nI k ∧ z'.1 = nI k ∧ RSd z.2.1 z'.2.2 ∧ z.2.2.1 = z'.2.1 173 ∧ FR pl (60 * n + k) (va_up (va_up (va_up (va_up (va_up (C 4) 0 (fun _ => z.2.2.1)) 2 z.2.2.2.1) 4 z.2.2.2.2.1) 5 z.2.2.2.2.2.1) 6 z.2.2.2.2.2.2) z'.2.1)
      (Pst := fun z z' => z.2.1 = z'.1 173 ∧ RSd z.1 z'.2 ∧ FR pl (60 * n + m) (va_up (va_up (va_up (va_up (va_up (C 4) 0 (fun _ => z.2.1)) 2 z.2.2.1) 4 z.2.2.2.1) 5 z.2.2.2.2.1) 6 z.2.2.2.2.2) z'.1) m (fun k z z' hk hI => by
        obtain ⟨z1, zs, z2, f2, f4, f5, f6⟩ := z
        obtain ⟨z1', A', zs'⟩ := z'
        obtain ⟨rfl, rfl, hI2, hI1, hI⟩ := hI
        dsimp only at hI1 hI hI2
        by_cases hk8 : k = m
        · subst hk8
          right
          refine ⟨(zs, z2, f2, f4, f5, f6), (A', zs'), ?_, ?_, hI1, hI2, hI⟩
          · show x_X9_drift_b25 _ _ _ _ _ _ _ _ _ _ = _
            unfold x_X9_drift_b25
            rw [if_pos (nI_le (Nat.le_refl _) (by omega))]
            rfl
          · show x_X10_drift_b46 _ _ _ _ = _
            unfold x_X10_drift_b46
            rw [if_pos (nI_le (Nat.le_refl _) (by omega))]
            rfl
        · left
          obtain ⟨sd, sd1, rfl, rfl⟩ := hI2
          obtain ⟨s', g0, g2, g4, g5, g6, r, y0, y1, y2, y3, y4⟩ := drift_step hN (M := va_up (va_up (va_up (va_up M 20 A') 22 w.1) 23 (fun _ => w.2)) 27 (fun _ => nI sd)) (C0 := va_up (C 0) 10 (fun _ => nI sd)) (B := va_up (va_up (C 6) 0 (fun _ => b0)) 1 (fun _ => b1)) (G := cpF (RF (C 6 1 0).toNatClampNeg) (C 4)) (R := fun i => some (RQ i 7)) (q := RQ (C 6 1 0).toNatClampNeg 7) hPR hI (by omega) hpl sd1 rfl rfl (show k < m by omega) m1
          exact ⟨_, _, y1, y2, by omega, rfl, rfl, ⟨s', y0, rfl, rfl⟩, y3, y4.of rfl rfl rfl rfl rfl rfl rfl⟩) (N := N) (z := ((0 : Int32), C 0 10 0, C 4 0 0, C 4 2, C 4 4, C 4 5, C 4 6)) (z' := ((0 : Int32), M 20, M 27 0)) (by omega) ⟨rfl, rfl, hs, by obtain ⟨y, y1, y2, y3, _⟩ := h6.1; exact y2.trans y3.symm, h6.of rfl rfl rfl rfl rfl rfl rfl⟩
    obtain ⟨xs, x0, f2, f4, f5, f6⟩ := x
    rw [u1, u2]
    simp only [Option.bind_some]
    refine ⟨_, _, rfl, rfl, u3, ?_⟩
    refine Rel_push (F := va_up (va_up (va_up (va_up (va_up (C 4) 0 (fun _ => x0)) 2 f2) 4 f4) 5 f5) 6 f6) hn hrel u4 (fun pl' hq hf hpa => ?_) rfl rfl rfl rfl rfl rfl rfl rfl rfl rfl rfl rfl rfl rfl rfl rfl rfl rfl rfl rfl rfl rfl rfl rfl rfl rfl rfl rfl rfl rfl
    obtain ⟨ch', D', hq⟩ := hq
    have e := PR_pl hPR hq
    subst e
    exact ⟨q3, u5.mono (by omega)⟩
  · rw [e1, e2]
    simp only [Option.bind_some, if_neg z10, if_pos e3]
    exact ⟨_, _, rfl, rfl, rfl, Rel_refp hn hrel _ rfl rfl rfl rfl rfl rfl rfl rfl rfl rfl rfl rfl rfl rfl rfl rfl rfl rfl rfl rfl rfl rfl rfl rfl rfl rfl rfl rfl rfl rfl rfl rfl rfl rfl rfl rfl⟩
  · rw [e1, e2]
    exact ⟨_, _, rfl, rfl, rfl, Rel_refp hn hrel _ rfl rfl rfl rfl rfl rfl rfl rfl rfl rfl rfl rfl rfl rfl rfl rfl rfl rfl rfl rfl rfl rfl rfl rfl rfl rfl rfl rfl rfl rfl rfl rfl rfl rfl rfl rfl⟩
