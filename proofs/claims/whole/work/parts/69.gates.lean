/-! gates and cut in the reference -/
theorem and_0 {a b : Nat} : a &&& b = 0 ↔ ∀ q, b.testBit q = true → ¬ a.testBit q = true := by
  constructor
  · intro h q hb ha
    have : (a &&& b).testBit q = true := by rw [Nat.testBit_and, ha, hb]; rfl
    rw [h, Nat.zero_testBit] at this
    exact Bool.false_ne_true this
  · intro h
    refine Nat.eq_of_testBit_eq (fun q => ?_)
    rw [Nat.testBit_and, Nat.zero_testBit]
    cases hb : b.testBit q
    · rw [Bool.and_false]
    · cases ha : a.testBit q
      · rfl
      · exact absurd ha (h q hb)
theorem and_p {a p : Nat} : a &&& 2 ^ p = 2 ^ p ↔ a.testBit p = true := by
  constructor
  · intro h
    have : (a &&& 2 ^ p).testBit p = true := by rw [h]; exact Nat.testBit_two_pow_self
    rw [Nat.testBit_and, Bool.and_eq_true] at this
    exact this.1
  · intro h
    refine Nat.eq_of_testBit_eq (fun q => ?_)
    rw [Nat.testBit_and, Nat.testBit_two_pow]
    by_cases hq : p = q
    · subst hq; rw [h]; rfl
    · rw [decide_eq_false hq, Bool.and_false]
theorem fit_gates {D : Nat → Nat → Nat} {z t : Nat} {cr : Nat → Nat} {ch o p k pl : Nat} (hp : p < pl) (hpl : pl ≤ 8) (ho : o < 2 ^ pl) : fitS D z t cr ch o (2 ^ p) k ↔ (¬ gg D (k ||| z) t cr ch p = 0 ∧ ∀ q, q < pl → o.testBit q = true → gg D (k ||| z) t cr ch q = 0) := by
  unfold fitS
  rw [and_0, and_p, hset_bit]
  constructor
  · rintro ⟨h1, h2⟩
    refine ⟨h2.2, fun q hq ho2 => Classical.byContradiction (fun h3 => h1 q ho2 ((hset_bit _ 8 q).mpr ⟨by omega, h3⟩))⟩
  · rintro ⟨h1, h2⟩
    refine ⟨fun q hq hh => ?_, by omega, h1⟩
    obtain ⟨a1, a2⟩ := (hset_bit _ 8 q).mp hh
    refine a2 (h2 q (Nat.lt_of_not_le (fun hle => ?_)) hq)
    rw [Nat.testBit_lt_two_pow (Nat.lt_of_lt_of_le ho (Nat.pow_le_pow_right (by omega) hle))] at hq
    exact Bool.false_ne_true hq
theorem fit_cut {D : Nat → Nat → Nat} {z t : Nat} {cr : Nat → Nat} {ch p k : Nat} (hp : p < 8) : fitS D z t cr ch (2 ^ p) 0 k ↔ gg D (k ||| z) t cr ch p = 0 := by
  unfold fitS
  rw [and_0]
  constructor
  · rintro ⟨h1, _⟩
    exact Classical.byContradiction (fun h3 => h1 p Nat.testBit_two_pow_self ((hset_bit _ 8 p).mpr ⟨hp, h3⟩))
  · intro h
    refine ⟨fun q hq hh => ?_, Nat.and_zero _⟩
    obtain ⟨a1, a2⟩ := (hset_bit _ 8 q).mp hh
    rw [Nat.testBit_two_pow, decide_eq_true_eq] at hq
    subst hq
    exact a2 h
theorem gates_all {N pl o : Nat} (hN : 4096 ≤ N) {M : St} {x1 x2 x4 x5 : Int32} {hv : Nat → Nat} (r1 : pl ≤ 8) (r5 : M 16 0 = nI pl) (h33 : ∀ q, q < pl → M 33 q = nI (hv q) ∧ hv q ≤ 99) (ho : o < 2 ^ 31) {s0 : Int32} (hs : s0 = 0 ∨ s0 = 1) : ∃ r, lpc (fun (q : Int32 × Int32) => x_X10_gates_b90 N M x1 x2 (nI o) x4 x5 q.1 q.2) N (s0, (0 : Int32)) = some r ∧ ((r = 1 ∧ (s0 = 1 ∧ ∀ q, q < pl → o.testBit q = true → hv q = 99)) ∨ (r = 0 ∧ ¬ (s0 = 1 ∧ ∀ q, q < pl → o.testBit q = true → hv q = 99))) := by
  obtain ⟨x, u1, u2⟩ := lpc_run (body := fun (q : Int32 × Int32) => x_X10_gates_b90 N M x1 x2 (nI o) x4 x5 q.1 q.2) (I := fun k z => z.2 = nI k ∧ ((z.1 = 1 ∧ (s0 = 1 ∧ ∀ q, q < k → o.testBit q = true → hv q = 99)) ∨ (z.1 = 0 ∧ ¬ (s0 = 1 ∧ ∀ q, q < k → o.testBit q = true → hv q = 99)))) (Pst := fun r => ((r = 1 ∧ (s0 = 1 ∧ ∀ q, q < pl → o.testBit q = true → hv q = 99)) ∨ (r = 0 ∧ ¬ (s0 = 1 ∧ ∀ q, q < pl → o.testBit q = true → hv q = 99)))) pl (fun k z hk hI => by
    obtain ⟨z1, z2⟩ := z
    obtain ⟨rfl, h2⟩ := hI
    dsimp only at h2
    show (∃ z', x_X10_gates_b90 N M x1 x2 (nI o) x4 x5 z1 (nI k) = _ ∧ _) ∨ (∃ x, x_X10_gates_b90 N M x1 x2 (nI o) x4 x5 z1 (nI k) = _ ∧ _)
    unfold x_X10_gates_b90
    rw [r5]
    by_cases hk8 : k = pl
    · subst hk8
      right
      rw [if_pos (nI_le (Nat.le_refl _) (by omega))]
      exact ⟨_, rfl, h2⟩
    · left
      have e8 : nI k + (1 : Int32) = nI (k + 1) := by simp (disch := omega) only [li_0, li_1, li_2, li_3, li_4, li_5, li_6, li_7, li_8, li_9, li_10, li_11, li_15, li_16, li_20, li_30, li_32, li_48, li_57, li_58, li_59, li_60, li_61, li_63, li_64, li_80, li_85, li_88, li_99, li_100, li_112, li_115, li_152, li_162, li_172, li_173, li_174, li_240, li_255, li_348, li_1000, li_3306, nI_add]
      have i2 : ¬ (nI k < 0 ∨ 8 ≤ k) := by have := nI_in (c := k) (N := 8) (by omega) (by omega); rwa [cl (by omega)] at this
      obtain ⟨b1, b2⟩ := h33 k (by omega)
      rw [if_neg (nleI (show k < pl by omega) (by omega)), has_10, has_eq ho (by omega), cl (by omega), if_neg i2, b1]
      unfold x_X10_gates_b90_k129 x_X10_gates_b90_k125 x_X10_gates_b90_k130
      rw [e8]
      rcases h2 with ⟨g1, g2, g3⟩ | ⟨g1, g2⟩
      · rw [g1, if_neg z10, Option.bind_some]
        by_cases hb : o.testBit k = true
        · rw [if_pos hb, if_neg z10]
          by_cases h99 : hv k = 99
          · rw [if_pos (show nI (hv k) = 99 by rw [h99]; rfl)]
            refine ⟨_, rfl, by omega, rfl, Or.inl ⟨rfl, g2, fun q hq hq2 => ?_⟩⟩
            by_cases hqk : q = k
            · rw [hqk]; exact h99
            · exact g3 q (by omega) hq2
          · rw [if_neg (show ¬ nI (hv k) = 99 from fun h => h99 (nI_inj (b := 99) (by omega) (by omega) h))]
            exact ⟨_, rfl, by omega, rfl, Or.inr ⟨rfl, fun h => h99 (h.2 k (by omega) hb)⟩⟩
        · rw [if_neg hb, if_pos rfl]
          refine ⟨_, rfl, by omega, rfl, Or.inl ⟨rfl, g2, fun q hq hq2 => ?_⟩⟩
          by_cases hqk : q = k
          · rw [hqk] at hq2; exact absurd hq2 hb
          · exact g3 q (by omega) hq2
      · rw [g1, if_pos rfl]
        exact ⟨_, rfl, by omega, rfl, Or.inr ⟨rfl, fun h => g2 ⟨h.1, fun q hq => h.2 q (by omega)⟩⟩⟩) (N := N) (z := (s0, (0 : Int32))) (by omega) ⟨rfl, by
      rcases hs with hs | hs
      · exact Or.inr ⟨hs, fun h => by rw [hs] at h; exact absurd h.1 z01⟩
      · exact Or.inl ⟨hs, hs, fun q hq => absurd hq (Nat.not_lt_zero q)⟩⟩
  exact ⟨x, u1, u2⟩
theorem rgates_step {N pl ch z t k p o : Nat} (hN : 4096 ≤ N) {D : Nat → Nat → Nat} {P M : St} {cr : Nat → Nat} {B : Int32} (hPR : PR pl ch D P (M 15 0) (M 16 0) (M 17 0) (M 18) (M 19)) (hp : p < pl) (hz : z < 1024) (hF : M 20 172 = nI z) (ht : t < 8) (hcx : CX pl ch M (-1) (-1) cr) (ho : o < 2 ^ pl) (hk : k < 2 ^ ch) (hB : BG (fitS D z t cr ch o (2 ^ p)) k B) : ∃ B' w w', x_X10_gates_b40 N M (nI p) (nI t) (nI o) B (nI k) = some (.inl (B', nI (k + 1), w, w')) ∧ BG (fitS D z t cr ch o (2 ^ p)) (k + 1) B' := by
  have r1 := hPR.1
  have r2 := hPR.2.1
  have r5 := hPR.2.2.2.2.1
  have r7 := hPR.2.2.2.2.2.2.1
  have hpd := hPR.pd
  have h2c : 2 ^ ch ≤ 1024 := Nat.pow_le_pow_right (n := 2) (by omega) r2
  have h2p : 2 ^ pl ≤ 256 := Nat.pow_le_pow_right (n := 2) (by omega) r1
  have e8 : nI k + (1 : Int32) = nI (k + 1) := by simp (disch := omega) only [li_0, li_1, li_2, li_3, li_4, li_5, li_6, li_7, li_8, li_9, li_10, li_11, li_15, li_16, li_20, li_30, li_32, li_48, li_57, li_58, li_59, li_60, li_61, li_63, li_64, li_80, li_85, li_88, li_99, li_100, li_112, li_115, li_152, li_162, li_172, li_173, li_174, li_240, li_255, li_348, li_1000, li_3306, nI_add]
  have i2 : ¬ (nI p < 0 ∨ 8 ≤ p) := by have := nI_in (c := p) (N := 8) (by omega) (by omega); rwa [cl (by omega)] at this
  have c172 : (172 : Int32).toNatClampNeg = 172 := rfl
  have hb10 := bc_10 (show k < 1024 by omega)
  obtain ⟨w, w', y1, y2⟩ := layComes_val hN (M := M) (z := z ||| k) hPR (Nat.or_lt_two_pow (n := 10) hz (by omega)) ht hcx
  have hg := fun q => gg_lt hpd (k ||| z) t cr q
  have y2' : ∀ q, q < pl → w' q = nI (fh (gg D (k ||| z) t cr ch q)) := fun q hq => by
    rw [y2 q hq, Nat.or_comm z k]
    rfl
  unfold x_X10_gates_b40
  rw [r7, s_l10 ch (by omega), if_neg (nleI hk (by omega)), c172, hF, nI_or, y1]
  simp only [Option.bind_some]
  rw [cl (by omega), if_neg i2, y2' p hp]
  have fin : ∀ s0 : Int32, ((s0 = 0 ∧ gg D (k ||| z) t cr ch p = 0) ∨ (s0 = 1 ∧ ¬ gg D (k ||| z) t cr ch p = 0)) → ∃ B' v v', x_X10_gates_b40_k85 N (va_up (va_up M 32 w) 33 w') (nI p) (nI t) (nI o) B (nI k) s0 = some (.inl (B', nI (k + 1), v, v')) ∧ BG (fitS D z t cr ch o (2 ^ p)) (k + 1) B' := fun s0 hs0 => by
    obtain ⟨r, u1, u2⟩ := gates_all hN (M := va_up (va_up M 32 w) 33 w') (x1 := nI p) (x2 := nI t) (x4 := B) (x5 := nI k) (o := o) (hv := fun q => fh (gg D (k ||| z) t cr ch q)) r1 r5 (fun q hq => ⟨y2' q hq, fh_le (hg q)⟩) (by omega) (s0 := s0) (hs0.elim (fun h => Or.inl h.1) (fun h => Or.inr h.1))
    have hfit : (s0 = 1 ∧ ∀ q, q < pl → o.testBit q = true → fh (gg D (k ||| z) t cr ch q) = 99) ↔ fitS D z t cr ch o (2 ^ p) k := by
      rw [fit_gates hp r1 ho]
      constructor
      · rintro ⟨h1, h2⟩
        refine ⟨?_, fun q hq hq2 => (fh_99 (hg q)).mp (h2 q hq hq2)⟩
        rcases hs0 with ⟨h3, _⟩ | ⟨_, h3⟩
        · rw [h3] at h1; exact absurd h1 z01
        · exact h3
      · rintro ⟨h1, h2⟩
        refine ⟨?_, fun q hq hq2 => (fh_99 (hg q)).mpr (h2 q hq hq2)⟩
        rcases hs0 with ⟨_, h3⟩ | ⟨h3, _⟩
        · exact absurd h3 h1
        · exact h3
    rw [hfit] at u2
    unfold x_X10_gates_b40_k85
    rw [u1]
    simp only [Option.bind_some]
    unfold x_X10_gates_b40_k166 x_X10_gates_b40_k161 x_X10_gates_b40_k168
    rw [e8]
    rcases u2 with ⟨g1, g2⟩ | ⟨g1, g2⟩
    · rw [g1, if_neg z10]
      rcases hB with ⟨h1, h2⟩ | ⟨b, h1, h5, h2, h3, h4⟩
      · rw [h1, if_pos m1_lt]
        exact ⟨_, _, _, rfl, (show BG _ k B from Or.inl ⟨h1, h2⟩).take (by omega) g2 (fun b b1 b2 => by rw [h1] at b1; exact absurd b1.symm (nI_ne_m1 (by omega)))⟩
      · rw [h2, if_neg (nI_pos (by omega)), bits_eq hN (show k < 2 ^ 31 by omega), bits_eq hN (show b < 2 ^ 31 by omega)]
        simp only [Option.bind_some]
        have hbb := bc_10 h5
        have hB' : BG (fitS D z t cr ch o (2 ^ p)) k (nI b) := Or.inr ⟨b, h1, h5, rfl, h3, h4⟩
        by_cases hle : bc b ≤ bc k
        · rw [if_pos (nI_le hle (by omega))]
          exact ⟨_, _, _, rfl, hB'.keep (fun _ => ⟨b, h5, rfl, hle⟩)⟩
        · rw [if_neg (nleI (by omega) (by omega))]
          exact ⟨_, _, _, rfl, hB'.take (by omega) g2 (fun b' b1 b2 => by
            have : b = b' := nI_inj (by omega) (by omega) b1
            subst this; omega)⟩
    · rw [g1, if_pos rfl]
      exact ⟨_, _, _, rfl, hB.keep (fun h => absurd h g2)⟩
  by_cases h99 : gg D (k ||| z) t cr ch p = 0
  · rw [if_pos (show nI (fh (gg D (k ||| z) t cr ch p)) = 99 by rw [(fh_99 (hg p)).mpr h99]; rfl)]
    exact fin 0 (Or.inl ⟨rfl, h99⟩)
  · rw [if_neg (show ¬ nI (fh (gg D (k ||| z) t cr ch p)) = 99 from fun h => h99 ((fh_99 (hg p)).mp (nI_inj (b := 99) (by have := fh_le (hg p); omega) (by omega) h)))]
    exact fin 1 (Or.inr ⟨rfl, h99⟩)
theorem rcut_step {N pl ch z t k p : Nat} (hN : 4096 ≤ N) {D : Nat → Nat → Nat} {P M : St} {cr : Nat → Nat} {B x3 : Int32} (hPR : PR pl ch D P (M 15 0) (M 16 0) (M 17 0) (M 18) (M 19)) (hp : p < pl) (hz : z < 1024) (hF : M 20 172 = nI z) (ht : t < 8) (hcx : CX pl ch M (-1) (-1) cr) (hk : k < 2 ^ ch) (hB : BG (fitS D z t cr ch (2 ^ p) 0) k B) : ∃ B' w w', x_X10_cut_b36 N M (nI p) (nI t) x3 B (nI k) = some (.inl (B', nI (k + 1), w, w')) ∧ BG (fitS D z t cr ch (2 ^ p) 0) (k + 1) B' := by
  have r1 := hPR.1
  have r2 := hPR.2.1
  have r5 := hPR.2.2.2.2.1
  have r7 := hPR.2.2.2.2.2.2.1
  have hpd := hPR.pd
  have h2c : 2 ^ ch ≤ 1024 := Nat.pow_le_pow_right (n := 2) (by omega) r2
  have e8 : nI k + (1 : Int32) = nI (k + 1) := by simp (disch := omega) only [li_0, li_1, li_2, li_3, li_4, li_5, li_6, li_7, li_8, li_9, li_10, li_11, li_15, li_16, li_20, li_30, li_32, li_48, li_57, li_58, li_59, li_60, li_61, li_63, li_64, li_80, li_85, li_88, li_99, li_100, li_112, li_115, li_152, li_162, li_172, li_173, li_174, li_240, li_255, li_348, li_1000, li_3306, nI_add]
  have i2 : ¬ (nI p < 0 ∨ 8 ≤ p) := by have := nI_in (c := p) (N := 8) (by omega) (by omega); rwa [cl (by omega)] at this
  have c172 : (172 : Int32).toNatClampNeg = 172 := rfl
  have hb10 := bc_10 (show k < 1024 by omega)
  obtain ⟨w, w', y1, y2⟩ := layComes_val hN (M := M) (z := z ||| k) hPR (Nat.or_lt_two_pow (n := 10) hz (by omega)) ht hcx
  have hg := fun q => gg_lt hpd (k ||| z) t cr q
  have y2' : ∀ q, q < pl → w' q = nI (fh (gg D (k ||| z) t cr ch q)) := fun q hq => by
    rw [y2 q hq, Nat.or_comm z k]
    rfl
  have hfit := fit_cut (D := D) (z := z) (t := t) (cr := cr) (ch := ch) (p := p) (k := k) (by omega)
  unfold x_X10_cut_b36
  rw [r7, s_l10 ch (by omega), if_neg (nleI hk (by omega)), c172, hF, nI_or, y1]
  simp only [Option.bind_some]
  rw [cl (by omega), if_neg i2, y2' p hp]
  unfold x_X10_cut_b36_k94 x_X10_cut_b36_k99 x_X10_cut_b36_k101
  rw [e8]
  by_cases h99 : gg D (k ||| z) t cr ch p = 0
  · rw [if_pos (show nI (fh (gg D (k ||| z) t cr ch p)) = 99 by rw [(fh_99 (hg p)).mpr h99]; rfl)]
    have g2 := hfit.mpr h99
    rcases hB with ⟨h1, h2⟩ | ⟨b, h1, h5, h2, h3, h4⟩
    · rw [h1, if_pos m1_lt]
      exact ⟨_, _, _, rfl, (show BG _ k B from Or.inl ⟨h1, h2⟩).take (by omega) g2 (fun b b1 b2 => by rw [h1] at b1; exact absurd b1.symm (nI_ne_m1 (by omega)))⟩
    · rw [h2, if_neg (nI_pos (by omega)), bits_eq hN (show k < 2 ^ 31 by omega), bits_eq hN (show b < 2 ^ 31 by omega)]
      simp only [Option.bind_some]
      have hbb := bc_10 h5
      have hB' : BG (fitS D z t cr ch (2 ^ p) 0) k (nI b) := Or.inr ⟨b, h1, h5, rfl, h3, h4⟩
      by_cases hle : bc b ≤ bc k
      · rw [if_pos (nI_le hle (by omega))]
        exact ⟨_, _, _, rfl, hB'.keep (fun _ => ⟨b, h5, rfl, hle⟩)⟩
      · rw [if_neg (nleI (by omega) (by omega))]
        exact ⟨_, _, _, rfl, hB'.take (by omega) g2 (fun b' b1 b2 => by
          have : b = b' := nI_inj (by omega) (by omega) b1
          subst this; omega)⟩
  · rw [if_neg (show ¬ nI (fh (gg D (k ||| z) t cr ch p)) = 99 from fun h => h99 ((fh_99 (hg p)).mp (nI_inj (b := 99) (by have := fh_le (hg p); omega) (by omega) h)))]
    exact ⟨_, _, _, rfl, hB.keep (fun h => absurd (hfit.mp h) h99)⟩
theorem rgates_val {N pl ch z t p o : Nat} (hN : 4096 ≤ N) {D : Nat → Nat → Nat} {P M : St} {cr : Nat → Nat} (hPR : PR pl ch D P (M 15 0) (M 16 0) (M 17 0) (M 18) (M 19)) (hp : p < pl) (hz : z < 1024) (hF : M 20 172 = nI z) (ht : t < 8) (hcx : CX pl ch M (-1) (-1) cr) (ho : o < 2 ^ pl) : ∃ B w w', lpc (fun (q : Int32 × Int32 × (Nat → Int32) × (Nat → Int32)) => x_X10_gates_b40 N (va_up (va_up M 32 q.2.2.1) 33 q.2.2.2) (nI p) (nI t) (nI o) q.1 q.2.1) N ((-1 : Int32), (0 : Int32), M 32, M 33) = some (B, w, w') ∧ BG (fitS D z t cr ch o (2 ^ p)) (2 ^ ch) B := by
  have r2 := hPR.2.1
  have r7 := hPR.2.2.2.2.2.2.1
  have h2c : 2 ^ ch ≤ 1024 := Nat.pow_le_pow_right (n := 2) (by omega) r2
  obtain ⟨x, u1, u2⟩ := lpc_run (body := fun (q : Int32 × Int32 × (Nat → Int32) × (Nat → Int32)) => x_X10_gates_b40 N (va_up (va_up M 32 q.2.2.1) 33 q.2.2.2) (nI p) (nI t) (nI o) q.1 q.2.1) (I := fun k q => q.2.1 = nI k ∧ BG (fitS D z t cr ch o (2 ^ p)) k q.1) (Pst := fun x => BG (fitS D z t cr ch o (2 ^ p)) (2 ^ ch) x.1) (2 ^ ch) (fun k q hk hI => by
    obtain ⟨q1, q2, f0, f1⟩ := q
    obtain ⟨rfl, h1⟩ := hI
    dsimp only at h1
    by_cases hk8 : k = 2 ^ ch
    · subst hk8
      right
      refine ⟨(q1, f0, f1), ?_, h1⟩
      show x_X10_gates_b40 N (va_up (va_up M 32 f0) 33 f1) _ _ _ _ _ = _
      have t17 : (va_up (va_up M 32 f0) 33 f1) 17 0 = nI ch := r7
      unfold x_X10_gates_b40
      rw [t17, s_l10 ch (by omega), if_pos (nI_le (Nat.le_refl _) (by omega))]
      rfl
    · left
      obtain ⟨B', w, w', y1, y2⟩ := rgates_step hN (M := va_up (va_up M 32 f0) 33 f1) hPR hp hz hF ht hcx ho (show k < 2 ^ ch by omega) h1
      exact ⟨_, y1, by omega, rfl, y2⟩) (N := N) (z := ((-1 : Int32), (0 : Int32), M 32, M 33)) (by omega) ⟨rfl, Or.inl ⟨rfl, fun s hs => absurd hs (Nat.not_lt_zero s)⟩⟩
  obtain ⟨B, w, w'⟩ := x
  exact ⟨B, w, w', u1, u2⟩
theorem rcut_val {N pl ch z t p : Nat} (hN : 4096 ≤ N) {D : Nat → Nat → Nat} {P M : St} {cr : Nat → Nat} {x3 : Int32} (hPR : PR pl ch D P (M 15 0) (M 16 0) (M 17 0) (M 18) (M 19)) (hp : p < pl) (hz : z < 1024) (hF : M 20 172 = nI z) (ht : t < 8) (hcx : CX pl ch M (-1) (-1) cr) : ∃ B w w', lpc (fun (q : Int32 × Int32 × (Nat → Int32) × (Nat → Int32)) => x_X10_cut_b36 N (va_up (va_up M 32 q.2.2.1) 33 q.2.2.2) (nI p) (nI t) x3 q.1 q.2.1) N ((-1 : Int32), (0 : Int32), M 32, M 33) = some (B, w, w') ∧ BG (fitS D z t cr ch (2 ^ p) 0) (2 ^ ch) B := by
  have r2 := hPR.2.1
  have r7 := hPR.2.2.2.2.2.2.1
  have h2c : 2 ^ ch ≤ 1024 := Nat.pow_le_pow_right (n := 2) (by omega) r2
  obtain ⟨x, u1, u2⟩ := lpc_run (body := fun (q : Int32 × Int32 × (Nat → Int32) × (Nat → Int32)) => x_X10_cut_b36 N (va_up (va_up M 32 q.2.2.1) 33 q.2.2.2) (nI p) (nI t) x3 q.1 q.2.1) (I := fun k q => q.2.1 = nI k ∧ BG (fitS D z t cr ch (2 ^ p) 0) k q.1) (Pst := fun x => BG (fitS D z t cr ch (2 ^ p) 0) (2 ^ ch) x.1) (2 ^ ch) (fun k q hk hI => by
    obtain ⟨q1, q2, f0, f1⟩ := q
    obtain ⟨rfl, h1⟩ := hI
    dsimp only at h1
    by_cases hk8 : k = 2 ^ ch
    · subst hk8
      right
      refine ⟨(q1, f0, f1), ?_, h1⟩
      show x_X10_cut_b36 N (va_up (va_up M 32 f0) 33 f1) _ _ _ _ _ = _
      have t17 : (va_up (va_up M 32 f0) 33 f1) 17 0 = nI ch := r7
      unfold x_X10_cut_b36
      rw [t17, s_l10 ch (by omega), if_pos (nI_le (Nat.le_refl _) (by omega))]
      rfl
    · left
      obtain ⟨B', w, w', y1, y2⟩ := rcut_step hN (M := va_up (va_up M 32 f0) 33 f1) hPR hp hz hF ht hcx (show k < 2 ^ ch by omega) h1
      exact ⟨_, y1, by omega, rfl, y2⟩) (N := N) (z := ((-1 : Int32), (0 : Int32), M 32, M 33)) (by omega) ⟨rfl, Or.inl ⟨rfl, fun s hs => absurd hs (Nat.not_lt_zero s)⟩⟩
  obtain ⟨B, w, w'⟩ := x
  exact ⟨B, w, w', u1, u2⟩
theorem s_u32 : ∀ n, n < 32 → (((nI n).toUInt32 &&& Int32.toUInt32 31).toBitVec % 32).toNat = n := by decide +kernel
/-- class and reference ask alike whether a set has places alone -/
theorem set_in {x : Int32} {pl : Nat} (hpl : pl ≤ 8) : (∃ o, o < 2 ^ pl ∧ x = nI o ∧ (x.toUInt32 >>> ((nI pl).toUInt32 &&& Int32.toUInt32 31)).toInt32 = 0 ∧ x_X10_in x 0 (nI (2 ^ pl) - 1) = some 1) ∨ (¬ (x.toUInt32 >>> ((nI pl).toUInt32 &&& Int32.toUInt32 31)).toInt32 = 0 ∧ x_X10_in x 0 (nI (2 ^ pl) - 1) = some 0) := by
  have h2p : 2 ^ pl ≤ 256 := Nat.pow_le_pow_right (n := 2) (by omega) hpl
  have hpos : 0 < 2 ^ pl := Nat.two_pow_pos pl
  have e1 : nI (2 ^ pl) - 1 = nI (2 ^ pl - 1) := pk_sub (a := 2 ^ pl) (b := 1) (by omega)
  have sh : ∀ m, m < 2 ^ 32 → ((nI m).toUInt32 >>> ((nI pl).toUInt32 &&& Int32.toUInt32 31)).toInt32 = nI (m / 2 ^ pl) := fun m hm => pk_ushrN hm (nI pl) pl (s_u32 pl (by omega))
  rw [e1]
  rcases in_cases x 0 (2 ^ pl - 1) (by omega) (by omega) with ⟨j, j0, j1, rfl, hj⟩ | ⟨hj, hj2⟩
  · left
    refine ⟨j, by omega, rfl, ?_, hj⟩
    rw [sh j (by omega), Nat.div_eq_of_lt (by omega)]
    rfl
  · right
    refine ⟨fun h => ?_, hj2⟩
    obtain ⟨m, hm, rfl⟩ : ∃ m, m < 2 ^ 32 ∧ x = nI m := ⟨x.toBitVec.toNat, x.toBitVec.isLt, by
      apply Int32.toBitVec_inj.mp
      apply BitVec.eq_of_toNat_eq
      show _ = x.toBitVec.toNat % 2 ^ 32
      exact (Nat.mod_eq_of_lt x.toBitVec.isLt).symm⟩
    rw [sh m hm] at h
    have h0 := nI_z.mp h
    rw [Nat.mod_eq_of_lt (Nat.lt_of_le_of_lt (Nat.div_le_self _ _) hm)] at h0
    have hlt : m < 2 ^ pl := by
      rcases Nat.div_eq_zero_iff.mp h0 with h1 | h1
      · omega
      · exact h1
    rcases hj with hj | hj
    · exact nI_pos (show m < 2 ^ 31 by omega) hj
    · have := (nI_ltI (by omega) (by omega)).mp hj
      omega
theorem P_gates {N n : Nat} (hN : 4096 ≤ N) (hn : n < 64) {C RF : Nat → St} {M : St} (h : Rel n C RF M) (CL : Nat → SL) (x1 : Int32) (x2 : Int32) (x3 : Int32) : ∃ (v : Int32 × (Nat → Int64) × (Nat → Int64)) (w : Int32 × (Nat → Int32) × (Nat → Int32)), x_X9_gates N (C 0) (C 4) (C 2) (CL 9) x1 x2 x3 = some v ∧ x_X10_gates N M x1 x2 x3 = some w ∧ v.1 = w.1 ∧ Rel (n + 1) C RF (va_up (va_up M 32 w.2.1) 33 w.2.2) := by
  have hrel := h
  obtain ⟨h1, h2, h3, h4, pl, ch, D, hPR, h6, h7⟩ := h
  have r1 := hPR.1
  have r2 := hPR.2.1
  have r4 := hPR.2.2.2.1
  have r5 := hPR.2.2.2.2.1
  have h2p : 2 ^ pl ≤ 256 := Nat.pow_le_pow_right (n := 2) (by omega) r1
  obtain ⟨z, hz, z1, z2⟩ := h6.2.1
  obtain ⟨cr, hcr, hcx⟩ := h6.cr r1
  unfold x_X9_gates x_X10_gates
  rcases hp_place r4 r5 r1 x1 with ⟨p, hp, rfl, e1, e2⟩ | ⟨e1, e2⟩
  · rw [e1, e2]
    rcases hp_say x2 with ⟨t, ht, rfl, e3, e4⟩ | ⟨e3, e4⟩
    · rw [e3, e4]
      simp only [Option.bind_some, if_neg z10]
      rw [r4, r5, s_l10 pl (by omega)]
      rcases set_in (x := x3) r1 with ⟨o, ho, rfl, e5, e6⟩ | ⟨e5, e6⟩
      · rw [if_pos e5, e6]
        simp only [Option.bind_some, if_neg z10]
        unfold x_X7_fewestGates
        have h2q : 2 ^ p < 256 := Nat.lt_of_lt_of_le (Nat.pow_lt_pow_right (by omega) hp) h2p
        rw [if_neg (nI_ne_m1 (show p < 2 ^ 31 by omega)), s_l10 p (by omega)]
        obtain ⟨B, f0, f1, y1, y2⟩ := fewest_val hN (L := CL 9) (F := C 4) (M := M) (sil := o) (mst := 2 ^ p) hPR (by omega) hz z1 ht (hcr.le r2) (by omega) h2q
        obtain ⟨B', w, w', y3, y4⟩ := rgates_val hN (M := M) hPR hp hz z2 ht (Or.inl ⟨rfl, fun c hc => hcx c (by omega)⟩) ho
        rw [y1, y3]
        exact ⟨_, _, rfl, rfl, y2.uniq y4, Rel_3233 hn hrel _ _⟩
      · rw [if_neg e5, e6]
        exact ⟨_, _, rfl, rfl, rfl, Rel_3233 hn hrel _ _⟩
    · rw [e3, e4]
      exact ⟨_, _, rfl, rfl, rfl, Rel_3233 hn hrel _ _⟩
  · rw [e1, e2]
    exact ⟨_, _, rfl, rfl, rfl, Rel_3233 hn hrel _ _⟩
theorem P_cut {N n : Nat} (hN : 4096 ≤ N) (hn : n < 64) {C RF : Nat → St} {M : St} (h : Rel n C RF M) (CL : Nat → SL) (x1 : Int32) (x2 : Int32) (x3 : Int32) : ∃ (v : Int32 × (Nat → Int64) × (Nat → Int64)) (w : Int32 × (Nat → Int32) × (Nat → Int32)), x_X9_cut N (C 0) (C 4) (C 2) (CL 9) x1 x2 x3 = some v ∧ x_X10_cut N M x1 x2 x3 = some w ∧ v.1 = w.1 ∧ Rel (n + 1) C RF (va_up (va_up M 32 w.2.1) 33 w.2.2) := by
  have hrel := h
  obtain ⟨h1, h2, h3, h4, pl, ch, D, hPR, h6, h7⟩ := h
  have r1 := hPR.1
  have r2 := hPR.2.1
  have r4 := hPR.2.2.2.1
  have r5 := hPR.2.2.2.2.1
  have h2p : 2 ^ pl ≤ 256 := Nat.pow_le_pow_right (n := 2) (by omega) r1
  obtain ⟨z, hz, z1, z2⟩ := h6.2.1
  obtain ⟨cr, hcr, hcx⟩ := h6.cr r1
  unfold x_X9_cut x_X10_cut
  rcases hp_place r4 r5 r1 x1 with ⟨p, hp, rfl, e1, e2⟩ | ⟨e1, e2⟩
  · rw [e1, e2]
    rcases hp_say x2 with ⟨t, ht, rfl, e3, e4⟩ | ⟨e3, e4⟩
    · rw [e3, e4]
      simp only [Option.bind_some, if_neg z10]
      rcases in_cases x3 0 1 (by omega) (by omega) with ⟨d, d0, d1, rfl, hd⟩ | ⟨hd, hd2⟩
      · have hd : x_X10_in (nI d) 0 1 = some 1 := hd
        have h2q : 2 ^ p < 256 := Nat.lt_of_lt_of_le (Nat.pow_lt_pow_right (by omega) hp) h2p
        rw [hd, if_neg (nI_pos (by omega)), if_pos (show nI d ≤ (1 : Int32) from nI_le (b := 1) d1 (by omega))]
        simp only [Option.bind_some, if_neg z10]
        unfold x_X7_fewestGates
        rw [if_pos rfl, s_l10 p (by omega)]
        obtain ⟨B, f0, f1, y1, y2⟩ := fewest_val hN (L := CL 9) (F := C 4) (M := M) (sil := 2 ^ p) (mst := 0) hPR (by omega) hz z1 ht (hcr.le r2) h2q (by omega)
        obtain ⟨B', w, w', y3, y4⟩ := rcut_val hN (M := M) (x3 := nI d) hPR hp hz z2 ht (Or.inl ⟨rfl, fun c hc => hcx c (by omega)⟩)
        have y1' : x_X7_fewestGates_k19 N (CL 9) (C 2) (C 4) (nI t) (nI (2 ^ p)) (-1 : Int32) (11 : Int32) (0 : Int32) = some (B, f0, f1) := y1
        have hBB := y2.uniq y4
        subst hBB
        rw [y1', y3]
        simp only [Option.bind_some]
        rcases y2 with ⟨b1, b2⟩ | ⟨b, b1, b5, b2, b3, b4⟩
        · rw [if_pos b1, b1, if_neg (show ¬ (0 : Int32) ≤ -1 by decide)]
          exact ⟨_, _, rfl, rfl, rfl, Rel_3233 hn hrel _ _⟩
        · rw [b2, if_neg (nI_ne_m1 (by omega)), if_pos (nI_pos' (by omega)), bitCount_eq b (by omega), bits_eq hN (show b < 2 ^ 31 by omega)]
          by_cases hd1 : d = 1
          · subst hd1
            rw [if_pos (show nI 1 = 1 from rfl), if_neg (show ¬ nI 1 = 0 by decide)]
            exact ⟨_, _, rfl, rfl, rfl, Rel_3233 hn hrel _ _⟩
          · have : d = 0 := by omega
            subst this
            rw [if_neg (show ¬ nI 0 = 1 by decide), if_pos (show nI 0 = 0 from rfl)]
            exact ⟨_, _, rfl, rfl, rfl, Rel_3233 hn hrel _ _⟩
      · have hd2 : x_X10_in x3 0 1 = some 0 := hd2
        rw [hd2]
        simp only [Option.bind_some]
        by_cases hx : x3 < 0
        · rw [if_pos hx]
          exact ⟨_, _, rfl, rfl, rfl, Rel_3233 hn hrel _ _⟩
        · rw [if_neg hx, if_neg (show ¬ x3 ≤ (1 : Int32) from Int32.not_le.mpr (hd.resolve_left hx))]
          exact ⟨_, _, rfl, rfl, rfl, Rel_3233 hn hrel _ _⟩
    · rw [e3, e4]
      exact ⟨_, _, rfl, rfl, rfl, Rel_3233 hn hrel _ _⟩
  · rw [e1, e2]
    exact ⟨_, _, rfl, rfl, rfl, Rel_3233 hn hrel _ _⟩
