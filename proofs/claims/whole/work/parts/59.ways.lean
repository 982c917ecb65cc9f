/-! ways in the reference -/
def OK' (D : Nat → Nat → Nat) (k : Nat) (o : Nat → Nat) : Prop := (∀ i, i < k → o i < k) ∧ (∀ i i', i < i' → i' < k → D 1 (o i') ≤ D 1 (o i) ∧ ¬ o i = o i') ∧ (∀ p, p < k → ∃ i, i < k ∧ o i = p)
def ins (o : Nat → Nat) (j k : Nat) : Nat → Nat := fun i => if i < j then o i else if i = j then k else o (i - 1)
theorem ins_a {o : Nat → Nat} {j k i : Nat} (h : i < j) : ins o j k i = o i := if_pos h
theorem ins_b {o : Nat → Nat} {j k : Nat} : ins o j k j = k := by unfold ins; rw [if_neg (Nat.lt_irrefl j), if_pos rfl]
theorem ins_c {o : Nat → Nat} {j k i : Nat} (h : j < i) : ins o j k i = o (i - 1) := by unfold ins; rw [if_neg (by omega), if_neg (by omega)]
theorem OK'.ins {D : Nat → Nat → Nat} {k j : Nat} {o : Nat → Nat} (g : OK' D k o) (hj : j ≤ k) (h1 : ∀ i, j ≤ i → i < k → D 1 (o i) < D 1 k) (h2 : j = 0 ∨ D 1 k ≤ D 1 (o (j - 1))) : OK' D (k + 1) (ins o j k) := by
  obtain ⟨g1, g2, g3⟩ := g
  have hlow : ∀ i, i < j → D 1 k ≤ D 1 (o i) := fun i hi => by
    rcases h2 with h2 | h2
    · omega
    · by_cases h : i = j - 1
      · rw [h]; exact h2
      · exact Nat.le_trans h2 (g2 i (j - 1) (by omega) (by omega)).1
  refine ⟨fun i hi => ?_, fun i i' hii hi' => ?_, fun p hp => ?_⟩
  · rcases Nat.lt_trichotomy i j with h | h | h
    · rw [ins_a h]; have := g1 i (by omega); omega
    · subst h; rw [ins_b]; omega
    · rw [ins_c h]; have := g1 (i - 1) (by omega); omega
  · rcases Nat.lt_trichotomy i j with h | h | h
    · rw [ins_a h]
      rcases Nat.lt_trichotomy i' j with h' | h' | h'
      · rw [ins_a h']; exact g2 i i' hii (by omega)
      · subst h'; rw [ins_b]; have := g1 i (by omega); exact ⟨hlow i h, by omega⟩
      · rw [ins_c h']; exact g2 i (i' - 1) (by omega) (by omega)
    · subst h
      rw [ins_b, ins_c hii]
      have a := h1 (i' - 1) (by omega) (by omega)
      have b := g1 (i' - 1) (by omega)
      exact ⟨by omega, by omega⟩
    · rw [ins_c h, ins_c (by omega)]
      exact g2 (i - 1) (i' - 1) (by omega) (by omega)
  · by_cases hpk : p = k
    · subst hpk; exact ⟨j, by omega, ins_b⟩
    · obtain ⟨i, i1, i2⟩ := g3 p (by omega)
      by_cases hij : i < j
      · exact ⟨i, by omega, by rw [ins_a hij]; exact i2⟩
      · exact ⟨i + 1, by omega, by rw [ins_c (by omega)]; exact i2⟩
/-- the place for the next -/
theorem hole_eq {N : Nat} (hN : 4096 ≤ N) {pl k : Nat} {D : Nat → Nat → Nat} {M : St} {A : Nat → Int32} {o : Nat → Nat} (r1 : pl ≤ 8) (h18 : ∀ i, i < pl → D 1 i < 100 ∧ M 18 (2 * i + 1) = nI (D 1 i)) (hk : k < pl) (ho : ∀ i, i < k → o i < k ∧ A i = nI (o i)) : ∃ j A', lpc (fun (q : Int32 × (Nat → Int32)) => x_X10_layOrder_b12 N (va_up M 37 q.2) (nI k) q.1) N (nI k, A) = some (nI j, A') ∧ j ≤ k ∧ (∀ i, j ≤ i → i < k → D 1 (o i) < D 1 k) ∧ (j = 0 ∨ D 1 k ≤ D 1 (o (j - 1))) ∧ (∀ i, i < j → A' i = A i) ∧ (∀ i, j < i → i ≤ k → A' i = A (i - 1)) := by
  obtain ⟨x, u1, j, A', u2, u3⟩ := lpc_run (body := fun (q : Int32 × (Nat → Int32)) => x_X10_layOrder_b12 N (va_up M 37 q.2) (nI k) q.1)
    (I := fun t q => t ≤ k ∧ q.1 = nI (k - t) ∧ (∀ i, k - t ≤ i → i < k → D 1 (o i) < D 1 k) ∧ (∀ i, i < k - t → q.2 i = A i) ∧ (∀ i, k - t < i → i ≤ k → q.2 i = A (i - 1)))
    (Pst := fun q => ∃ j A', q = (nI j, A') ∧ j ≤ k ∧ (∀ i, j ≤ i → i < k → D 1 (o i) < D 1 k) ∧ (j = 0 ∨ D 1 k ≤ D 1 (o (j - 1))) ∧ (∀ i, i < j → A' i = A i) ∧ (∀ i, j < i → i ≤ k → A' i = A (i - 1))) k (fun t q ht hI => by
      obtain ⟨q1, f⟩ := q
      obtain ⟨h0, rfl, h1, h2, h3⟩ := hI
      dsimp only at h2 h3
      obtain ⟨j, hj⟩ : ∃ j, j = k - t := ⟨_, rfl⟩
      rw [← hj] at h1 h2 h3
      rw [← hj]
      show (∃ z', x_X10_layOrder_b12 N (va_up M 37 f) (nI k) (nI j) = _ ∧ _) ∨ (∃ x, x_X10_layOrder_b12 N (va_up M 37 f) (nI k) (nI j) = _ ∧ _)
      unfold x_X10_layOrder_b12
      by_cases hj0 : j = 0
      · right
        rw [if_pos (show nI j ≤ 0 by rw [hj0]; decide)]
        exact ⟨_, rfl, j, f, rfl, by omega, h1, Or.inl hj0, h2, h3⟩
      · have e1 : nI j - (1 : Int32) = nI (j - 1) := pk_sub (a := j) (b := 1) (by omega)
        obtain ⟨o1, o2⟩ := ho (j - 1) (by omega)
        have f1 : f (j - 1) = nI (o (j - 1)) := (h2 _ (by omega)).trans o2
        obtain ⟨p1, p2⟩ := h18 (o (j - 1)) (by omega)
        obtain ⟨p3, p4⟩ := h18 k hk
        have e2 : ∀ a : Nat, (2 : Int32) * nI a + (1 : Int32) = nI (2 * a + 1) := fun a => by simp (disch := omega) only [li_0, li_1, li_2, li_3, li_4, li_5, li_6, li_7, li_8, li_9, li_10, li_11, li_15, li_16, li_20, li_30, li_32, li_48, li_57, li_58, li_59, li_60, li_61, li_63, li_64, li_80, li_85, li_88, li_99, li_100, li_112, li_115, li_152, li_162, li_172, li_173, li_174, li_240, li_255, li_348, li_1000, li_3306, nI_add, pk_mul]
        have e3 : nI j + (-1 : Int32) = nI (j - 1) := by rw [← e1]; exact (Int32.sub_eq_add_neg _ _).symm
        have i8 : ∀ j, j < 8 → ¬ (nI j < 0 ∨ 8 ≤ j) := fun j hj => by have := nI_in (c := j) (N := 8) hj (by omega); rwa [cl (by omega)] at this
        have i16 : ∀ j, j < 16 → ¬ (nI j < 0 ∨ 16 ≤ j) := fun j hj => by have := nI_in (c := j) (N := 16) hj (by omega); rwa [cl (by omega)] at this
        have t37 : (va_up M 37 f) 37 = f := rfl
        have t18 : (va_up M 37 f) 18 = M 18 := rfl
        rw [if_neg (show ¬ nI j ≤ 0 from fun h => by have := (nI_leI (b := 0) (by omega) (by omega)).mp h; omega), t37, t18, e1, cl (show j - 1 < 2 ^ 31 by omega), f1, e2, e2, cl (show 2 * o (j - 1) + 1 < 2 ^ 31 by omega), cl (show 2 * k + 1 < 2 ^ 31 by omega), cl (show j < 2 ^ 31 by omega), p2, p4, if_neg (i8 (j - 1) (by omega)), if_neg (i16 (2 * o (j - 1) + 1) (by omega)), if_neg (i16 (2 * k + 1) (by omega))]
        by_cases hl : D 1 k ≤ D 1 (o (j - 1))
        · right
          rw [if_pos (nI_le hl (by omega))]
          exact ⟨_, rfl, j, f, rfl, by omega, h1, Or.inr hl, h2, h3⟩
        · left
          rw [if_neg (nleI (by omega) (by omega)), if_neg (i8 (j - 1) (by omega)), if_neg (i8 j (by omega)), e3]
          unfold xl
          refine ⟨_, rfl, by omega, by omega, by show nI (j - 1) = _; rw [show k - (t + 1) = j - 1 by omega], ?_⟩
          rw [show k - (t + 1) = j - 1 by omega]
          refine ⟨fun i hi1 hi2 => ?_, fun i hi => ?_, fun i hi1 hi2 => ?_⟩
          · by_cases h : i = j - 1
            · rw [h]; omega
            · exact h1 i (by omega) hi2
          · show upd f j _ i = _
            rw [pk_un (by omega)]; exact h2 i (by omega)
          · show upd f j (nI (o (j - 1))) i = _
            by_cases h : i = j
            · subst h; rw [pk_us]; exact o2.symm
            · rw [pk_un h]; exact h3 i (by omega) hi2) (N := N) (z := (nI k, A)) (by omega) ⟨Nat.zero_le k, rfl, fun i h1 h2 => by omega, fun i _ => rfl, fun i h1 h2 => by omega⟩
  subst u2
  exact ⟨j, A', u1, u3⟩
theorem order_eq {N : Nat} (hN : 4096 ≤ N) {pl : Nat} {D : Nat → Nat → Nat} {M : St} (r1 : pl ≤ 8) (r5 : M 16 0 = nI pl) (h18 : ∀ i, i < pl → D 1 i < 100 ∧ M 18 (2 * i + 1) = nI (D 1 i)) : ∃ r o, x_X10_layOrder N M = some r ∧ OK' D pl o ∧ ∀ i, i < pl → r i = nI (o i) := by
  obtain ⟨x, u1, o, u2, u3⟩ := lpc_run (body := fun (q : Int32 × (Nat → Int32)) => x_X10_layOrder_b2 N (va_up M 37 q.2) q.1)
    (I := fun k q => q.1 = nI k ∧ ∃ o, OK' D k o ∧ ∀ i, i < k → q.2 i = nI (o i))
    (Pst := fun q => ∃ o, OK' D pl o ∧ ∀ i, i < pl → q i = nI (o i)) pl (fun k q hk hI => by
      obtain ⟨q1, f⟩ := q
      obtain ⟨rfl, o, h1, h2⟩ := hI
      dsimp only at h2
      show (∃ z', x_X10_layOrder_b2 N (va_up M 37 f) (nI k) = _ ∧ _) ∨ (∃ x, x_X10_layOrder_b2 N (va_up M 37 f) (nI k) = _ ∧ _)
      unfold x_X10_layOrder_b2
      have t16 : (va_up M 37 f) 16 0 = nI pl := r5
      rw [t16]
      by_cases hk8 : k = pl
      · subst hk8
        right
        rw [if_pos (nI_le (Nat.le_refl _) (by omega))]
        exact ⟨_, rfl, o, h1, h2⟩
      · left
        obtain ⟨j, A', y1, y2, y3, y4, y5, y6⟩ := hole_eq hN (M := va_up M 37 f) (A := f) r1 h18 (show k < pl by omega) (fun i hi => ⟨h1.1 i hi, h2 i hi⟩)
        have y1' : lpc (fun (q : Int32 × (Nat → Int32)) => x_X10_layOrder_b12 N (va_up (va_up M 37 f) 37 q.2) (nI k) q.1) N (nI k, (va_up M 37 f) 37) = some (nI j, A') := y1
        have e8 : nI k + (1 : Int32) = nI (k + 1) := by simp (disch := omega) only [li_0, li_1, li_2, li_3, li_4, li_5, li_6, li_7, li_8, li_9, li_10, li_11, li_15, li_16, li_20, li_30, li_32, li_48, li_57, li_58, li_59, li_60, li_61, li_63, li_64, li_80, li_85, li_88, li_99, li_100, li_112, li_115, li_152, li_162, li_172, li_173, li_174, li_240, li_255, li_348, li_1000, li_3306, nI_add]
        rw [if_neg (nleI (show k < pl by omega) (by omega)), y1']
        simp only [Option.bind_some]
        rw [ix (show j < 8 by omega) (by omega), cl (by omega), e8]
        refine ⟨_, rfl, by omega, rfl, _, h1.ins y2 y3 y4, fun i hi => ?_⟩
        show upd A' j (nI k) i = _
        rcases Nat.lt_trichotomy i j with h | h | h
        · rw [pk_un (by omega), ins_a h, y5 i h]; exact h2 i (by omega)
        · subst h; rw [pk_us, ins_b]
        · rw [pk_un (by omega), ins_c h, y6 i h (by omega)]; exact h2 (i - 1) (by omega)) (N := N) (z := ((0 : Int32), M 37)) (by omega) ⟨rfl, fun _ => 0, ⟨fun i hi => absurd hi (Nat.not_lt_zero i), fun i i' _ hi => absurd hi (Nat.not_lt_zero i'), fun p hp => absurd hp (Nat.not_lt_zero p)⟩, fun i hi => absurd hi (Nat.not_lt_zero i)⟩
  refine ⟨x, o, ?_, u2, u3⟩
  unfold x_X10_layOrder
  rw [u1]
  rfl
