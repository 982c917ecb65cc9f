/-! class and reference read the same words -/
def RS (tx : Nat → Nat) (len a : Nat) (F M : St) : Prop := len ≤ 64 ∧ a ≤ len ∧ TX tx len (F 0) ∧ F 1 0 = nI len ∧ F 2 0 = 0 ∧ F 4 0 = nI a ∧ TX tx len (M 1) ∧ M 0 0 = nI len ∧ M 2 0 = nI a
theorem nI_m {k : Nat} (h : k < 256) : ¬ nI k = -1 := nI_ne_m1 (by omega)
theorem num_both {N : Nat} (hN : 4096 ≤ N) {tx : Nat → Nat} {len a : Nat} {F M : St} (lo hi : Int32) (h : RS tx len a F M) : ∃ b e, a ≤ b ∧ e ≤ len ∧ ((∃ v fg, a < e ∧ v < 1000 ∧ ¬ nI v < lo ∧ nI v ≤ hi ∧ x_X5_number N F lo hi = some (nI v, F 2 0, F 3 0, nI e, nI b) ∧ x_X10_isNumber N M lo hi = some (1, nI e, nI b, -1, nI v, fg, M 7 0, M 8 0)) ∨ (∃ k x w, (k = 1 ∨ k = 2) ∧ x_X5_number N F lo hi = some (x, nI k, nI b, nI e, nI b) ∧ x_X10_isNumber N M lo hi = some w ∧ w.1 = 0 ∧ w.2.2.2.2.2.2.1 = nI b ∧ w.2.2.2.2.2.2.2 = nI k)) := by
  obtain ⟨hl, ha, f0, f1, f2, f4, m1, m0, m2⟩ := h
  obtain ⟨b, hs⟩ := SKP.ex tx ha
  obtain ⟨e, hr⟩ := RUN.ex tx hs.2.1
  obtain ⟨n1, n2, n3⟩ := num_val hN (x1 := lo) (x2 := hi) hl f0 f1 f2 f4 hs hr
  obtain ⟨t1, t2, t3⟩ := tok_val hN hl m1 m0 m2 hs hr
  obtain ⟨s1, s2, s3, s4⟩ := hr
  have hsb := hs.2.1
  refine ⟨b, e, hs.1, s2, ?_⟩
  by_cases heb : e = b
  · right
    refine ⟨1, nI 0, ?_⟩
    by_cases hlen : b = len
    · refine ⟨(0, nI b, nI b, -2, 0, 0, nI b, 1), Or.inl rfl, n1 heb, ?_, rfl, rfl, rfl⟩
      unfold x_X10_isNumber
      rw [t1 hlen]
      simp only [Option.bind_some]
      rw [if_neg (show ¬ (-2 : Int32) = -1 by decide)]
      rfl
    · refine ⟨(0, nI (b + 1), nI b, nI (tx b), 0, 0, nI b, 1), Or.inl rfl, n1 heb, ?_, rfl, rfl, rfl⟩
      unfold x_X10_isNumber
      rw [t3 (by omega) heb]
      simp only [Option.bind_some]
      rw [if_neg (nI_m (m1 b (by omega)).1)]
      rfl
  · have hlt : b < e := by omega
    have hbd := (vl_bd (tx := tx) (b := b) (e - b) (fun j hj => s3 (b + j) (by omega) (by omega))).1
    have k38 : ∀ fg : Int32, x_X10_isNumber_k38 N (va_up (va_up (va_up (va_up (va_up M 2 (fun _ => nI e)) 3 (fun _ => nI b)) 4 (fun _ => (-1 : Int32))) 5 (fun _ => nI (vl tx b (e - b)))) 6 (fun _ => fg)) = some (0, nI e, nI b, -1, nI (vl tx b (e - b)), fg, nI b, 2) := fun _ => rfl
    by_cases hok : e - b ≤ 3 ∧ ¬ nI (vl tx b (e - b)) < lo ∧ nI (vl tx b (e - b)) ≤ hi
    · left
      obtain ⟨o1, o2, o3⟩ := hok
      refine ⟨vl tx b (e - b), nI (e - b), by have := hs.1; omega, hbd, o2, o3, n3 hlt o1 o2 o3, ?_⟩
      unfold x_X10_isNumber
      rw [t2 hlt]
      simp only [Option.bind_some, if_true]
      have hin : x_X10_in (nI (vl tx b (e - b))) lo hi = some 1 := in_1 (Int.not_lt.mp (fun h => o2 (lt_I.mpr h))) (le_I.mp o3)
      rw [if_neg (show ¬ (4 : Int32) ≤ nI (e - b) from nI_ge (b := 4) (by omega) (by omega)), hin]
      simp only [Option.bind_some]
      rw [if_neg z10]
    · right
      have hbad : 3 < e - b ∨ nI (vl tx b (e - b)) < lo ∨ ¬ nI (vl tx b (e - b)) ≤ hi := by
        by_cases h1 : 3 < e - b
        · exact Or.inl h1
        · by_cases h2 : nI (vl tx b (e - b)) < lo
          · exact Or.inr (Or.inl h2)
          · exact Or.inr (Or.inr (fun h3 => hok ⟨by omega, h2, h3⟩))
      refine ⟨2, _, (0, nI e, nI b, -1, nI (vl tx b (e - b)), nI (e - b), nI b, 2), Or.inr rfl, n2 hlt hbad, ?_, rfl, rfl, rfl⟩
      unfold x_X10_isNumber
      rw [t2 hlt]
      simp only [Option.bind_some, if_true]
      rw [k38]
      by_cases h1 : 3 < e - b
      · rw [if_pos (show (4 : Int32) ≤ nI (e - b) from nI_le (a := 4) (by omega) (by omega))]
      · have hin : x_X10_in (nI (vl tx b (e - b))) lo hi = some 0 := in_0 (by
          rcases hbad.resolve_left h1 with h2 | h2
          · exact Or.inl (lt_I.mp h2)
          · exact Or.inr (Int.not_le.mp (fun h3 => h2 (le_I.mpr h3))))
        rw [if_neg (show ¬ (4 : Int32) ≤ nI (e - b) from nI_ge (b := 4) (by omega) (by omega)), hin]
        simp only [Option.bind_some, if_true]
theorem end_both {N : Nat} (hN : 4096 ≤ N) {tx : Nat → Nat} {len a : Nat} {F M : St} (h : RS tx len a F M) : ∃ b, a ≤ b ∧ b ≤ len ∧ ((∃ y2 y3 y4 y5, b < len ∧ x_X5_closes N F = some (1, F 2 0, F 3 0, nI (b + 1)) ∧ x_X10_isEnd N M = some (1, nI (b + 1), y2, y3, y4, y5, M 7 0, M 8 0)) ∨ (∃ w, x_X5_closes N F = some (0, nI 1, nI b, nI b) ∧ x_X10_isEnd N M = some w ∧ w.1 = 0 ∧ w.2.2.2.2.2.2.1 = nI b ∧ w.2.2.2.2.2.2.2 = nI 1)) := by
  obtain ⟨hl, ha, f0, f1, f2, f4, m1, m0, m2⟩ := h
  obtain ⟨b, hs⟩ := SKP.ex tx ha
  obtain ⟨e, hr⟩ := RUN.ex tx hs.2.1
  obtain ⟨c1, c2⟩ := closes_val hN hl f0 f1 f2 f4 hs
  obtain ⟨t1, t2, t3⟩ := tok_val hN hl m1 m0 m2 hs hr
  obtain ⟨s1, s2, s3, s4⟩ := hr
  have hsb := hs.2.1
  refine ⟨b, hs.1, hsb, ?_⟩
  by_cases hlen : b = len
  · right
    refine ⟨(0, nI b, nI b, -2, 0, 0, nI b, 1), c2 (fun h => by omega), ?_, rfl, rfl, rfl⟩
    unfold x_X10_isEnd
    rw [t1 hlen]
    rfl
  · have hbl : b < len := by omega
    by_cases h59 : tx b = 59
    · left
      have heb : e = b := by
        refine Nat.le_antisymm (Nat.le_of_not_lt (fun hlt => ?_)) s1
        have := s3 b (Nat.le_refl _) hlt
        rw [h59] at this
        exact absurd this.2 (by decide)
      refine ⟨nI b, nI (tx b), 0, 0, hbl, c1 hbl h59, ?_⟩
      unfold x_X10_isEnd
      rw [t3 hbl heb]
      simp only [Option.bind_some]
      rw [if_pos (show nI (tx b) = 59 by rw [h59]; rfl)]
    · right
      by_cases heb : e = b
      · refine ⟨(0, nI (b + 1), nI b, nI (tx b), 0, 0, nI b, 1), c2 (fun _ => h59), ?_, rfl, rfl, rfl⟩
        unfold x_X10_isEnd
        rw [t3 hbl heb]
        simp only [Option.bind_some]
        rw [if_neg (show ¬ nI (tx b) = 59 from fun h => h59 (nI_inj (b := 59) (by have := (m1 b hbl).1; omega) (by omega) h))]
        rfl
      · refine ⟨(0, nI e, nI b, -1, nI (vl tx b (e - b)), nI (e - b), nI b, 1), c2 (fun _ => h59), ?_, rfl, rfl, rfl⟩
        unfold x_X10_isEnd
        rw [t2 (by omega)]
        rfl
theorem num_lo {v : Nat} (hv : v < 1000) (h : ¬ nI v < (1 : Int32)) : 1 ≤ v := by
  refine Nat.pos_of_ne_zero (fun h0 => h ?_)
  rw [h0]; decide
theorem num_hi {v m : Nat} (hv : v < 1000) (hm : m < 1000) (h : nI v ≤ nI m) : v ≤ m := (nI_leI (by omega) (by omega)).mp h
theorem k_ne {k : Nat} (h : 1 ≤ k ∧ k ≤ 4) : ¬ nI k = 0 := nI_ne0 (by omega) (by omega)
/-! 's' -/
theorem room_both {N : Nat} (hN : 4096 ≤ N) {tx : Nat → Nat} {len a : Nat} {F M P : St} (h : RS tx len a F M) : (∃ v e nA y2 y3 y4 y5, 1 ≤ v ∧ v ≤ 99 ∧ a < e ∧ e ≤ len ∧ x_X5_readRoom N F P = some (0, F 3 0, nI e, nA, nI v) ∧ x_X10_isMostItem N M = some (1, nI e, y2, y3, y4, y5, M 7 0, M 8 0, 1, nI v)) ∨ (∃ k b e v w, (1 ≤ k ∧ k ≤ 4) ∧ e ≤ len ∧ x_X5_readRoom N F P = some v ∧ v.1 = nI k ∧ v.2.1 = nI b ∧ v.2.2.1 = nI e ∧ x_X10_isMostItem N M = some w ∧ w.1 = 0 ∧ w.2.2.2.2.2.2.1 = nI b ∧ w.2.2.2.2.2.2.2.1 = nI k) := by
  have f2 : F 2 0 = 0 := h.2.2.2.2.1
  have hle := h.2.1
  obtain ⟨b, e, g1, g2, g⟩ := num_both hN 1 99 h
  unfold x_X5_readRoom x_X10_isMostItem
  rcases g with ⟨v, fg, v1, v2, v3, v4, y1, y2⟩ | ⟨k, x, w, k1, y1, y2, y3, y4, y5⟩
  · rw [y1, y2]
    simp only [Option.bind_some]
    rw [if_neg z10]
    have hRS : RS tx len e (va_up (va_up (va_up (va_up F 2 (fun _ => F 2 0)) 3 (fun _ => F 3 0)) 4 (fun _ => nI e)) 5 (fun _ => nI b)) (va_up (va_up (va_up (va_up (va_up (va_up (va_up (va_up (va_up M 2 (fun _ => nI e)) 3 (fun _ => nI b)) 4 (fun _ => (-1 : Int32))) 5 (fun _ => nI v)) 6 (fun _ => fg)) 7 (fun _ => M 7 0)) 8 (fun _ => M 8 0)) 9 (fun _ => (1 : Int32))) 10 (fun _ => nI v)) := ⟨h.1, g2, h.2.2.1, h.2.2.2.1, f2, rfl, h.2.2.2.2.2.2.1, h.2.2.2.2.2.2.2.1, rfl⟩
    obtain ⟨b2, p1, p2, ⟨z2, z3, z4, z5, p3, p4, p5⟩ | ⟨w, p3, p4, p5, p6, p7⟩⟩ := end_both hN hRS
    · left
      rw [p4, p5]
      simp only [Option.bind_some]
      rw [if_neg z10, if_pos (Or.inr trivial)]
      refine ⟨v, b2 + 1, nI b, z2, z3, z4, z5, num_lo v2 v3, num_hi v2 (by omega) v4, by omega, by omega, ?_, rfl⟩
      show some (F 2 0, F 3 0, nI (b2 + 1), nI b, nI v) = _
      rw [f2]
    · right
      rw [p3, p4]
      simp only [Option.bind_some]
      rw [if_pos trivial, if_pos (Or.inl p5)]
      exact ⟨1, b2, b2, _, _, by omega, p2, rfl, rfl, rfl, rfl, rfl, p5, p6, p7⟩
  · right
    have hk : 1 ≤ k ∧ k ≤ 4 := by omega
    rw [y1, y2]
    simp only [Option.bind_some]
    rw [if_pos y3, closes_no (F := va_up (va_up (va_up (va_up F 2 (fun _ => nI k)) 3 (fun _ => nI b)) 4 (fun _ => nI e)) 5 (fun _ => nI b)) (k_ne hk)]
    exact ⟨k, b, e, _, _, hk, g2, rfl, rfl, rfl, rfl, rfl, rfl, y4, y5⟩
