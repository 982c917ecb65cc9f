/-! the simplest calls -/
theorem P_fault {N n : Nat} (hN : 4096 ≤ N) (hn : n < 64) {C RF : Nat → St} {M : St} (h : Rel n C RF M) : ∃ (v : Int32) (w : Int32), x_X9_fault (C 0) (C 1) = some v ∧ x_X10_fault M = some w ∧ v = w ∧ Rel (n + 1) C RF M := by
  exact ⟨_, _, rfl, rfl, h.2.1, Rel_step hn h⟩
theorem P_tear {N n : Nat} (hN : 4096 ≤ N) (hn : n < 64) {C RF : Nat → St} {M : St} (h : Rel n C RF M) : ∃ (v : Int32 × Int32 × Int32) (w : Int32 × Int32 × Int32), x_X9_tear (C 0) (C 7) = some v ∧ x_X10_tear M = some w ∧ v.1 = w.1 ∧ Rel (n + 1) (va_up C 7 (va_up (va_up (C 7) 0 (fun _ => v.2.1)) 1 (fun _ => v.2.2))) RF (va_up (va_up M 28 (fun _ => w.2.1)) 30 (fun _ => w.2.2)) := by
  obtain ⟨h1, h2, h3, h4, pl, ch, D, h5, h6, h7, h8, h9, ⟨d, d1, d2, d3, d4⟩, ⟨e, e1, e2, e3, e4⟩⟩ := h
  refine ⟨_, _, rfl, rfl, ?_, ?_⟩
  · show C 7 0 0 + C 7 1 0 = M 28 0 + M 30 0
    rw [d2, d3, e2, e3]
  · exact ⟨by omega, h2, h3, h4.mono (by omega), pl, ch, D, h5, h6.mono (by omega), h7.mono (by omega), h8.mono (by omega), h9.mono (by omega), ⟨0, by omega, rfl, rfl, fun i hi => absurd hi (Nat.not_lt_zero i)⟩, ⟨0, by omega, rfl, rfl, fun i hi => absurd hi (Nat.not_lt_zero i)⟩⟩
theorem P_seed {N n : Nat} (hN : 4096 ≤ N) (hn : n < 64) {C RF : Nat → St} {M : St} (h : Rel n C RF M) (x1 : Int32) : ∃ (v : Int32 × Int32) (w : Int32 × Int32), x_X9_seed (C 0) x1 = some v ∧ x_X10_seed M x1 = some w ∧ v.1 = w.1 ∧ Rel (n + 1) (va_up C 0 (va_up (C 0) 10 (fun _ => v.2))) RF (va_up M 27 (fun _ => w.2)) := by
  obtain ⟨h1, h2, ⟨sd, s1, s2, s3⟩, h4, pl, ch, D, h5, h6, h7, h8, h9, h10, h11⟩ := h
  by_cases hx : 0 ≤ x1
  · refine ⟨(C 0 10 0, x1), (M 27 0, x1), by unfold x_X9_seed; rw [if_pos hx]; rfl, by unfold x_X10_seed; rw [if_pos hx]; rfl, by rw [s2, s3], ?_⟩
    obtain ⟨j, hj, rfl⟩ := nI_of (x := x1) (fun h9 => by have := lt_I.mp h9; have := le_I.mp hx; omega)
    exact ⟨by omega, h2, ⟨j, hj, rfl, rfl⟩, h4.mono (by omega), pl, ch, D, h5, h6.mono (by omega), h7.mono (by omega), h8.mono (by omega), h9.mono (by omega), h10, h11⟩
  · refine ⟨(-1000000002, C 0 10 0), (-1000000002, M 27 0), by unfold x_X9_seed; rw [if_neg hx], by unfold x_X10_seed; rw [if_neg hx], rfl, ?_⟩
    exact ⟨by omega, h2, ⟨sd, s1, s2, s3⟩, h4.mono (by omega), pl, ch, D, h5, h6.mono (by omega), h7.mono (by omega), h8.mono (by omega), h9.mono (by omega), h10, h11⟩
theorem P_feed {N n : Nat} (hN : 4096 ≤ N) (hn : n < 64) {C RF : Nat → St} {M : St} (h : Rel n C RF M) (x1 : Int32) : ∃ (v : Int32 × (Nat → Int32) × Int32) (w : Int32 × Int32 × (Nat → Int32)), x_X9_feed (C 0) (C 1) x1 = some v ∧ x_X10_feed M x1 = some w ∧ v.1 = w.1 ∧ Rel (n + 1) (va_up C 1 (va_up (va_up (C 1) 0 v.2.1) 1 (fun _ => v.2.2))) RF (va_up (va_up M 0 (fun _ => w.2.1)) 1 w.2.2) := by
  obtain ⟨h1, h2, h3, ⟨len, t1, t2, t3, t4⟩, pl, ch, D, h5, h6, h7, h8, h9, h10, h11⟩ := h
  unfold x_X9_feed x_X10_feed
  rcases in_cases x1 0 255 (by omega) (by omega) with ⟨j, j0, j1, rfl, hj⟩ | ⟨hj, hj2⟩
  · have hj : x_X10_in (nI j) 0 255 = some 1 := hj
    rw [hj, if_neg (nI_pos (by omega)), if_pos (show nI j ≤ 255 from nI_le (b := 255) j1 (by omega))]
    unfold x_X5_add
    rw [t2, t3, if_pos (show nI len < 240 from nI_lt (b := 240) (by omega) (by omega)), ix (by omega) (by omega), cl (by omega)]
    simp only [Option.bind_some, xl]
    rw [if_neg (by decide), if_neg (by decide), if_neg (fun h => by have := nI_inj (b := 240) (by omega) (by omega) h; omega), if_neg (fun h => h.elim (nI_pos (by omega)) (by omega))]
    refine ⟨_, _, rfl, rfl, rfl, ?_⟩
    refine ⟨by omega, h2, h3, ⟨len + 1, by omega, nI_1 len, nI_1 len, fun i hi => ?_⟩, pl, ch, D, h5, h6.mono (by omega), h7.mono (by omega), h8.mono (by omega), h9.mono (by omega), h10, h11⟩
    by_cases hi2 : i = len
    · subst hi2
      exact ⟨j, by omega, pk_us, pk_us⟩
    · obtain ⟨z, z1, z2, z3⟩ := t4 i (by omega)
      exact ⟨z, z1, (pk_un hi2).trans z2, (pk_un hi2).trans z3⟩
  · have hj2 : x_X10_in x1 0 255 = some 0 := hj2
    rw [hj2]
    have hR : ∀ (a b : Int32), Rel (n + 1) (va_up C 1 (va_up (va_up (C 1) 0 (C 1 0)) 1 (fun _ => C 1 1 0))) RF (va_up (va_up M 0 (fun _ => M 0 0)) 1 (M 1)) := fun _ _ => ⟨by omega, h2, h3, ⟨len, by omega, t2, t3, t4⟩, pl, ch, D, h5, h6.mono (by omega), h7.mono (by omega), h8.mono (by omega), h9.mono (by omega), h10, h11⟩
    by_cases hx : x1 < 0
    · rw [if_pos hx]
      exact ⟨_, _, rfl, rfl, rfl, hR 0 0⟩
    · rw [if_neg hx, if_neg (fun h => by
        rcases hj with h9 | h9
        · exact hx h9
        · exact (Int32.not_le.mpr h9) h)]
      exact ⟨_, _, rfl, rfl, rfl, hR 0 0⟩

theorem P_place {N n : Nat} (hN : 4096 ≤ N) (hn : n < 64) {C RF : Nat → St} {M : St} (h : Rel n C RF M) (x1 : Int32) (x2 : Int32) : ∃ (v : Int32) (w : Int32), x_X9_place (C 0) (C 4) (C 2) x1 x2 = some v ∧ x_X10_place M x1 x2 = some w ∧ v = w ∧ Rel (n + 1) C RF M := by
  have hR := Rel_step hn h
  obtain ⟨h1, h2, h3, h4, pl, ch, D, ⟨p1, p2, p3, p4, p5, p6, p7, p8, p9⟩, ⟨_, _, _, _, f5⟩, h7⟩ := h
  unfold x_X9_place x_X10_place
  rcases hp_place p4 p5 p1 x1 with ⟨j, hj, rfl, e1, e2⟩ | ⟨e1, e2⟩
  · rw [e1, e2]
    obtain ⟨a1, a2, a3, a4, a5, a6⟩ := p8 j hj
    obtain ⟨z, z1, z2, z3, z4⟩ := f5 j (by omega)
    rcases in_cases x2 0 2 (by omega) (by omega) with ⟨k, k0, k1, rfl, hk⟩ | ⟨hk, hk2⟩
    · have hk : x_X10_in (nI k) 0 2 = some 1 := hk
      rw [hk]
      rcases (show k = 0 ∨ k = 1 ∨ k = 2 by omega) with rfl | rfl | rfl
      · simp (disch := omega) only [li_0, li_1, li_2, li_3, li_4, li_5, li_6, li_7, li_8, li_9, li_10, li_11, li_15, li_16, li_20, li_30, li_32, li_48, li_57, li_58, li_59, li_60, li_61, li_63, li_64, li_80, li_85, li_88, li_99, li_100, li_112, li_115, li_152, li_162, li_172, li_173, li_174, li_240, li_255, li_348, li_1000, li_3306, nI_add, pk_mul, nI_ltI, nI_leI, nI_eq, nI_clamp, if_pos, if_neg, Option.bind_some]
        exact ⟨_, _, rfl, rfl, by rw [a3, Nat.add_zero, a4], hR⟩
      · simp (disch := omega) only [li_0, li_1, li_2, li_3, li_4, li_5, li_6, li_7, li_8, li_9, li_10, li_11, li_15, li_16, li_20, li_30, li_32, li_48, li_57, li_58, li_59, li_60, li_61, li_63, li_64, li_80, li_85, li_88, li_99, li_100, li_112, li_115, li_152, li_162, li_172, li_173, li_174, li_240, li_255, li_348, li_1000, li_3306, nI_add, pk_mul, nI_ltI, nI_leI, nI_eq, nI_clamp, if_pos, if_neg, Option.bind_some]
        exact ⟨_, _, rfl, rfl, by rw [a5, a6], hR⟩
      · simp (disch := omega) only [li_0, li_1, li_2, li_3, li_4, li_5, li_6, li_7, li_8, li_9, li_10, li_11, li_15, li_16, li_20, li_30, li_32, li_48, li_57, li_58, li_59, li_60, li_61, li_63, li_64, li_80, li_85, li_88, li_99, li_100, li_112, li_115, li_152, li_162, li_172, li_173, li_174, li_240, li_255, li_348, li_1000, li_3306, nI_add, pk_mul, nI_ltI, nI_leI, nI_eq, nI_clamp, if_pos, if_neg, Option.bind_some]
        exact ⟨_, _, rfl, rfl, by rw [z2, z3], hR⟩
    · have hk2 : x_X10_in x2 0 2 = some 0 := hk2
      have n0 : ¬ x2 = 0 := fun h => by subst h; revert hk; decide
      have n1 : ¬ x2 = 1 := fun h => by subst h; revert hk; decide
      have n2 : ¬ x2 = 2 := fun h => by subst h; revert hk; decide
      rw [hk2]
      simp only [Option.bind_some, if_neg n0, if_neg n1, if_neg n2]
      exact ⟨_, _, rfl, rfl, rfl, hR⟩
  · rw [e1, e2]
    exact ⟨_, _, rfl, rfl, rfl, hR⟩
theorem P_first {N n : Nat} (hN : 4096 ≤ N) (hn : n < 64) {C RF : Nat → St} {M : St} (h : Rel n C RF M) (x1 : Int32) (x2 : Int32) : ∃ (v : Int32) (w : Int32), x_X9_first (C 0) (C 4) (C 2) x1 x2 = some v ∧ x_X10_first M x1 x2 = some w ∧ v = w ∧ Rel (n + 1) C RF M := by
  have hR := Rel_step hn h
  obtain ⟨h1, h2, h3, h4, pl, ch, D, ⟨p1, p2, p3, p4, p5, p6, p7, p8, p9⟩, ⟨_, _, _, _, f5⟩, h7⟩ := h
  unfold x_X9_first x_X10_first
  rcases hp_place p4 p5 p1 x1 with ⟨j, hj, rfl, e1, e2⟩ | ⟨e1, e2⟩
  · rw [e1, e2]
    obtain ⟨z, z1, z2, z3, z4⟩ := f5 j (by omega)
    rcases hp_say x2 with ⟨t, ht, rfl, e3, e4⟩ | ⟨e3, e4⟩
    · rw [e3, e4]
      obtain ⟨y1, y2⟩ := z4 t ht
      simp (disch := omega) only [li_0, li_1, li_2, li_3, li_4, li_5, li_6, li_7, li_8, li_9, li_10, li_11, li_15, li_16, li_20, li_30, li_32, li_48, li_57, li_58, li_59, li_60, li_61, li_63, li_64, li_80, li_85, li_88, li_99, li_100, li_112, li_115, li_152, li_162, li_172, li_173, li_174, li_240, li_255, li_348, li_1000, li_3306, nI_add, pk_mul, nI_ltI, nI_leI, nI_eq, nI_clamp, if_pos, if_neg, Option.bind_some]
      exact ⟨_, _, rfl, rfl, by rw [Nat.mul_comm j 8]; exact y1, hR⟩
    · rw [e3, e4]
      exact ⟨_, _, rfl, rfl, rfl, hR⟩
  · rw [e1, e2]
    exact ⟨_, _, rfl, rfl, rfl, hR⟩
theorem P_write {N n : Nat} (hN : 4096 ≤ N) (hn : n < 64) {C RF : Nat → St} {M : St} (h : Rel n C RF M) (x1 : Int32) (x2 : Int32) : ∃ (v : Int32 × Int32 × (Nat → Int32) × (Nat → Int32)) (w : Int32 × Int32 × (Nat → Int32)), x_X9_write (C 0) (C 7) (C 2) x1 x2 = some v ∧ x_X10_write M x1 x2 = some w ∧ v.1 = w.1 ∧ Rel (n + 1) (va_up C 7 (va_up (va_up (va_up (C 7) 1 (fun _ => v.2.1)) 5 v.2.2.1) 6 v.2.2.2)) RF (va_up (va_up M 30 (fun _ => w.2.1)) 31 w.2.2) := by
  obtain ⟨h1, h2, h3, h4, pl, ch, D, ⟨p1, p2, p3, p4, p5, p6⟩, h6, h7, h8, h9, h10, ⟨d, d1, d2, d3, d4⟩⟩ := h
  have hR : ∀ (a b : Int32), Rel (n + 1) (va_up C 7 (va_up (va_up (va_up (C 7) 1 (fun _ => C 7 1 0)) 5 (C 7 5)) 6 (C 7 6))) RF (va_up (va_up M 30 (fun _ => M 30 0)) 31 (M 31)) := fun _ _ => ⟨by omega, h2, h3, h4.mono (by omega), pl, ch, D, ⟨p1, p2, p3, p4, p5, p6⟩, h6.mono (by omega), h7.mono (by omega), h8.mono (by omega), h9.mono (by omega), h10, ⟨d, d1, d2, d3, d4⟩⟩
  unfold x_X9_write x_X10_write
  rcases hp_place p4 p5 p1 x1 with ⟨j, hj, rfl, e1, e2⟩ | ⟨e1, e2⟩
  · rw [e1, e2]
    rcases in_cases x2 0 255 (by omega) (by omega) with ⟨k, k0, k1, rfl, hk⟩ | ⟨hk, hk2⟩
    · have hk : x_X10_in (nI k) 0 255 = some 1 := hk
      rw [hk]
      unfold x_X2_addEntry
      rw [d2, d3]
      by_cases hd : d = 15
      · subst hd
        simp (disch := omega) only [li_0, li_1, li_2, li_3, li_4, li_5, li_6, li_7, li_8, li_9, li_10, li_11, li_15, li_16, li_20, li_30, li_32, li_48, li_57, li_58, li_59, li_60, li_61, li_63, li_64, li_80, li_85, li_88, li_99, li_100, li_112, li_115, li_152, li_162, li_172, li_173, li_174, li_240, li_255, li_348, li_1000, li_3306, nI_add, pk_mul, nI_ltI, nI_leI, nI_eq, nI_clamp, if_pos, if_neg, Option.bind_some]
        refine ⟨_, _, rfl, rfl, rfl, ?_⟩
        have := hR 0 0
        rw [d2, d3] at this
        exact this
      · simp (disch := omega) only [li_0, li_1, li_2, li_3, li_4, li_5, li_6, li_7, li_8, li_9, li_10, li_11, li_15, li_16, li_20, li_30, li_32, li_48, li_57, li_58, li_59, li_60, li_61, li_63, li_64, li_80, li_85, li_88, li_99, li_100, li_112, li_115, li_152, li_162, li_172, li_173, li_174, li_240, li_255, li_348, li_1000, li_3306, nI_add, pk_mul, nI_ltI, nI_leI, nI_eq, nI_clamp, if_pos, if_neg, Option.bind_some, xl]
        refine ⟨_, _, rfl, rfl, rfl, ?_⟩
        refine ⟨by omega, h2, h3, h4.mono (by omega), pl, ch, D, ⟨p1, p2, p3, p4, p5, p6⟩, h6.mono (by omega), h7.mono (by omega), h8.mono (by omega), h9.mono (by omega), h10, ⟨d + 1, by omega, rfl, rfl, fun i hi => ?_⟩⟩
        by_cases hi2 : i = d
        · subst hi2
          exact ⟨j, k, hj, by omega, pk_us, (pk_un (by omega)).trans pk_us, pk_us, pk_us⟩
        · obtain ⟨pp, zz, y1, y2, y3, y4, y5, y6⟩ := d4 i (by omega)
          exact ⟨pp, zz, y1, y2, (pk_un hi2).trans y3, (pk_un (by omega)).trans ((pk_un (by omega)).trans y4), (pk_un hi2).trans y5, (pk_un (by omega)).trans ((pk_un (by omega)).trans y6)⟩
    · have hk2 : x_X10_in x2 0 255 = some 0 := hk2
      rw [hk2]
      by_cases hx : x2 < 0
      · simp only [Option.bind_some, if_neg z10, ite_true, if_pos hx]
        exact ⟨_, _, rfl, rfl, rfl, hR 0 0⟩
      · have hx2 : ¬ x2 ≤ 255 := fun h => by
          rcases hk with h9 | h9
          · exact hx h9
          · exact (Int32.not_le.mpr h9) h
        simp only [Option.bind_some, if_neg z10, ite_true, if_neg hx, if_neg hx2]
        exact ⟨_, _, rfl, rfl, rfl, hR 0 0⟩
  · rw [e1, e2]
    exact ⟨_, _, rfl, rfl, rfl, hR 0 0⟩
