/-! hour -/
/-- whether hours are let pass -/
theorem hours_in {pl ch n : Nat} {D : Nat → Nat → Nat} {P M C0 F : St} (hn : n < 64) (hPR : PR pl ch D P (M 15 0) (M 16 0) (M 17 0) (M 18) (M 19)) (g : FR pl (60 * n) F (M 20)) (x1 : Int32) :
    (∃ m, 1 ≤ m ∧ m ≤ 60 ∧ x1 = nI m ∧ 0 < pl ∧ x_X9_refusalOfHours C0 F P x1 = some 0 ∧ x_X10_in x1 1 60 = some 1 ∧ ¬ M 16 0 = 0 ∧ M 20 173 ≤ 9000) ∨
    (x_X9_refusalOfHours C0 F P x1 = some (-1000000003) ∧ x_X10_in x1 1 60 = some 1 ∧ M 16 0 = 0) ∨
    (x_X9_refusalOfHours C0 F P x1 = some (-1000000002) ∧ x_X10_in x1 1 60 = some 0) := by
  have r4 := hPR.2.2.2.1
  have r5 := hPR.2.2.2.2.1
  have r1 := hPR.1
  obtain ⟨h, h1, h2, h3, _⟩ := g.1
  unfold x_X9_refusalOfHours
  rcases in_cases x1 1 60 (by omega) (by omega) with ⟨m, m0, m1, rfl, hk⟩ | ⟨hk, hk2⟩
  · have a1 : ¬ nI m < 1 := fun h => by have := (nI_ltI (b := 1) (by omega) (by omega)).mp h; omega
    have a2 : nI m ≤ 60 := nI_le (b := 60) m1 (by omega)
    have a3 : nI h ≤ 9000 := nI_le (b := 9000) (by omega) (by omega)
    rw [if_neg a1, if_pos a2]
    by_cases hpl : pl = 0
    · subst hpl
      right; left
      exact ⟨by rw [r4, if_pos (show nI 0 = 0 from rfl)], hk, r5⟩
    · have b1 : ¬ nI pl = 0 := fun h => hpl (nI_inj (b := 0) (by omega) (by omega) h)
      left
      exact ⟨m, m0, m1, rfl, by omega, by rw [r4, if_neg b1, h2, if_pos a3], hk, by rw [r5]; exact b1, by rw [h3]; exact a3⟩
  · right; right
    refine ⟨?_, hk2⟩
    rcases hk with hk | hk
    · rw [if_pos (show x1 < 1 from hk)]
    · by_cases h1 : x1 < 1
      · rw [if_pos h1]
      · rw [if_neg h1, if_neg]
        intro h5
        have h5 := le_I.mp h5
        have hk := lt_I.mp hk
        have : (60 : Int32).toInt = (nI 60).toInt := rfl
        omega
theorem P_hour {N n : Nat} (hN : 4096 ≤ N) (hn : n < 64) {C RF : Nat → St} {M : St} (h : Rel n C RF M) (RQ : Nat → Ad) (x1 : Int32) : ∃ (v : Int32 × Int32 × (Nat → Int32) × (Nat → Int32) × (Nat → Int32) × (Nat → Int32) × Int32 × Int32 × Int32 × Int32 × (Nat → Int32) × (Nat → Int32) × (Nat → Int32) × (Nat → Int32) × (Nat → Int32)) (w : Int32 × (Nat → Int32) × (Nat → Int32) × Int32), x_X9_hour N (RQ (kr C) 7) (C 0) (C 4) (C 6) (fun i => some (RQ i 7)) (RF (kr C)) (C 2) x1 = some v ∧ x_X10_hour N M x1 = some w ∧ v.1 = w.1 ∧ Rel (n + 1) (va_up (va_up C 4 (va_up (va_up (va_up (va_up (va_up (C 4) 0 (fun _ => v.2.1)) 2 v.2.2.1) 4 v.2.2.2.1) 5 v.2.2.2.2.1) 6 v.2.2.2.2.2.1)) 6 (va_up (va_up (C 6) 0 (fun _ => v.2.2.2.2.2.2.1)) 1 (fun _ => v.2.2.2.2.2.2.2.1))) (va_up RF (kr C) (va_up (va_up (va_up (va_up (va_up (va_up (va_up (RF (kr C)) 0 (fun _ => v.2.2.2.2.2.2.2.2.1)) 1 (fun _ => v.2.2.2.2.2.2.2.2.2.1)) 2 v.2.2.2.2.2.2.2.2.2.2.1) 3 v.2.2.2.2.2.2.2.2.2.2.2.1) 4 v.2.2.2.2.2.2.2.2.2.2.2.2.1) 5 v.2.2.2.2.2.2.2.2.2.2.2.2.2.1) 6 v.2.2.2.2.2.2.2.2.2.2.2.2.2.2)) (va_up (va_up (va_up M 20 w.2.1) 22 w.2.2.1) 23 (fun _ => w.2.2.2)) := by
  have hs := h.2.2.1
  have hrel := h
  have c173 : (173 : Int32).toNatClampNeg = 173 := cl (k := 173) (by omega)
  obtain ⟨h1, h2, h3, h4, pl, ch, D, hPR, h6, h7, h8⟩ := h
  unfold kr x_X9_hour x_X10_hour
  rcases hours_in (C0 := C 0) hn hPR h6 x1 with ⟨m, m0, m1, rfl, hpl, e1, e2, e3, e4⟩ | ⟨e1, e2, e3⟩ | ⟨e1, e2⟩
  · obtain ⟨b0, b1, w, q1, q2, q3⟩ := push_note hN RQ h7 h6
    rw [e1, e2, q1, q2, c173]
    simp only [Option.bind_some, if_pos, if_neg z10, if_neg e3, if_pos e4]
    obtain ⟨x, x', u1, u2, u3, u4⟩ := lpc_sim
      (b1 := fun (z : Int32 × Int32 × (Nat → Int32) × (Nat → Int32) × (Nat → Int32) × (Nat → Int32)) => x_X9_hour_b25 N (RQ (C 6 1 0).toNatClampNeg 7) (C 0) (va_up (va_up (va_up (va_up (va_up (C 4) 0 (fun _ => z.2.1)) 2 z.2.2.1) 4 z.2.2.2.1) 5 z.2.2.2.2.1) 6 z.2.2.2.2.2) (va_up (va_up (C 6) 0 (fun _ => b0)) 1 (fun _ => b1)) (fun i => some (RQ i 7)) (cpF (RF (C 6 1 0).toNatClampNeg) (C 4)) (C 2) (nI m) z.1)
      (b2 := fun (z : Int32 × (Nat → Int32)) => x_X10_hour_b46 N (va_up (va_up (va_up M 20 z.2) 22 w.1) 23 (fun _ => w.2)) (nI m) z.1)
      (I := fun k z z' => z.1 = nI k ∧ z'.1 = nI k ∧ z.2.1 = z'.2 173 ∧ FR pl (60 * n + k) (va_up (va_up (va_up (va_up (va_up (C 4) 0 (fun _ => z.2.1)) 2 z.2.2.1) 4 z.2.2.2.1) 5 z.2.2.2.2.1) 6 z.2.2.2.2.2) z'.2)
      (Pst := fun z z' => z.1 = z' 173 ∧ FR pl (60 * n + m) (va_up (va_up (va_up (va_up (va_up (C 4) 0 (fun _ => z.1)) 2 z.2.1) 4 z.2.2.1) 5 z.2.2.2.1) 6 z.2.2.2.2) z') m (fun k z z' hk hI => by
        obtain ⟨z1, z2, f2, f4, f5, f6⟩ := z
        obtain ⟨z1', A'⟩ := z'
        obtain ⟨rfl, rfl, hI1, hI⟩ := hI
        dsimp only at hI1 hI
        by_cases hk8 : k = m
        · subst hk8
          right
          refine ⟨(z2, f2, f4, f5, f6), A', ?_, ?_, hI1, hI⟩
          · show x_X9_hour_b25 _ _ _ _ _ _ _ _ _ _ = _
            unfold x_X9_hour_b25
            rw [if_pos (nI_le (Nat.le_refl _) (by omega))]
            rfl
          · show x_X10_hour_b46 _ _ _ _ = _
            unfold x_X10_hour_b46
            rw [if_pos (nI_le (Nat.le_refl _) (by omega))]
            rfl
        · left
          obtain ⟨g0, g2, g4, g5, g6, r, y1, y2, y3, y4⟩ := hI.hour hN (M := va_up (va_up (va_up M 20 A') 22 w.1) 23 (fun _ => w.2)) hPR (by omega)
          have e8 : nI k + (1 : Int32) = nI (k + 1) := by simp (disch := omega) only [li_0, li_1, li_2, li_3, li_4, li_5, li_6, li_7, li_8, li_9, li_10, li_11, li_15, li_16, li_20, li_30, li_32, li_48, li_57, li_58, li_59, li_60, li_61, li_63, li_64, li_80, li_85, li_88, li_99, li_100, li_112, li_115, li_152, li_162, li_172, li_173, li_174, li_240, li_255, li_348, li_1000, li_3306, nI_add]
          refine ⟨(nI (k + 1), g0, g2, g4, g5, g6), (nI (k + 1), r), ?_, ?_, by omega, rfl, rfl, y3, y4.of rfl rfl rfl rfl rfl rfl rfl⟩
          · show x_X9_hour_b25 _ _ _ _ _ _ _ _ _ _ = _
            unfold x_X9_hour_b25
            rw [if_neg (nleI (by omega) (by omega)), y1, e8]
            rfl
          · show x_X10_hour_b46 _ _ _ _ = _
            unfold x_X10_hour_b46
            rw [if_neg (nleI (by omega) (by omega)), e8]
            show Option.bind (x_X10_passHour N (va_up (va_up (va_up M 20 A') 22 w.1) 23 (fun _ => w.2)) A') _ = _
            rw [y2]
            rfl) (N := N) (z := ((0 : Int32), C 4 0 0, C 4 2, C 4 4, C 4 5, C 4 6)) (z' := ((0 : Int32), M 20)) (by omega) ⟨rfl, rfl, by obtain ⟨y, y1, y2, y3, _⟩ := h6.1; exact y2.trans y3.symm, h6.of rfl rfl rfl rfl rfl rfl rfl⟩
    obtain ⟨x0, f2, f4, f5, f6⟩ := x
    rw [u1, u2]
    simp only [Option.bind_some]
    refine ⟨_, _, rfl, rfl, u3, ?_⟩
    refine Rel_push (F := va_up (va_up (va_up (va_up (va_up (C 4) 0 (fun _ => x0)) 2 f2) 4 f4) 5 f5) 6 f6) hn hrel hs (fun pl' hq hf hpa => ?_) rfl rfl rfl rfl rfl rfl rfl rfl rfl rfl rfl rfl rfl rfl rfl rfl rfl rfl rfl rfl rfl rfl rfl rfl rfl rfl rfl rfl rfl rfl
    obtain ⟨ch', D', hq⟩ := hq
    have e := PR_pl hPR hq
    subst e
    exact ⟨q3, u4.mono (by omega)⟩
  · rw [e1, e2]
    simp only [Option.bind_some, if_neg z10, if_pos e3]
    exact ⟨_, _, rfl, rfl, rfl, Rel_refp hn hrel _ rfl rfl rfl rfl rfl rfl rfl rfl rfl rfl rfl rfl rfl rfl rfl rfl rfl rfl rfl rfl rfl rfl rfl rfl rfl rfl rfl rfl rfl rfl rfl rfl rfl rfl rfl rfl⟩
  · rw [e1, e2]
    exact ⟨_, _, rfl, rfl, rfl, Rel_refp hn hrel _ rfl rfl rfl rfl rfl rfl rfl rfl rfl rfl rfl rfl rfl rfl rfl rfl rfl rfl rfl rfl rfl rfl rfl rfl rfl rfl rfl rfl rfl rfl rfl rfl rfl rfl rfl rfl⟩
