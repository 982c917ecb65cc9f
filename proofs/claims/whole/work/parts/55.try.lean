/-! what is tried -/
theorem Rel_trial {n : Nat} (hn : n < 64) {C RF : Nat → St} {M : St} (h : Rel n C RF M) (X : St) (Y : Nat → Int32) : Rel (n + 1) (va_up C 5 X) RF (va_up M 21 Y) := Rel_step hn h
/-- emptied, with the clock set back -/
theorem FR.dry0 {N : Nat} (hN : 4096 ≤ N) {pl hb : Nat} {F : St} {A : Nat → Int32} (h : FR pl hb F A) : ∃ f2 f4 f5 f6 r, x_X0_drain N F = some (f2, f4, f5, f6) ∧ x_X10_dry N A = some r ∧ r 0 = nI 0 ∧ FR pl 0 (va_up (va_up (va_up (va_up (va_up F 0 (fun _ => 0)) 2 f2) 4 f4) 5 f5) 6 f6) (upd r 173 0) := by
  obtain ⟨f2, g2, k2⟩ := fill_eq hN (n := 10) (by omega) (a := F 2) (x := 0)
  obtain ⟨f4, g4, k4⟩ := fill_eq hN (n := 8) (by omega) (a := F 4) (x := 0)
  obtain ⟨f5, g5, k5⟩ := fill_eq hN (n := 64) (by omega) (a := F 5) (x := -1)
  obtain ⟨f6, g6, k6⟩ := fill_eq hN (n := 80) (by omega) (a := F 6) (x := 0)
  obtain ⟨r, r1, r2⟩ := dry_eq hN (a := A)
  refine ⟨f2, f4, f5, f6, r, ?_, r1, ?_, ?_⟩
  · unfold x_X0_drain
    rw [g2]
    show Option.bind (x_J7_fill_53178 N 8 (F 4) 0) _ = _
    rw [g4]
    show Option.bind (x_J7_fill_53178 N 64 (F 5) (-1)) _ = _
    rw [g5]
    show Option.bind (x_J7_fill_53178 N 80 (F 6) 0) _ = _
    rw [g6]
    rfl
  · rw [r2, if_pos (by omega), dryV_b (by omega)]
  · obtain ⟨⟨y, a1, a2, a3, a4⟩, ⟨z, b1, b2, b3⟩, c1, d1, e1⟩ := h
    refine ⟨⟨0, Nat.le_refl 0, rfl, pk_us, fun p k hp hk => ⟨0, by omega, ?_, ?_, fun _ => rfl⟩⟩, ⟨z, b1, b2, by rw [pk_un (by omega), r2, if_neg (by omega)]; exact b3⟩, fun c hc => ?_, fun c hc => ?_, fun p hp => ⟨0, by omega, ?_, ?_, fun t ht => ?_⟩⟩
    · rw [pk_un (by omega), r2, if_pos (by omega), dryV_b (by omega)]
    · show f6 (10 * p + (0 + k) % 10) = _
      rw [k6, if_pos (by omega)]; rfl
    · show f2 c = _
      rw [k2, if_pos hc, pk_un (by omega), r2, if_pos (by omega), dryV_b (by omega)]; rfl
    · rw [pk_un (by omega), r2, if_neg (by omega)]; exact d1 c hc
    · show f4 p = _
      rw [k4, if_pos hp]; rfl
    · rw [pk_un (by omega), r2, if_pos (by omega), dryV_b (by omega)]
    · show f5 (8 * p + t) = _ ∧ _
      rw [k5, if_pos (by omega), pk_un (by omega), r2, if_pos (by omega), dryV_a (by omega)]
      simp
theorem try_eq {N : Nat} (hN : 4096 ≤ N) {pl ch hb s : Nat} {D : Nat → Nat → Nat} {P M F T C0 : St} (hPR : PR pl ch D P (M 15 0) (M 16 0) (M 17 0) (M 18) (M 19)) (g : FR pl hb F (M 20)) (hpl : 0 < pl) (hs : s < 256) : ∃ v r, x_X9_tryOut N C0 F P T (nI s) = some v ∧ x_X10_layTried N M (nI s) = some r ∧ FR pl 61 (va_up (va_up (va_up (va_up (va_up (va_up (va_up T 0 (fun _ => v.1)) 1 (fun _ => v.2.1)) 2 v.2.2.1) 3 v.2.2.2.1) 4 v.2.2.2.2.1) 5 v.2.2.2.2.2.1) 6 v.2.2.2.2.2.2) r := by
  have c173 : (173 : Int32).toNatClampNeg = 173 := cl (k := 173) (by omega)
  have c0 : (0 : Int32).toNatClampNeg = 0 := rfl
  obtain ⟨B, k1, k2⟩ := copy_eq hN (na := 174) (nb := 174) (fr := 0) (to := 0) (a := M 20) (b := M 21) (by omega) (by omega) (by omega) (by omega)
  have k1 : x_X10_copy N 174 174 (M 20) (M 21) (0 : Int32) (0 : Int32) = some B := k1
  have g1 : FR pl hb (cpF T F) B := (g.cp (G := T)).row (fun j hj => by rw [k2, if_pos (by omega), show 0 + (j - 0) = j by omega])
  obtain ⟨f2, f4, f5, f6, r, d1, d2, d3, d4⟩ := g1.dry0 hN
  obtain ⟨z, z1, f6', z2, z3, z4⟩ := d4.come hN (by omega) hpl hs
  rw [pk_un (by omega), d3, nI_or, Nat.zero_or] at z3
  unfold x_X9_tryOut x_X10_layTried x_X0_copyFrom
  rw [k1]
  simp only [Option.bind_some, xl, c173, c0]
  rw [d1, d2]
  simp only [Option.bind_some]
  have z2' : x_X0_comeToSpring (va_up (va_up (va_up (va_up (va_up (va_up (va_up T 0 (fun _ => (0 : Int32))) 1 (fun _ => F 1 0)) 2 f2) 3 (va_cpy (F 3) (T 3) 0 0 10)) 4 f4) 5 f5) 6 f6) (nI s) = some (nI z, f6') := z2
  rw [z2', z3]
  simp only [Option.bind_some]
  obtain ⟨x, x', u1, u2, u3⟩ := lpc_sim
      (b1 := fun (q : Int32 × Int32 × (Nat → Int32) × (Nat → Int32) × (Nat → Int32) × (Nat → Int32)) => x_X9_tryOut_b37 N C0 F P (va_up (va_up (va_up (va_up (va_up (va_up (va_up T 0 (fun _ => q.2.1)) 1 (fun _ => F 1 0)) 2 q.2.2.1) 3 (va_cpy (F 3) (T 3) 0 0 10)) 4 q.2.2.2.1) 5 q.2.2.2.2.1) 6 q.2.2.2.2.2) q.1)
      (b2 := fun (q : Int32 × (Nat → Int32)) => x_X10_layTried_b38 N (va_up M 21 q.2) q.1)
      (I := fun k q q' => q.1 = nI k ∧ q'.1 = nI k ∧ FR pl k (va_up (va_up (va_up (va_up (va_up (va_up (va_up T 0 (fun _ => q.2.1)) 1 (fun _ => F 1 0)) 2 q.2.2.1) 3 (va_cpy (F 3) (T 3) 0 0 10)) 4 q.2.2.2.1) 5 q.2.2.2.2.1) 6 q.2.2.2.2.2) q'.2)
      (Pst := fun q q' => FR pl 61 (va_up (va_up (va_up (va_up (va_up (va_up (va_up T 0 (fun _ => q.1)) 1 (fun _ => F 1 0)) 2 q.2.1) 3 (va_cpy (F 3) (T 3) 0 0 10)) 4 q.2.2.1) 5 q.2.2.2.1) 6 q.2.2.2.2) q') 61 (fun k q q' hk hI => by
        obtain ⟨y1, y2, h2, h4, h5, h6⟩ := q
        obtain ⟨y1', A'⟩ := q'
        obtain ⟨rfl, rfl, hI⟩ := hI
        dsimp only at hI
        have e8 : nI k + (1 : Int32) = nI (k + 1) := by simp (disch := omega) only [li_0, li_1, li_2, li_3, li_4, li_5, li_6, li_7, li_8, li_9, li_10, li_11, li_15, li_16, li_20, li_30, li_32, li_48, li_57, li_58, li_59, li_60, li_61, li_63, li_64, li_80, li_85, li_88, li_99, li_100, li_112, li_115, li_152, li_162, li_172, li_173, li_174, li_240, li_255, li_348, li_1000, li_3306, nI_add]
        by_cases hk8 : k = 61
        · subst hk8
          right
          refine ⟨(y2, h2, h4, h5, h6), A', ?_, ?_, hI⟩
          · show x_X9_tryOut_b37 _ _ _ _ _ _ = _
            unfold x_X9_tryOut_b37
            rw [if_pos (show (60 : Int32) < nI 61 by decide)]
            rfl
          · show x_X10_layTried_b38 _ _ _ = _
            unfold x_X10_layTried_b38
            rw [if_pos (show (60 : Int32) < nI 61 by decide)]
            rfl
        · left
          have hn : ¬ (60 : Int32) < nI k := fun h => by have := (nI_ltI (a := 60) (by omega) (by omega)).mp h; omega
          obtain ⟨g0, g2, g4, g5, g6, r, w1, w2, w3, w4⟩ := hI.hour hN (M := va_up M 21 A') hPR (by omega)
          refine ⟨(nI (k + 1), g0, g2, g4, g5, g6), (nI (k + 1), r), ?_, ?_, by omega, rfl, rfl, w4.of rfl rfl rfl rfl rfl rfl rfl⟩
          · show x_X9_tryOut_b37 _ _ _ _ _ _ = _
            unfold x_X9_tryOut_b37
            rw [if_neg hn, w1, e8]
            rfl
          · show x_X10_layTried_b38 _ _ _ = _
            unfold x_X10_layTried_b38
            rw [if_neg hn]
            show Option.bind (x_X10_passHour N (va_up M 21 A') A') _ = _
            rw [w2, e8]
            rfl) (N := N) (z := ((0 : Int32), (0 : Int32), f2, f4, f5, f6')) (z' := ((0 : Int32), upd (upd r 173 0) 0 (nI z))) (by omega) ⟨rfl, rfl, z4.of rfl rfl rfl rfl rfl rfl rfl⟩
  obtain ⟨y2, h2, h4, h5, h6⟩ := x
  rw [u1, u2]
  exact ⟨_, _, rfl, rfl, u3.of rfl rfl rfl rfl rfl rfl rfl⟩
theorem try_in {pl ch : Nat} {D : Nat → Nat → Nat} {P M C0 : St} (hPR : PR pl ch D P (M 15 0) (M 16 0) (M 17 0) (M 18) (M 19)) (x1 x2 : Int32) :
    (∃ s p, s < 256 ∧ p < pl ∧ x1 = nI s ∧ x2 = nI p ∧ x_X9_refusalOfTry C0 P x1 x2 = some 0 ∧ x_X10_isPlace M x2 = some 1 ∧ x_X10_in x1 0 255 = some 1) ∨
    (x_X9_refusalOfTry C0 P x1 x2 = some (-1000000001) ∧ x_X10_isPlace M x2 = some 0) ∨
    (x_X9_refusalOfTry C0 P x1 x2 = some (-1000000002) ∧ x_X10_isPlace M x2 = some 1 ∧ x_X10_in x1 0 255 = some 0) := by
  unfold x_X9_refusalOfTry
  rcases hp_place hPR.2.2.2.1 hPR.2.2.2.2.1 hPR.1 x2 with ⟨p, hp, rfl, e1, e2⟩ | ⟨e1, e2⟩
  · rw [e1]
    simp only [Option.bind_some, if_neg z10]
    rcases in_cases x1 0 255 (by omega) (by omega) with ⟨m, m0, m1, rfl, hk⟩ | ⟨hk, hk2⟩
    · have a1 : ¬ nI m < 0 := fun h => by have := (nI_ltI (b := 0) (by omega) (by omega)).mp h; omega
      have a2 : nI m ≤ 255 := nI_le (b := 255) m1 (by omega)
      left
      exact ⟨m, p, by omega, hp, rfl, rfl, by rw [if_neg a1, if_pos a2], e2, hk⟩
    · right; right
      refine ⟨?_, e2, hk2⟩
      rcases hk with hk | hk
      · rw [if_pos (show x1 < 0 from hk)]
      · by_cases h1 : x1 < 0
        · rw [if_pos h1]
        · rw [if_neg h1, if_neg]
          intro h5
          have h5 := le_I.mp h5
          have hk := lt_I.mp hk
          have : (255 : Int32).toInt = (nI 255).toInt := rfl
          omega
  · right; left
    exact ⟨by rw [e1]; rfl, e2⟩
theorem P_hears {N n : Nat} (hN : 4096 ≤ N) (hn : n < 64) {C RF : Nat → St} {M : St} (h : Rel n C RF M) (x1 : Int32) (x2 : Int32) : ∃ (v : Int32 × Int32 × Int32 × (Nat → Int32) × (Nat → Int32) × (Nat → Int32) × (Nat → Int32) × (Nat → Int32)) (w : Int32 × (Nat → Int32)), x_X9_hears N (C 0) (C 4) (C 2) (C 5) x1 x2 = some v ∧ x_X10_hears N M x1 x2 = some w ∧ v.1 = w.1 ∧ Rel (n + 1) (va_up C 5 (va_up (va_up (va_up (va_up (va_up (va_up (va_up (C 5) 0 (fun _ => v.2.1)) 1 (fun _ => v.2.2.1)) 2 v.2.2.2.1) 3 v.2.2.2.2.1) 4 v.2.2.2.2.2.1) 5 v.2.2.2.2.2.2.1) 6 v.2.2.2.2.2.2.2)) RF (va_up M 21 w.2) := by
  have hrel := h
  obtain ⟨h1, h2, h3, h4, pl, ch, D, hPR, h6, h7, h8⟩ := h
  have r1 := hPR.1
  unfold x_X9_hears x_X10_hears
  rcases try_in (C0 := C 0) hPR x1 x2 with ⟨s, p, hs, hp, rfl, rfl, e1, e2, e3⟩ | ⟨e1, e2⟩ | ⟨e1, e2, e3⟩
  · obtain ⟨v, r, t1, t2, t3⟩ := try_eq hN (T := C 5) (C0 := C 0) hPR h6 (by omega) hs
    rw [e1, e2, e3, t1, t2]
    have e5 : (80 : Int32) + nI p = nI (80 + p) := by simp (disch := omega) only [li_0, li_1, li_2, li_3, li_4, li_5, li_6, li_7, li_8, li_9, li_10, li_11, li_15, li_16, li_20, li_30, li_32, li_48, li_57, li_58, li_59, li_60, li_61, li_63, li_64, li_80, li_85, li_88, li_99, li_100, li_112, li_115, li_152, li_162, li_172, li_173, li_174, li_240, li_255, li_348, li_1000, li_3306, nI_add]
    simp only [Option.bind_some, if_pos, if_neg z10, e5]
    rw [ix (by omega) (by omega), ix (by omega) (by omega), cl (by omega), cl (by omega)]
    refine ⟨_, _, rfl, rfl, ?_, Rel_trial hn hrel _ _⟩
    obtain ⟨z, z1, z2, z3, _⟩ := t3.2.2.2.2 p (by omega)
    exact Eq.trans z2 z3.symm
  · rw [e1, e2]
    exact ⟨_, _, rfl, rfl, rfl, Rel_trial hn hrel _ _⟩
  · rw [e1, e2, e3]
    exact ⟨_, _, rfl, rfl, rfl, Rel_trial hn hrel _ _⟩
theorem soon_eq {N : Nat} (hN : 4096 ≤ N) {pl hb : Nat} {F M : St} (g : FR pl hb F (M 21)) {p : Nat} (hp : p < 8) : ∃ x, x_X0_soonestAt N F (nI p) = some x ∧ lpc (fun (z : Int32 × Int32) => x_X10_soonest_b35 N M (nI p) z.1 z.2) N ((-1 : Int32), (0 : Int32)) = some x := by
  obtain ⟨w, w1, w2, w3, w4⟩ := g.2.2.2.2 p hp
  obtain ⟨x, x', u1, u2, u3⟩ := lpc_sim (b1 := fun (z : Int32 × Int32) => x_X0_soonestAt_b4 N F (nI p) z.1 z.2) (b2 := fun (z : Int32 × Int32) => x_X10_soonest_b35 N M (nI p) z.1 z.2) (I := fun k z z' => z = z' ∧ z.2 = nI k) (Pst := fun x x' => x = x') 8 (fun k z z' hk hI => by
    obtain ⟨rfl, hI⟩ := hI
    obtain ⟨y, z2⟩ := z
    dsimp only at hI
    subst hI
    dsimp only
    unfold x_X0_soonestAt_b4 x_X10_soonest_b35 x_X0_soonestAt_b4_k40 x_X10_soonest_b35_k81 x_X10_soonest_b35_k76 x_X10_soonest_b35_k82
    by_cases hk8 : k = 8
    · subst hk8
      right
      rw [if_pos (show (8 : Int32) ≤ nI 8 by decide), if_pos (show (8 : Int32) ≤ nI 8 by decide)]
      exact ⟨_, _, rfl, rfl, rfl⟩
    · left
      have hk' : k < 8 := by omega
      have n8 : ¬ (8 : Int32) ≤ nI k := nleI (a := 8) hk' (by omega)
      have e : (nI p * (8 : Int32)) + nI k = nI (8 * p + k) := by
        simp (disch := omega) only [li_0, li_1, li_2, li_3, li_4, li_5, li_6, li_7, li_8, li_9, li_10, li_11, li_15, li_16, li_20, li_30, li_32, li_48, li_57, li_58, li_59, li_60, li_61, li_63, li_64, li_80, li_85, li_88, li_99, li_100, li_112, li_115, li_152, li_162, li_172, li_173, li_174, li_240, li_255, li_348, li_1000, li_3306, nI_add, pk_mul]
        rw [Nat.mul_comm]
      have e' : ((88 : Int32) + ((8 : Int32) * nI p)) + nI k = nI (88 + 8 * p + k) := by
        simp (disch := omega) only [li_0, li_1, li_2, li_3, li_4, li_5, li_6, li_7, li_8, li_9, li_10, li_11, li_15, li_16, li_20, li_30, li_32, li_48, li_57, li_58, li_59, li_60, li_61, li_63, li_64, li_80, li_85, li_88, li_99, li_100, li_112, li_115, li_152, li_162, li_172, li_173, li_174, li_240, li_255, li_348, li_1000, li_3306, nI_add, pk_mul]
      have e8 : nI k + (1 : Int32) = nI (k + 1) := by simp (disch := omega) only [li_0, li_1, li_2, li_3, li_4, li_5, li_6, li_7, li_8, li_9, li_10, li_11, li_15, li_16, li_20, li_30, li_32, li_48, li_57, li_58, li_59, li_60, li_61, li_63, li_64, li_80, li_85, li_88, li_99, li_100, li_112, li_115, li_152, li_162, li_172, li_173, li_174, li_240, li_255, li_348, li_1000, li_3306, nI_add]
      rw [if_neg n8, if_neg n8, e, e', ix (by omega) (by omega), ix (by omega) (by omega), cl (by omega), cl (by omega), (w4 k hk').1, e8]
      unfold xl
      dsimp only
      by_cases c1 : M 21 (88 + 8 * p + k) = -1
      · rw [if_pos c1]
        exact ⟨_, _, rfl, rfl, hk', rfl, rfl⟩
      · rw [if_neg c1]
        by_cases c2 : y = -1
        · rw [if_pos c2]
          exact ⟨_, _, rfl, rfl, hk', rfl, rfl⟩
        · rw [if_neg c2]
          by_cases c3 : y ≤ M 21 (88 + 8 * p + k)
          · rw [if_pos c3]
            exact ⟨_, _, rfl, rfl, hk', rfl, rfl⟩
          · rw [if_neg c3]
            exact ⟨_, _, rfl, rfl, hk', rfl, rfl⟩) (N := N) (z := ((-1 : Int32), (0 : Int32))) (z' := ((-1 : Int32), (0 : Int32))) (by omega) ⟨rfl, rfl⟩
  subst u3
  refine ⟨x, ?_, u2⟩
  unfold x_X0_soonestAt
  rw [u1]
  rfl
theorem P_soonest {N n : Nat} (hN : 4096 ≤ N) (hn : n < 64) {C RF : Nat → St} {M : St} (h : Rel n C RF M) (x1 : Int32) (x2 : Int32) : ∃ (v : Int32 × Int32 × Int32 × (Nat → Int32) × (Nat → Int32) × (Nat → Int32) × (Nat → Int32) × (Nat → Int32)) (w : Int32 × (Nat → Int32)), x_X9_soonest N (C 0) (C 4) (C 2) (C 5) x1 x2 = some v ∧ x_X10_soonest N M x1 x2 = some w ∧ v.1 = w.1 ∧ Rel (n + 1) (va_up C 5 (va_up (va_up (va_up (va_up (va_up (va_up (va_up (C 5) 0 (fun _ => v.2.1)) 1 (fun _ => v.2.2.1)) 2 v.2.2.2.1) 3 v.2.2.2.2.1) 4 v.2.2.2.2.2.1) 5 v.2.2.2.2.2.2.1) 6 v.2.2.2.2.2.2.2)) RF (va_up M 21 w.2) := by
  have hrel := h
  obtain ⟨h1, h2, h3, h4, pl, ch, D, hPR, h6, h7, h8⟩ := h
  have r1 := hPR.1
  unfold x_X9_soonest x_X10_soonest
  rcases try_in (C0 := C 0) hPR x1 x2 with ⟨s, p, hs, hp, rfl, rfl, e1, e2, e3⟩ | ⟨e1, e2⟩ | ⟨e1, e2, e3⟩
  · obtain ⟨v, r, t1, t2, t3⟩ := try_eq hN (T := C 5) (C0 := C 0) hPR h6 (by omega) hs
    obtain ⟨x, u1, u2⟩ := soon_eq hN (M := va_up M 21 r) t3 (p := p) (by omega)
    rw [e1, e2, e3, t1, t2]
    simp only [Option.bind_some, if_pos, if_neg z10]
    rw [u1, u2]
    exact ⟨_, _, rfl, rfl, rfl, Rel_trial hn hrel _ _⟩
  · rw [e1, e2]
    exact ⟨_, _, rfl, rfl, rfl, Rel_trial hn hrel _ _⟩
  · rw [e1, e2, e3]
    exact ⟨_, _, rfl, rfl, rfl, Rel_trial hn hrel _ _⟩
