/-! works -/
theorem cp53 {N pl : Nat} (hN : 4096 ≤ N) {M : St} (hM : M 16 0 = nI pl) (hpl : pl ≤ 8) (a : Nat → Int32) : ∃ r, lpc (fun (z : Int32 × (Nat → Int32)) => x_X10_works_b53 N (va_up M 18 z.2) z.1) N ((0 : Int32), a) = some r ∧ ∀ k, k < 2 * pl → r k = M 13 k := by
  obtain ⟨x, u1, u2⟩ := lpc_run (body := fun (z : Int32 × (Nat → Int32)) => x_X10_works_b53 N (va_up M 18 z.2) z.1) (I := fun k z => z.1 = nI k ∧ ∀ j, j < k → z.2 j = M 13 j) (Pst := fun r => ∀ j, j < 2 * pl → r j = M 13 j) (2 * pl) (fun k z hk hI => by
    obtain ⟨z1, f⟩ := z
    obtain ⟨rfl, h1⟩ := hI
    dsimp only at h1
    show (∃ z', x_X10_works_b53 N (va_up M 18 f) (nI k) = _ ∧ _) ∨ (∃ x, x_X10_works_b53 N (va_up M 18 f) (nI k) = _ ∧ _)
    have t16 : (va_up M 18 f) 16 0 = nI pl := hM
    have t13 : (va_up M 18 f) 13 = M 13 := rfl
    have t18 : (va_up M 18 f) 18 = f := rfl
    have e2 : (2 : Int32) * nI pl = nI (2 * pl) := pk_mul 2 pl
    unfold x_X10_works_b53 xl
    rw [t16, t13, t18, e2]
    by_cases hk8 : k = 2 * pl
    · subst hk8
      right
      rw [if_pos (nI_le (Nat.le_refl _) (by omega))]
      exact ⟨_, rfl, h1⟩
    · left
      have e8 : nI k + (1 : Int32) = nI (k + 1) := nI_add k 1
      have i16 : ¬ (nI k < 0 ∨ 16 ≤ k) := by have := nI_in (c := k) (N := 16) (by omega) (by omega); rwa [cl (by omega)] at this
      rw [if_neg (nleI (show k < 2 * pl by omega) (by omega)), cl (by omega), if_neg i16, if_neg i16, e8]
      refine ⟨_, rfl, by omega, rfl, fun j hj => ?_⟩
      show upd f k (M 13 k) j = _
      by_cases hjk : j = k
      · rw [hjk, pk_us]
      · rw [pk_un hjk]; exact h1 j (by omega)) (N := N) (z := ((0 : Int32), a)) (by omega) ⟨rfl, fun j hj => absurd hj (Nat.not_lt_zero j)⟩
  exact ⟨x, u1, u2⟩
theorem cp83 {N ch : Nat} (hN : 4096 ≤ N) {M : St} (hM : M 17 0 = nI ch) (hch : ch ≤ 10) (a : Nat → Int32) : ∃ r, lpc (fun (z : Int32 × (Nat → Int32)) => x_X10_works_b83 N (va_up M 19 z.2) z.1) N ((0 : Int32), a) = some r ∧ ∀ k, k < 3 * ch → r k = M 14 k := by
  obtain ⟨x, u1, u2⟩ := lpc_run (body := fun (z : Int32 × (Nat → Int32)) => x_X10_works_b83 N (va_up M 19 z.2) z.1) (I := fun k z => z.1 = nI k ∧ ∀ j, j < k → z.2 j = M 14 j) (Pst := fun r => ∀ j, j < 3 * ch → r j = M 14 j) (3 * ch) (fun k z hk hI => by
    obtain ⟨z1, f⟩ := z
    obtain ⟨rfl, h1⟩ := hI
    dsimp only at h1
    show (∃ z', x_X10_works_b83 N (va_up M 19 f) (nI k) = _ ∧ _) ∨ (∃ x, x_X10_works_b83 N (va_up M 19 f) (nI k) = _ ∧ _)
    have t17 : (va_up M 19 f) 17 0 = nI ch := hM
    have t14 : (va_up M 19 f) 14 = M 14 := rfl
    have t19 : (va_up M 19 f) 19 = f := rfl
    have e2 : (3 : Int32) * nI ch = nI (3 * ch) := pk_mul 3 ch
    unfold x_X10_works_b83 xl
    rw [t17, t14, t19, e2]
    by_cases hk8 : k = 3 * ch
    · subst hk8
      right
      rw [if_pos (nI_le (Nat.le_refl _) (by omega))]
      exact ⟨_, rfl, h1⟩
    · left
      have e8 : nI k + (1 : Int32) = nI (k + 1) := nI_add k 1
      have i30 : ¬ (nI k < 0 ∨ 30 ≤ k) := by have := nI_in (c := k) (N := 30) (by omega) (by omega); rwa [cl (by omega)] at this
      rw [if_neg (nleI (show k < 3 * ch by omega) (by omega)), cl (by omega), if_neg i30, if_neg i30, e8]
      refine ⟨_, rfl, by omega, rfl, fun j hj => ?_⟩
      show upd f k (M 14 k) j = _
      by_cases hjk : j = k
      · rw [hjk, pk_us]
      · rw [pk_un hjk]; exact h1 j (by omega)) (N := N) (z := ((0 : Int32), a)) (by omega) ⟨rfl, fun j hj => absurd hj (Nat.not_lt_zero j)⟩
  exact ⟨x, u1, u2⟩
theorem PR.copy {pl ch : Nat} {D : Nat → Nat → Nat} {P : St} {m15 m16 m17 : Int32} {m18 m19 r18 r19 : Nat → Int32} (h : PR pl ch D P m15 m16 m17 m18 m19) (h18 : ∀ k, k < 2 * pl → r18 k = m18 k) (h19 : ∀ k, k < 3 * ch → r19 k = m19 k) : PR pl ch D P m15 m16 m17 r18 r19 := by
  obtain ⟨r1, r2, r3, r4, r5, r6, r7, r8, r9, r10, r11, r12⟩ := h
  refine ⟨r1, r2, r3, r4, r5, r6, r7, fun i hi => ?_, fun j hj => ?_, r10, r11, r12⟩
  · rw [h18 (2 * i) (by omega), h18 (2 * i + 1) (by omega)]
    exact r8 i hi
  · rw [h19 (3 * j) (by omega), h19 (3 * j + 1) (by omega), h19 (3 * j + 2) (by omega)]
    exact r9 j hj
theorem FR_new {N : Nat} (hN : 4096 ≤ N) (pl hb : Nat) (F : St) (A : Nat → Int32) : ∃ f2 f3 f4 f5 f6 vd, x_X0_begin N F = some ((0 : Int32), (0 : Int32), f2, f3, f4, f5, f6) ∧ x_X10_dry N A = some vd ∧ ∀ M' : St, M' 20 = vd → ∃ vo, x_X10_open N M' = some vo ∧ FR pl hb (va_up (va_up (va_up (va_up (va_up (va_up (va_up F 0 (fun _ => (0 : Int32))) 1 (fun _ => (0 : Int32))) 2 f2) 3 f3) 4 f4) 5 f5) 6 f6) vo := by
  obtain ⟨f3, g3, k3⟩ := fill_eq hN (n := 10) (by omega) (a := F 3) (x := -1)
  obtain ⟨f2, g2, k2⟩ := fill_eq hN (n := 10) (by omega) (a := F 2) (x := 0)
  obtain ⟨f4, g4, k4⟩ := fill_eq hN (n := 8) (by omega) (a := F 4) (x := 0)
  obtain ⟨f5, g5, k5⟩ := fill_eq hN (n := 64) (by omega) (a := F 5) (x := -1)
  obtain ⟨f6, g6, k6⟩ := fill_eq hN (n := 80) (by omega) (a := F 6) (x := 0)
  obtain ⟨vd, d1, d2⟩ := dry_eq hN (a := A)
  have hd : x_X0_drain N (va_up (va_up (va_up F 0 (fun _ => (0 : Int32))) 1 (fun _ => (0 : Int32))) 3 f3) = some (f2, f4, f5, f6) := by
    unfold x_X0_drain
    show Option.bind (x_J7_fill_53178 N 10 (F 2) 0) _ = _
    rw [g2]
    show Option.bind (x_J7_fill_53178 N 8 (F 4) 0) _ = _
    rw [g4]
    show Option.bind (x_J7_fill_53178 N 64 (F 5) (-1)) _ = _
    rw [g5]
    show Option.bind (x_J7_fill_53178 N 80 (F 6) 0) _ = _
    rw [g6]
    rfl
  refine ⟨f2, f3, f4, f5, f6, vd, ?_, d1, fun M' hM' => ?_⟩
  · unfold x_X0_begin
    rw [g3]
    simp only [Option.bind_some]
    rw [hd]
    rfl
  · obtain ⟨vo, o1, o2⟩ := open_eq hN (M := M')
    rw [hM'] at o2
    refine ⟨vo, o1, ⟨0, by omega, rfl, ?_, fun p k hp hk => ⟨0, by omega, ?_, ?_, fun _ => rfl⟩⟩, ⟨0, by omega, rfl, ?_⟩, fun c hc => ?_, fun c hc => ⟨?_, Or.inl ?_⟩, fun p hp => ⟨0, by omega, ?_, ?_, fun t ht => ⟨?_, ?_⟩⟩⟩
    · rw [o2, if_neg (by omega), if_pos (Or.inr rfl)]; rfl
    · rw [o2, if_neg (by omega), if_neg (by omega), d2, if_pos (by omega), dryV_b (by omega)]
    · show f6 (10 * p + (0 + k) % 10) = _
      rw [k6, if_pos (by omega)]; rfl
    · rw [o2, if_neg (by omega), if_pos (Or.inl rfl)]; rfl
    · show f2 c = vo (152 + c)
      rw [k2, if_pos hc, o2, if_neg (by omega), if_neg (by omega), d2, if_pos (by omega), dryV_b (by omega)]; rfl
    · show f3 c = vo (162 + c)
      rw [k3, if_pos hc, o2, if_pos (by omega)]
    · rw [o2, if_pos (by omega)]
    · show f4 p = _
      rw [k4, if_pos hp]; rfl
    · rw [o2, if_neg (by omega), if_neg (by omega), d2, if_pos (by omega), dryV_b (by omega)]
    · show f5 (8 * p + t) = vo (88 + 8 * p + t)
      rw [k5, if_pos (by omega), o2, if_neg (by omega), if_neg (by omega), d2, if_pos (by omega), dryV_a (by omega)]
    · rw [o2, if_neg (by omega), if_neg (by omega), d2, if_pos (by omega), dryV_a (by omega)]
      simp
theorem RTx.fn {n : Nat} {cl' ml : Int32} {ca ma : Nat → Int32} (h : RTx n cl' ml ca ma) : ∃ len tx, len ≤ n ∧ cl' = nI len ∧ ml = nI len ∧ TX tx len ca ∧ TX tx len ma := by
  obtain ⟨len, h1, h2, h3, h4⟩ := h
  refine ⟨len, fun i => (ca i).toNatClampNeg, h1, h2, h3, fun i hi => ?_, fun i hi => ?_⟩
  · obtain ⟨z, z1, z2, z3⟩ := h4 i hi
    dsimp only
    rw [z2, cl (by omega)]; exact ⟨z1, rfl⟩
  · obtain ⟨z, z1, z2, z3⟩ := h4 i hi
    dsimp only
    rw [z2, cl (by omega)]; exact ⟨z1, z3⟩
theorem nar0 : vp_nar .boolean (0 : Int32) = 0 := rfl
theorem P_works {N n : Nat} (hN : 4096 ≤ N) (hn : n < 64) {C RF : Nat → St} {M : St} (h : Rel n C RF M) (u : Nat → Ad) : ∃ (v : Int32 × Nat × Nat × Int32 × Int32 × (Nat → Int32) × (Nat → Int32) × (Nat → Int32) × (Nat → Int32) × (Nat → Int32) × Int32 × Int32 × Int32 × Int32 × Int32 × Int32 × Int32 × Int32 × Int32 × Int32 × Int32 × Int32 × Int32 × (Nat → Int32) × (Nat → Int32) × (Nat → Int32) × (Nat → Int32) × (Nat → Int32) × (Nat → Int32)) (w : Int32 × Int32 × Int32 × Int32 × Int32 × Int32 × Int32 × Int32 × Int32 × Int32 × Int32 × Int32 × Int32 × (Nat → Int32) × (Nat → Int32) × Int32 × Int32 × Int32 × (Nat → Int32) × (Nat → Int32) × (Nat → Int32) × Int32 × (Nat → Int32) × Int32 × Int32), x_X9_works N (u 12 7) (u 13 7) (u 0) (C 0) (fun i => some (u (12 + i) 7)) (C 4) (C 12) (C 13) (C 7) (C 6) (C 1) (C 3) = some v ∧ x_X10_works N M = some w ∧ v.1 = w.1 ∧ ((v.2.1 = u 0 1 ∧ v.2.2.1 = u 0 2 ∧ Rel (n + 1) (va_up (va_up (va_up (va_up (va_up (va_up (va_up C 1 (va_up (va_up (va_up (va_up (va_up (C 1) 1 (fun _ => v.2.2.2.2.2.2.2.2.2.2.2.2.2.2.2.1)) 2 (fun _ => v.2.2.2.2.2.2.2.2.2.2.2.2.2.2.2.2.1)) 3 (fun _ => v.2.2.2.2.2.2.2.2.2.2.2.2.2.2.2.2.2.1)) 4 (fun _ => v.2.2.2.2.2.2.2.2.2.2.2.2.2.2.2.2.2.2.1)) 5 (fun _ => v.2.2.2.2.2.2.2.2.2.2.2.2.2.2.2.2.2.2.2.1))) 12 (va_up (C 12) 0 (fun _ => v.2.2.2.2.2.2.2.2.2.2.1))) 13 (va_up (C 13) 0 (fun _ => v.2.2.2.2.2.2.2.2.2.2.2.1))) 3 (va_up (va_up (va_up (va_up (va_up (va_up (va_up (va_up (va_up (C 3) 0 (fun _ => v.2.2.2.2.2.2.2.2.2.2.2.2.2.2.2.2.2.2.2.2.1)) 1 (fun _ => v.2.2.2.2.2.2.2.2.2.2.2.2.2.2.2.2.2.2.2.2.2.1)) 2 (fun _ => v.2.2.2.2.2.2.2.2.2.2.2.2.2.2.2.2.2.2.2.2.2.2.1)) 3 v.2.2.2.2.2.2.2.2.2.2.2.2.2.2.2.2.2.2.2.2.2.2.2.1) 4 v.2.2.2.2.2.2.2.2.2.2.2.2.2.2.2.2.2.2.2.2.2.2.2.2.1) 5 v.2.2.2.2.2.2.2.2.2.2.2.2.2.2.2.2.2.2.2.2.2.2.2.2.2.1) 6 v.2.2.2.2.2.2.2.2.2.2.2.2.2.2.2.2.2.2.2.2.2.2.2.2.2.2.1) 7 v.2.2.2.2.2.2.2.2.2.2.2.2.2.2.2.2.2.2.2.2.2.2.2.2.2.2.2.1) 8 v.2.2.2.2.2.2.2.2.2.2.2.2.2.2.2.2.2.2.2.2.2.2.2.2.2.2.2.2)) 4 (va_up (va_up (va_up (va_up (va_up (va_up (va_up (C 4) 0 (fun _ => v.2.2.2.1)) 1 (fun _ => v.2.2.2.2.1)) 2 v.2.2.2.2.2.1) 3 v.2.2.2.2.2.2.1) 4 v.2.2.2.2.2.2.2.1) 5 v.2.2.2.2.2.2.2.2.1) 6 v.2.2.2.2.2.2.2.2.2.1)) 6 (va_up (C 6) 0 (fun _ => v.2.2.2.2.2.2.2.2.2.2.2.2.2.2.1))) 7 (va_up (va_up (C 7) 0 (fun _ => v.2.2.2.2.2.2.2.2.2.2.2.2.1)) 1 (fun _ => v.2.2.2.2.2.2.2.2.2.2.2.2.2.1))) RF (va_up (va_up (va_up (va_up (va_up (va_up (va_up (va_up (va_up (va_up (va_up (va_up (va_up (va_up (va_up (va_up (va_up (va_up (va_up (va_up (va_up (va_up (va_up (va_up M 0 (fun _ => w.2.1)) 2 (fun _ => w.2.2.1)) 3 (fun _ => w.2.2.2.1)) 4 (fun _ => w.2.2.2.2.1)) 5 (fun _ => w.2.2.2.2.2.1)) 6 (fun _ => w.2.2.2.2.2.2.1)) 7 (fun _ => w.2.2.2.2.2.2.2.1)) 8 (fun _ => w.2.2.2.2.2.2.2.2.1)) 9 (fun _ => w.2.2.2.2.2.2.2.2.2.1)) 10 (fun _ => w.2.2.2.2.2.2.2.2.2.2.1)) 11 (fun _ => w.2.2.2.2.2.2.2.2.2.2.2.1)) 12 (fun _ => w.2.2.2.2.2.2.2.2.2.2.2.2.1)) 13 w.2.2.2.2.2.2.2.2.2.2.2.2.2.1) 14 w.2.2.2.2.2.2.2.2.2.2.2.2.2.2.1) 15 (fun _ => w.2.2.2.2.2.2.2.2.2.2.2.2.2.2.2.1)) 16 (fun _ => w.2.2.2.2.2.2.2.2.2.2.2.2.2.2.2.2.1)) 17 (fun _ => w.2.2.2.2.2.2.2.2.2.2.2.2.2.2.2.2.2.1)) 18 w.2.2.2.2.2.2.2.2.2.2.2.2.2.2.2.2.2.2.1) 19 w.2.2.2.2.2.2.2.2.2.2.2.2.2.2.2.2.2.2.2.1) 20 w.2.2.2.2.2.2.2.2.2.2.2.2.2.2.2.2.2.2.2.2.1) 23 (fun _ => w.2.2.2.2.2.2.2.2.2.2.2.2.2.2.2.2.2.2.2.2.2.1)) 26 w.2.2.2.2.2.2.2.2.2.2.2.2.2.2.2.2.2.2.2.2.2.2.1) 28 (fun _ => w.2.2.2.2.2.2.2.2.2.2.2.2.2.2.2.2.2.2.2.2.2.2.2.1)) 30 (fun _ => w.2.2.2.2.2.2.2.2.2.2.2.2.2.2.2.2.2.2.2.2.2.2.2.2))) ∨ (v.2.1 = u 0 2 ∧ v.2.2.1 = u 0 1 ∧ Rel (n + 1) (swC (va_up (va_up (va_up (va_up (va_up (va_up (va_up C 1 (va_up (va_up (va_up (va_up (va_up (C 1) 1 (fun _ => v.2.2.2.2.2.2.2.2.2.2.2.2.2.2.2.1)) 2 (fun _ => v.2.2.2.2.2.2.2.2.2.2.2.2.2.2.2.2.1)) 3 (fun _ => v.2.2.2.2.2.2.2.2.2.2.2.2.2.2.2.2.2.1)) 4 (fun _ => v.2.2.2.2.2.2.2.2.2.2.2.2.2.2.2.2.2.2.1)) 5 (fun _ => v.2.2.2.2.2.2.2.2.2.2.2.2.2.2.2.2.2.2.2.1))) 12 (va_up (C 12) 0 (fun _ => v.2.2.2.2.2.2.2.2.2.2.1))) 13 (va_up (C 13) 0 (fun _ => v.2.2.2.2.2.2.2.2.2.2.2.1))) 3 (va_up (va_up (va_up (va_up (va_up (va_up (va_up (va_up (va_up (C 3) 0 (fun _ => v.2.2.2.2.2.2.2.2.2.2.2.2.2.2.2.2.2.2.2.2.1)) 1 (fun _ => v.2.2.2.2.2.2.2.2.2.2.2.2.2.2.2.2.2.2.2.2.2.1)) 2 (fun _ => v.2.2.2.2.2.2.2.2.2.2.2.2.2.2.2.2.2.2.2.2.2.2.1)) 3 v.2.2.2.2.2.2.2.2.2.2.2.2.2.2.2.2.2.2.2.2.2.2.2.1) 4 v.2.2.2.2.2.2.2.2.2.2.2.2.2.2.2.2.2.2.2.2.2.2.2.2.1) 5 v.2.2.2.2.2.2.2.2.2.2.2.2.2.2.2.2.2.2.2.2.2.2.2.2.2.1) 6 v.2.2.2.2.2.2.2.2.2.2.2.2.2.2.2.2.2.2.2.2.2.2.2.2.2.2.1) 7 v.2.2.2.2.2.2.2.2.2.2.2.2.2.2.2.2.2.2.2.2.2.2.2.2.2.2.2.1) 8 v.2.2.2.2.2.2.2.2.2.2.2.2.2.2.2.2.2.2.2.2.2.2.2.2.2.2.2.2)) 4 (va_up (va_up (va_up (va_up (va_up (va_up (va_up (C 4) 0 (fun _ => v.2.2.2.1)) 1 (fun _ => v.2.2.2.2.1)) 2 v.2.2.2.2.2.1) 3 v.2.2.2.2.2.2.1) 4 v.2.2.2.2.2.2.2.1) 5 v.2.2.2.2.2.2.2.2.1) 6 v.2.2.2.2.2.2.2.2.2.1)) 6 (va_up (C 6) 0 (fun _ => v.2.2.2.2.2.2.2.2.2.2.2.2.2.2.1))) 7 (va_up (va_up (C 7) 0 (fun _ => v.2.2.2.2.2.2.2.2.2.2.2.2.1)) 1 (fun _ => v.2.2.2.2.2.2.2.2.2.2.2.2.2.1)))) RF (va_up (va_up (va_up (va_up (va_up (va_up (va_up (va_up (va_up (va_up (va_up (va_up (va_up (va_up (va_up (va_up (va_up (va_up (va_up (va_up (va_up (va_up (va_up (va_up M 0 (fun _ => w.2.1)) 2 (fun _ => w.2.2.1)) 3 (fun _ => w.2.2.2.1)) 4 (fun _ => w.2.2.2.2.1)) 5 (fun _ => w.2.2.2.2.2.1)) 6 (fun _ => w.2.2.2.2.2.2.1)) 7 (fun _ => w.2.2.2.2.2.2.2.1)) 8 (fun _ => w.2.2.2.2.2.2.2.2.1)) 9 (fun _ => w.2.2.2.2.2.2.2.2.2.1)) 10 (fun _ => w.2.2.2.2.2.2.2.2.2.2.1)) 11 (fun _ => w.2.2.2.2.2.2.2.2.2.2.2.1)) 12 (fun _ => w.2.2.2.2.2.2.2.2.2.2.2.2.1)) 13 w.2.2.2.2.2.2.2.2.2.2.2.2.2.1) 14 w.2.2.2.2.2.2.2.2.2.2.2.2.2.2.1) 15 (fun _ => w.2.2.2.2.2.2.2.2.2.2.2.2.2.2.2.1)) 16 (fun _ => w.2.2.2.2.2.2.2.2.2.2.2.2.2.2.2.2.1)) 17 (fun _ => w.2.2.2.2.2.2.2.2.2.2.2.2.2.2.2.2.2.1)) 18 w.2.2.2.2.2.2.2.2.2.2.2.2.2.2.2.2.2.2.1) 19 w.2.2.2.2.2.2.2.2.2.2.2.2.2.2.2.2.2.2.2.1) 20 w.2.2.2.2.2.2.2.2.2.2.2.2.2.2.2.2.2.2.2.2.1) 23 (fun _ => w.2.2.2.2.2.2.2.2.2.2.2.2.2.2.2.2.2.2.2.2.2.1)) 26 w.2.2.2.2.2.2.2.2.2.2.2.2.2.2.2.2.2.2.2.2.2.2.1) 28 (fun _ => w.2.2.2.2.2.2.2.2.2.2.2.2.2.2.2.2.2.2.2.2.2.2.2.1)) 30 (fun _ => w.2.2.2.2.2.2.2.2.2.2.2.2.2.2.2.2.2.2.2.2.2.2.2.2)))) := by
  obtain ⟨h1, h2, h3, h4, pl, ch, D, hPR, h6, h7, h8, h9, h10, h11⟩ := h
  obtain ⟨len, tx, l1, l2, l3, l4, l5⟩ := h4.fn
  unfold x_X9_works x_X10_works
  rcases read_both hN (F := C 1) (M := M) (P := C 3) (show len ≤ 64 by omega) l4 l2 l5 l3 with ⟨x, y, q1, q2, q3, q4, ⟨pl', ch', D', q5⟩⟩ | ⟨x, y, k, b, q1, q2, q3, q4, q5, q6, q7⟩
  · rw [q1, q2]
    simp only [Option.bind_some]
    rw [if_pos q3, if_neg z10]
    have s1 := q5.1
    have s2 := q5.2.1
    have s4 : x.2.2.2.2.2.1 = nI pl' := q5.2.2.2.1
    have s5 : y.2.2.2.2.2.2.2.2.2.1 = nI pl' := q5.2.2.2.2.1
    have s7 : y.2.2.2.2.2.2.2.2.2.2.1 = nI ch' := q5.2.2.2.2.2.2.1
    obtain ⟨f2, f3, f4, f5, f6, vd, b1, b2, b3⟩ := FR_new hN pl' (60 * (n + 1)) (C 4) (M 20)
    obtain ⟨r18, c1, c2⟩ := cp53 hN (M := va_up (va_up (va_up (va_up (va_up (va_up (va_up (va_up (va_up (va_up (va_up (va_up (va_up (va_up (va_up (va_up (va_up M 0 (fun _ => (0 : Int32))) 2 (fun _ => y.1)) 3 (fun _ => y.2.1)) 4 (fun _ => y.2.2.1)) 5 (fun _ => y.2.2.2.1)) 6 (fun _ => y.2.2.2.2.1)) 7 (fun _ => (-1 : Int32))) 8 (fun _ => y.2.2.2.2.2.2.1)) 9 (fun _ => y.2.2.2.2.2.2.2.1)) 10 (fun _ => y.2.2.2.2.2.2.2.2.1)) 11 (fun _ => y.2.2.2.2.2.2.2.2.2.1)) 12 (fun _ => y.2.2.2.2.2.2.2.2.2.2.1)) 13 y.2.2.2.2.2.2.2.2.2.2.2.1) 14 y.2.2.2.2.2.2.2.2.2.2.2.2) 15 (fun _ => y.2.2.2.2.2.2.2.2.1)) 16 (fun _ => y.2.2.2.2.2.2.2.2.2.1)) 17 (fun _ => y.2.2.2.2.2.2.2.2.2.2.1)) s5 s1 (M 18)
    obtain ⟨r19, c3, c4⟩ := cp83 hN (M := va_up (va_up (va_up (va_up (va_up (va_up (va_up (va_up (va_up (va_up (va_up (va_up (va_up (va_up (va_up (va_up (va_up (va_up M 0 (fun _ => (0 : Int32))) 2 (fun _ => y.1)) 3 (fun _ => y.2.1)) 4 (fun _ => y.2.2.1)) 5 (fun _ => y.2.2.2.1)) 6 (fun _ => y.2.2.2.2.1)) 7 (fun _ => (-1 : Int32))) 8 (fun _ => y.2.2.2.2.2.2.1)) 9 (fun _ => y.2.2.2.2.2.2.2.1)) 10 (fun _ => y.2.2.2.2.2.2.2.2.1)) 11 (fun _ => y.2.2.2.2.2.2.2.2.2.1)) 12 (fun _ => y.2.2.2.2.2.2.2.2.2.2.1)) 13 y.2.2.2.2.2.2.2.2.2.2.2.1) 14 y.2.2.2.2.2.2.2.2.2.2.2.2) 15 (fun _ => y.2.2.2.2.2.2.2.2.1)) 16 (fun _ => y.2.2.2.2.2.2.2.2.2.1)) 17 (fun _ => y.2.2.2.2.2.2.2.2.2.2.1)) 18 r18) s7 s2 (M 19)
    obtain ⟨vo, b4, b5⟩ := b3 (va_up (va_up (va_up (va_up (va_up (va_up (va_up (va_up (va_up (va_up (va_up (va_up (va_up (va_up (va_up (va_up (va_up (va_up (va_up (va_up M 0 (fun _ => (0 : Int32))) 2 (fun _ => y.1)) 3 (fun _ => y.2.1)) 4 (fun _ => y.2.2.1)) 5 (fun _ => y.2.2.2.1)) 6 (fun _ => y.2.2.2.2.1)) 7 (fun _ => (-1 : Int32))) 8 (fun _ => y.2.2.2.2.2.2.1)) 9 (fun _ => y.2.2.2.2.2.2.2.1)) 10 (fun _ => y.2.2.2.2.2.2.2.2.1)) 11 (fun _ => y.2.2.2.2.2.2.2.2.2.1)) 12 (fun _ => y.2.2.2.2.2.2.2.2.2.2.1)) 13 y.2.2.2.2.2.2.2.2.2.2.2.1) 14 y.2.2.2.2.2.2.2.2.2.2.2.2) 15 (fun _ => y.2.2.2.2.2.2.2.2.1)) 16 (fun _ => y.2.2.2.2.2.2.2.2.2.1)) 17 (fun _ => y.2.2.2.2.2.2.2.2.2.2.1)) 18 r18) 19 r19) 20 vd) rfl
    rw [b1, c1]
    simp only [Option.bind_some]
    rw [c3]
    simp only [Option.bind_some]
    rw [b2]
    simp only [Option.bind_some]
    rw [b4]
    have i1 : u (12 + (0 : Int32).toNatClampNeg) 7 = u 12 7 := rfl
    have i2 : u (12 + (1 : Int32).toNatClampNeg) 7 = u 13 7 := rfl
    have i3 : x_X3_forget (C 6) = some 0 := rfl
    have i4 : x_X2_tearOut (C 7) = some (0, 0) := rfl
    rw [i1, i2, i3, Option.bind_some, i4, Option.bind_some, if_pos rfl, if_pos rfl]
    obtain ⟨cnt, nx, _, nx1, _, nx2, _⟩ := h7
    have hPn := PR.copy q5 c2 c4
    refine ⟨_, _, rfl, rfl, s4.trans s5.symm, Or.inr ⟨rfl, rfl, by omega, q4, h3, ⟨0, by omega, rfl, rfl, fun i hi => absurd hi (Nat.not_lt_zero i)⟩, pl', ch', D', hPn, b5, ⟨0, nx, by omega, nx1, rfl, nx2, rfl, fun i hi => absurd hi (Nat.not_lt_zero i)⟩, Or.inl ⟨rfl, rfl⟩, Or.inl ⟨rfl, rfl⟩, ⟨0, by omega, rfl, rfl, fun i hi => absurd hi (Nat.not_lt_zero i)⟩, ⟨0, by omega, rfl, rfl, fun i hi => absurd hi (Nat.not_lt_zero i)⟩⟩⟩
  · rw [q1, q2]
    simp only [Option.bind_some]
    rw [if_neg (show ¬ x.1 = 0 by rw [q4]; exact k_ne q3)]
    refine ⟨_, _, rfl, rfl, by show (-10 : Int32) - x.1 = -10 - y.2.2.2.2.2.2.1; rw [q4, q7], Or.inl ⟨rfl, rfl, by omega, q5.trans q6.symm, h3, ⟨0, by omega, rfl, rfl, fun i hi => absurd hi (Nat.not_lt_zero i)⟩, pl, ch, D, hPR, h6.mono (by omega), h7.mono (by omega), h8.mono (by omega), h9.mono (by omega), h10, h11⟩⟩
