/-! the class's spread -/
theorem fillL_eq {N : Nat} (hN : 4096 ≤ N) {n : Nat} (hn : n < 4096) {a : Nat → Int64} {x : Int64} : ∃ r, x_J7_fill_d0a16 N n a x = some r ∧ ∀ j, j < n → r j = x := by
  unfold x_J7_fill_d0a16
  obtain ⟨r, e1, e2⟩ := lpc_run (body := fun (z : Int32 × (Nat → Int64)) => x_J7_fill_d0a16_b6 N n z.2 x z.1 (nI n)) (I := fun k z => z.1 = nI k ∧ ∀ j, j < k → z.2 j = x) (Pst := fun r => ∀ j, j < n → r j = x) n (fun k z hk hI => by
    obtain ⟨z1, f⟩ := z
    obtain ⟨rfl, hf⟩ := hI
    dsimp only at hf
    unfold x_J7_fill_d0a16_b6
    by_cases h : k = n
    · subst h
      right
      exact ⟨f, by rw [if_pos (nI_le (Nat.le_refl _) (by omega))], hf⟩
    · left
      simp (disch := omega) only [li_0, li_1, li_2, li_3, li_4, li_5, li_6, li_7, li_8, li_9, li_10, li_11, li_15, li_16, li_20, li_30, li_32, li_48, li_57, li_58, li_59, li_60, li_61, li_63, li_64, li_80, li_85, li_88, li_99, li_100, li_112, li_115, li_152, li_162, li_172, li_173, li_174, li_240, li_255, li_348, li_1000, li_3306, nI_add, nI_ltI, nI_leI, nI_clamp, if_neg]
      refine ⟨_, rfl, by omega, rfl, fun j hj => ?_⟩
      show vp_updL f k x j = _
      by_cases hj2 : j = k
      · subst hj2; rw [pk_uLs]
      · rw [pk_uLn hj2]; exact hf j (by omega)) (N := N) (z := ((0 : Int32), a)) (by omega) ⟨rfl, fun j hj => absurd hj (Nat.not_lt_zero j)⟩
  show ∃ r, Option.bind (lpc (fun (z : Int32 × (Nat → Int64)) => x_J7_fill_d0a16_b6 N n z.2 x z.1 (nI n)) N ((0 : Int32), a)) (fun v_4 => some v_4) = some r ∧ _
  rw [e1]
  exact ⟨r, rfl, e2⟩
def goS (k s : Nat) : Nat := if k = 3 then 0 else if k = 1 then s &&& 85 else s
theorem goes_val {pl ch : Nat} {D : Nat → Nat → Nat} {P M : St} (hPR : PR pl ch D P (M 15 0) (M 16 0) (M 17 0) (M 18) (M 19)) {p s : Nat} (hp : p < pl) : x_X4_goingOn P (nI p) (nI s) = some (nI (goS (D 0 p) s)) ∧ x_X10_goesOn M (nI p) (nI s) = some (nI (goS (D 0 p) s)) := by
  obtain ⟨r1, r2, r3, r4, r5, r6, r7, r8, r9, _⟩ := hPR
  obtain ⟨b1, b2, b3, b4, b5, b6⟩ := r8 p hp
  have hp8 : p < 8 := by omega
  have e1 := place1 r4 r1 hp
  have i1 : ¬ (nI p < 0 ∨ 8 ≤ p) := by have := nI_in (c := p) (N := 8) hp8 (by omega); rwa [cl (by omega)] at this
  have i2 : ¬ (nI (2 * p) < 0 ∨ 16 ≤ 2 * p) := by have := nI_in (c := 2 * p) (N := 16) (by omega) (by omega); rwa [cl (by omega)] at this
  have e2 : (2 : Int32) * nI p = nI (2 * p) := by simp (disch := omega) only [li_0, li_1, li_2, li_3, li_4, li_5, li_6, li_7, li_8, li_9, li_10, li_11, li_15, li_16, li_20, li_30, li_32, li_48, li_57, li_58, li_59, li_60, li_61, li_63, li_64, li_80, li_85, li_88, li_99, li_100, li_112, li_115, li_152, li_162, li_172, li_173, li_174, li_240, li_255, li_348, li_1000, li_3306, pk_mul]
  unfold x_X4_goingOn x_X10_goesOn goS
  rw [e1, e2, cl (show 2 * p < 2 ^ 31 by omega), if_neg i2]
  simp only [Option.bind_some, if_neg z10, cl (show p < 2 ^ 31 by omega), if_neg i1, b3, b4, xl]
  by_cases h3 : D 0 p = 3
  · rw [h3]; exact ⟨rfl, rfl⟩
  · have h3' : ¬ nI (D 0 p) = 3 := fun h => h3 (nI_inj (b := 3) (by omega) (by omega) h)
    rw [if_neg h3', if_neg h3]
    by_cases h1 : D 0 p = 1
    · rw [h1]; exact ⟨by rw [if_pos rfl, ← nI_and]; rfl, by rw [if_pos rfl, ← nI_and]; rfl⟩
    · have h1' : ¬ nI (D 0 p) = 1 := fun h => h1 (nI_inj (b := 1) (by omega) (by omega) h)
      rw [if_neg h1', if_neg h1]
      exact ⟨rfl, rfl⟩
theorem cmp0 {a : Nat} (h : a < 2 ^ 63) : lg_cmp (lN a) (0 : Int64) = 0 ↔ a = 0 := by
  rw [lg_cmp_eq, show (0 : Int64) = lN 0 from rfl, pk_lEQ h (by omega)]
