/-! images -/
theorem RIm1.row {pl hb i : Nat} {k s : Int32} {F : St} {m24 m25 m26 m24' m25' m26' : Nat → Int32} (h : RIm1 pl hb i k s F m24 m25 m26) (e6 : m26' i = m26 i) (e5 : m25' i = m25 i) (e4 : ∀ j, j < 174 → m24' (174 * i + j) = m24 (174 * i + j)) : RIm1 pl hb i k s F m24' m25' m26' := by
  rcases h with ⟨h1, h2⟩ | ⟨h1, h2, h3, h4⟩
  · exact Or.inl ⟨h1, e6.trans h2⟩
  · exact Or.inr ⟨h1, e6.trans h2, by rw [e5]; exact h3, h4.row e4⟩
theorem RIm1.of {pl hb i : Nat} {k s : Int32} {F F' : St} {m24 m25 m26 : Nat → Int32} (h : RIm1 pl hb i k s F m24 m25 m26) (h0 : F' 0 0 = F 0 0) (h1 : F' 1 0 = F 1 0) (h2 : F' 2 = F 2) (h3 : F' 3 = F 3) (h4 : F' 4 = F 4) (h5 : F' 5 = F 5) (h6 : F' 6 = F 6) : RIm1 pl hb i k s F' m24 m25 m26 := by
  rcases h with h | ⟨g1, g2, g3, g4⟩
  · exact Or.inl h
  · exact Or.inr ⟨g1, g2, g3, g4.of h0 h1 h2 h3 h4 h5 h6⟩
theorem P_keep0 {N n : Nat} (hN : 4096 ≤ N) (hn : n < 64) {C RF : Nat → St} {M : St} (h : Rel n C RF M) (u : Nat → Ad) (x1 : Int32) (h1 : ¬ x1 = 1) : ∃ (v : Int32 × Int32 × Int32 × Int32 × Int32 × (Nat → Int32) × (Nat → Int32) × (Nat → Int32) × (Nat → Int32) × (Nat → Int32) × Int32) (w : Int32 × Int32 × (Nat → Int32) × (Nat → Int32) × (Nat → Int32)), x_X9_keep (u 12 7) (C 0) (fun i => some (u (12 + i) 7)) (C 4) (C 12) (C 14) (C 6) x1 = some v ∧ x_X10_keep N M x1 = some w ∧ v.1 = w.1 ∧ Rel (n + 1) (va_up (va_up (va_up C 12 (va_up (va_up (C 12) 0 (fun _ => v.2.1)) 1 (fun _ => v.2.2.1))) 14 (va_up (va_up (va_up (va_up (va_up (va_up (va_up (C 14) 0 (fun _ => v.2.2.2.1)) 1 (fun _ => v.2.2.2.2.1)) 2 v.2.2.2.2.2.1) 3 v.2.2.2.2.2.2.1) 4 v.2.2.2.2.2.2.2.1) 5 v.2.2.2.2.2.2.2.2.1) 6 v.2.2.2.2.2.2.2.2.2.1)) 6 (va_up (C 6) 0 (fun _ => v.2.2.2.2.2.2.2.2.2.2))) RF (va_up (va_up (va_up (va_up M 23 (fun _ => w.2.1)) 24 w.2.2.1) 25 w.2.2.2.1) 26 w.2.2.2.2) := by
  obtain ⟨k1, h2, h3, h4, pl, ch, D, hPR, h6, ⟨cnt, nx, a1, a2, a3, a4, a5, a6⟩, h8, h9, h10, h11⟩ := h
  rcases in_cases x1 0 1 (by omega) (by omega) with ⟨j, j0, j1, rfl, hj⟩ | ⟨hj, hj2⟩
  · have hj : x_X10_in (nI j) 0 1 = some 1 := hj
    have ej : j = 0 := by
      rcases (show j = 0 ∨ j = 1 by omega) with rfl | rfl
      · rfl
      · exact absurd rfl h1
    subst ej
    obtain ⟨r, r1, r2⟩ := copy_eq (N := N) hN (na := 174) (nb := 348) (fr := 0) (to := 174 * 0) (a := M 20) (b := M 24) (by omega) (by omega) (by omega) (by omega)
    have r1 : x_X10_copy N 174 348 (M 20) (M 24) (0 : Int32) (nI (174 * 0)) = some r := r1
    have e1 : x_X9_keep (u 12 7) (C 0) (fun i => some (u (12 + i) 7)) (C 4) (C 12) (C 14) (C 6) (nI 0) = some (1, 1, C 0 10 0, C 4 0 0, C 4 1 0, va_cpy (C 4 2) (C 14 2) 0 0 10, va_cpy (C 4 3) (C 14 3) 0 0 10, va_cpy (C 4 4) (C 14 4) 0 0 8, va_cpy (C 4 5) (C 14 5) 0 0 64, va_cpy (C 4 6) (C 14 6) 0 0 80, 0) := by
      have c1 : (fun i => some (u (12 + i) 7)) (nI 0).toNatClampNeg = some (u 12 7) := by rw [cl (by omega)]
      have c2 : ¬ (nI 0 < 0 ∨ 2 ≤ (nI 0).toNatClampNeg) := by rw [cl (by omega)]; decide
      have c3 : ¬ nI 0 < 0 := by decide
      have c4 : nI 0 < 2 := by decide
      unfold x_X9_keep x_X0_copyFrom x_X3_forget
      rw [if_neg c3, if_pos c4, if_neg c2, if_pos c1]
      simp only [xl, Option.bind_some, if_neg c2, if_pos c1]
    have e2 : x_X10_keep N M (nI 0) = some (1, 0, r, upd (M 25) 0 (M 27 0), upd (M 26) 0 1) := by
      have c2 : ¬ (nI 0 < 0 ∨ 2 ≤ (nI 0).toNatClampNeg) := by rw [cl (by omega)]; decide
      have c5 : (174 : Int32) * nI 0 = nI (174 * 0) := pk_mul 174 0
      unfold x_X10_keep
      rw [hj]
      simp only [Option.bind_some, if_neg z10]
      rw [c5, r1]
      simp only [Option.bind_some, xl]
      rw [if_neg c2, if_neg c2, cl (by omega)]
      rfl
    rw [e1, e2]
    refine ⟨_, _, rfl, rfl, rfl, ?_⟩
    have new : RIm1 pl (60 * (n + 1)) 0 1 (C 0 10 0) (cpF (C 14) (C 4)) r (upd (M 25) 0 (M 27 0)) (upd (M 26) 0 1) := Or.inr ⟨rfl, pk_us, by rw [pk_us]; exact h3, ((h6.cp (G := C 14)).row (fun j hj => by rw [r2, if_pos (by omega), show 0 + (174 * 0 + j - 174 * 0) = j by omega])).mono (by omega)⟩
    have old := (h9.row (m24' := r) (m25' := upd (M 25) 0 (M 27 0)) (m26' := upd (M 26) 0 1) (pk_un (by omega)) (pk_un (by omega)) (fun j hj => by rw [r2, if_neg (by omega)])).mono (show 60 * n ≤ 60 * (n + 1) by omega)
    exact ⟨by omega, h2, h3, h4.mono (by omega), pl, ch, D, hPR, h6.mono (by omega), ⟨0, nx, by omega, a2, rfl, a4, rfl, fun i hi => absurd hi (Nat.not_lt_zero i)⟩, new, old, h10, h11⟩
  · have hj2 : x_X10_in x1 0 1 = some 0 := hj2
    have hx : x1 < 0 ∨ ¬ x1 < 2 := hj.elim (fun h9 => Or.inl h9) (fun h9 => Or.inr (fun h8 => by have e1 := lt_I.mp h9; have e2 := lt_I.mp h8; rw [nI_toInt (by omega)] at e1; rw [li_2, nI_toInt (by omega)] at e2; omega))
    have e1 : x_X9_keep (u 12 7) (C 0) (fun i => some (u (12 + i) 7)) (C 4) (C 12) (C 14) (C 6) x1 = some (-1000000001, C 12 0 0, C 12 1 0, C 14 0 0, C 14 1 0, C 14 2, C 14 3, C 14 4, C 14 5, C 14 6, C 6 0 0) := by
      unfold x_X9_keep
      by_cases hx0 : x1 < 0
      · rw [if_pos hx0]
      · rw [if_neg hx0, if_neg (hx.resolve_left hx0)]
    have e2 : x_X10_keep N M x1 = some (-1000000001, M 23 0, M 24, M 25, M 26) := by
      unfold x_X10_keep
      rw [hj2]
      rfl
    rw [e1, e2]
    refine ⟨_, _, rfl, rfl, rfl, ?_⟩
    have same := (h8.of (F' := sfF (C 14)) rfl rfl rfl rfl rfl rfl rfl).mono (show 60 * n ≤ 60 * (n + 1) by omega)
    have old := h9.mono (show 60 * n ≤ 60 * (n + 1) by omega)
    exact ⟨by omega, h2, h3, h4.mono (by omega), pl, ch, D, hPR, h6.mono (by omega), RPa.mono ⟨cnt, nx, a1, a2, a3, a4, a5, a6⟩ (by omega), same, old, h10, h11⟩
theorem P_keep1 {N n : Nat} (hN : 4096 ≤ N) (hn : n < 64) {C RF : Nat → St} {M : St} (h : Rel n C RF M) (u : Nat → Ad) (x1 : Int32) (h1 : x1 = 1) : ∃ (v : Int32 × Int32 × Int32 × Int32 × Int32 × (Nat → Int32) × (Nat → Int32) × (Nat → Int32) × (Nat → Int32) × (Nat → Int32) × Int32) (w : Int32 × Int32 × (Nat → Int32) × (Nat → Int32) × (Nat → Int32)), x_X9_keep (u 13 7) (C 0) (fun i => some (u (12 + i) 7)) (C 4) (C 13) (C 15) (C 6) x1 = some v ∧ x_X10_keep N M x1 = some w ∧ v.1 = w.1 ∧ Rel (n + 1) (va_up (va_up (va_up C 13 (va_up (va_up (C 13) 0 (fun _ => v.2.1)) 1 (fun _ => v.2.2.1))) 15 (va_up (va_up (va_up (va_up (va_up (va_up (va_up (C 15) 0 (fun _ => v.2.2.2.1)) 1 (fun _ => v.2.2.2.2.1)) 2 v.2.2.2.2.2.1) 3 v.2.2.2.2.2.2.1) 4 v.2.2.2.2.2.2.2.1) 5 v.2.2.2.2.2.2.2.2.1) 6 v.2.2.2.2.2.2.2.2.2.1)) 6 (va_up (C 6) 0 (fun _ => v.2.2.2.2.2.2.2.2.2.2))) RF (va_up (va_up (va_up (va_up M 23 (fun _ => w.2.1)) 24 w.2.2.1) 25 w.2.2.2.1) 26 w.2.2.2.2) := by
  obtain ⟨k1, h2, h3, h4, pl, ch, D, hPR, h6, ⟨cnt, nx, a1, a2, a3, a4, a5, a6⟩, h8, h9, h10, h11⟩ := h
  rcases in_cases x1 0 1 (by omega) (by omega) with ⟨j, j0, j1, rfl, hj⟩ | ⟨hj, hj2⟩
  · have hj : x_X10_in (nI j) 0 1 = some 1 := hj
    have ej : j = 1 := by
      rcases (show j = 0 ∨ j = 1 by omega) with rfl | rfl
      · exact absurd h1 (by decide)
      · rfl
    subst ej
    obtain ⟨r, r1, r2⟩ := copy_eq (N := N) hN (na := 174) (nb := 348) (fr := 0) (to := 174 * 1) (a := M 20) (b := M 24) (by omega) (by omega) (by omega) (by omega)
    have r1 : x_X10_copy N 174 348 (M 20) (M 24) (0 : Int32) (nI (174 * 1)) = some r := r1
    have e1 : x_X9_keep (u 13 7) (C 0) (fun i => some (u (12 + i) 7)) (C 4) (C 13) (C 15) (C 6) (nI 1) = some (1, 1, C 0 10 0, C 4 0 0, C 4 1 0, va_cpy (C 4 2) (C 15 2) 0 0 10, va_cpy (C 4 3) (C 15 3) 0 0 10, va_cpy (C 4 4) (C 15 4) 0 0 8, va_cpy (C 4 5) (C 15 5) 0 0 64, va_cpy (C 4 6) (C 15 6) 0 0 80, 0) := by
      have c1 : (fun i => some (u (12 + i) 7)) (nI 1).toNatClampNeg = some (u 13 7) := by rw [cl (by omega)]
      have c2 : ¬ (nI 1 < 0 ∨ 2 ≤ (nI 1).toNatClampNeg) := by rw [cl (by omega)]; decide
      have c3 : ¬ nI 1 < 0 := by decide
      have c4 : nI 1 < 2 := by decide
      unfold x_X9_keep x_X0_copyFrom x_X3_forget
      rw [if_neg c3, if_pos c4, if_neg c2, if_pos c1]
      simp only [xl, Option.bind_some, if_neg c2, if_pos c1]
    have e2 : x_X10_keep N M (nI 1) = some (1, 0, r, upd (M 25) 1 (M 27 0), upd (M 26) 1 1) := by
      have c2 : ¬ (nI 1 < 0 ∨ 2 ≤ (nI 1).toNatClampNeg) := by rw [cl (by omega)]; decide
      have c5 : (174 : Int32) * nI 1 = nI (174 * 1) := pk_mul 174 1
      unfold x_X10_keep
      rw [hj]
      simp only [Option.bind_some, if_neg z10]
      rw [c5, r1]
      simp only [Option.bind_some, xl]
      rw [if_neg c2, if_neg c2, cl (by omega)]
      rfl
    rw [e1, e2]
    refine ⟨_, _, rfl, rfl, rfl, ?_⟩
    have new : RIm1 pl (60 * (n + 1)) 1 1 (C 0 10 0) (cpF (C 15) (C 4)) r (upd (M 25) 1 (M 27 0)) (upd (M 26) 1 1) := Or.inr ⟨rfl, pk_us, by rw [pk_us]; exact h3, ((h6.cp (G := C 15)).row (fun j hj => by rw [r2, if_pos (by omega), show 0 + (174 * 1 + j - 174 * 1) = j by omega])).mono (by omega)⟩
    have old := (h8.row (m24' := r) (m25' := upd (M 25) 1 (M 27 0)) (m26' := upd (M 26) 1 1) (pk_un (by omega)) (pk_un (by omega)) (fun j hj => by rw [r2, if_neg (by omega)])).mono (show 60 * n ≤ 60 * (n + 1) by omega)
    exact ⟨by omega, h2, h3, h4.mono (by omega), pl, ch, D, hPR, h6.mono (by omega), ⟨0, nx, by omega, a2, rfl, a4, rfl, fun i hi => absurd hi (Nat.not_lt_zero i)⟩, old, new, h10, h11⟩
  · have hj2 : x_X10_in x1 0 1 = some 0 := hj2
    have hx : x1 < 0 ∨ ¬ x1 < 2 := hj.elim (fun h9 => Or.inl h9) (fun h9 => Or.inr (fun h8 => by have e1 := lt_I.mp h9; have e2 := lt_I.mp h8; rw [nI_toInt (by omega)] at e1; rw [li_2, nI_toInt (by omega)] at e2; omega))
    have e1 : x_X9_keep (u 13 7) (C 0) (fun i => some (u (12 + i) 7)) (C 4) (C 13) (C 15) (C 6) x1 = some (-1000000001, C 13 0 0, C 13 1 0, C 15 0 0, C 15 1 0, C 15 2, C 15 3, C 15 4, C 15 5, C 15 6, C 6 0 0) := by
      unfold x_X9_keep
      by_cases hx0 : x1 < 0
      · rw [if_pos hx0]
      · rw [if_neg hx0, if_neg (hx.resolve_left hx0)]
    have e2 : x_X10_keep N M x1 = some (-1000000001, M 23 0, M 24, M 25, M 26) := by
      unfold x_X10_keep
      rw [hj2]
      rfl
    rw [e1, e2]
    refine ⟨_, _, rfl, rfl, rfl, ?_⟩
    have same := (h9.of (F' := sfF (C 15)) rfl rfl rfl rfl rfl rfl rfl).mono (show 60 * n ≤ 60 * (n + 1) by omega)
    have old := h8.mono (show 60 * n ≤ 60 * (n + 1) by omega)
    exact ⟨by omega, h2, h3, h4.mono (by omega), pl, ch, D, hPR, h6.mono (by omega), RPa.mono ⟨cnt, nx, a1, a2, a3, a4, a5, a6⟩ (by omega), old, same, h10, h11⟩
theorem P_goBack0 {N n : Nat} (hN : 4096 ≤ N) (hn : n < 64) {C RF : Nat → St} {M : St} (h : Rel n C RF M) (u : Nat → Ad) (x1 : Int32) (h1 : ¬ x1 = 1) : ∃ (v : Int32 × Int32 × Int32 × Int32 × (Nat → Int32) × (Nat → Int32) × (Nat → Int32) × (Nat → Int32) × (Nat → Int32) × Int32) (w : Int32 × (Nat → Int32) × Int32 × Int32), x_X9_goBack (u 12 7) (C 0) (fun i => some (u (12 + i) 7)) (C 4) (C 12) (C 14) (C 6) x1 = some v ∧ x_X10_goBack N M x1 = some w ∧ v.1 = w.1 ∧ Rel (n + 1) (va_up (va_up (va_up C 0 (va_up (C 0) 10 (fun _ => v.2.1))) 4 (va_up (va_up (va_up (va_up (va_up (va_up (va_up (C 4) 0 (fun _ => v.2.2.1)) 1 (fun _ => v.2.2.2.1)) 2 v.2.2.2.2.1) 3 v.2.2.2.2.2.1) 4 v.2.2.2.2.2.2.1) 5 v.2.2.2.2.2.2.2.1) 6 v.2.2.2.2.2.2.2.2.1)) 6 (va_up (C 6) 0 (fun _ => v.2.2.2.2.2.2.2.2.2))) RF (va_up (va_up (va_up M 20 w.2.1) 23 (fun _ => w.2.2.1)) 27 (fun _ => w.2.2.2)) := by
  obtain ⟨k1, h2, h3, h4, pl, ch, D, hPR, h6, ⟨cnt, nx, a1, a2, a3, a4, a5, a6⟩, h8, h9, h10, h11⟩ := h
  have ref : ∀ (a b : Int32), Rel (n + 1) (va_up (va_up (va_up C 0 (va_up (C 0) 10 (fun _ => C 0 10 0))) 4 (sfF (C 4))) 6 (va_up (C 6) 0 (fun _ => C 6 0 0))) RF (va_up (va_up (va_up M 20 (M 20)) 23 (fun _ => M 23 0)) 27 (fun _ => M 27 0)) := fun _ _ => ⟨by omega, h2, h3, h4.mono (by omega), pl, ch, D, hPR, (h6.of (F' := sfF (C 4)) rfl rfl rfl rfl rfl rfl rfl).mono (by omega), RPa.mono ⟨cnt, nx, a1, a2, a3, a4, a5, a6⟩ (by omega), h8.mono (by omega), h9.mono (by omega), h10, h11⟩
  rcases in_cases x1 0 1 (by omega) (by omega) with ⟨j, j0, j1, rfl, hj⟩ | ⟨hj, hj2⟩
  · have hj : x_X10_in (nI j) 0 1 = some 1 := hj
    have ej : j = 0 := by
      rcases (show j = 0 ∨ j = 1 by omega) with rfl | rfl
      · rfl
      · exact absurd rfl h1
    subst ej
    have c1 : (fun i => some (u (12 + i) 7)) (nI 0).toNatClampNeg = some (u 12 7) := by rw [cl (by omega)]
    have c2 : ¬ (nI 0 < 0 ∨ 2 ≤ (nI 0).toNatClampNeg) := by rw [cl (by omega)]; decide
    have c3 : ¬ nI 0 < 0 := by decide
    have c4 : nI 0 < 2 := by decide
    rcases h8 with ⟨g1, g2⟩ | ⟨g1, g2, g3, g4⟩
    · have e1 : x_X9_goBack (u 12 7) (C 0) (fun i => some (u (12 + i) 7)) (C 4) (C 12) (C 14) (C 6) (nI 0) = some (-1000000003, C 0 10 0, C 4 0 0, C 4 1 0, C 4 2, C 4 3, C 4 4, C 4 5, C 4 6, C 6 0 0) := by
        unfold x_X9_goBack
        rw [if_neg c3, if_pos c4, if_neg c2, if_pos c1, if_pos g1]
      have e2 : x_X10_goBack N M (nI 0) = some (-1000000003, M 20, M 23 0, M 27 0) := by
        unfold x_X10_goBack
        rw [hj]
        simp only [Option.bind_some, if_neg z10]
        rw [if_neg c2, cl (by omega), if_pos g2]
      rw [e1, e2]
      exact ⟨_, _, rfl, rfl, rfl, ref 0 0⟩
    · obtain ⟨r, r1, r2⟩ := copy_eq (N := N) hN (na := 348) (nb := 174) (fr := 174 * 0) (to := 0) (a := M 24) (b := M 20) (by omega) (by omega) (by omega) (by omega)
      have r1 : x_X10_copy N 348 174 (M 24) (M 20) (nI (174 * 0)) (0 : Int32) = some r := r1
      have e1 : x_X9_goBack (u 12 7) (C 0) (fun i => some (u (12 + i) 7)) (C 4) (C 12) (C 14) (C 6) (nI 0) = some (1, C 12 1 0, C 14 0 0, C 14 1 0, va_cpy (C 14 2) (C 4 2) 0 0 10, va_cpy (C 14 3) (C 4 3) 0 0 10, va_cpy (C 14 4) (C 4 4) 0 0 8, va_cpy (C 14 5) (C 4 5) 0 0 64, va_cpy (C 14 6) (C 4 6) 0 0 80, 0) := by
        unfold x_X9_goBack x_X0_copyFrom x_X3_forget
        rw [if_neg c3, if_pos c4, if_neg c2, if_pos c1, if_neg (by rw [g1]; exact z10)]
        simp only [xl, Option.bind_some, if_neg c2, if_pos c1]
      have e2 : x_X10_goBack N M (nI 0) = some (1, r, 0, M 25 0) := by
        have c5 : (174 : Int32) * nI 0 = nI (174 * 0) := pk_mul 174 0
        unfold x_X10_goBack
        rw [hj]
        simp only [Option.bind_some, if_neg z10]
        rw [if_neg c2, cl (by omega), if_neg (by rw [g2]; exact z10), c5, r1]
        simp only [Option.bind_some, xl]
        rw [if_neg (by rw [cl (by omega)] at c2; exact c2)]
      rw [e1, e2]
      refine ⟨_, _, rfl, rfl, rfl, ?_⟩
      exact ⟨by omega, h2, g3, h4.mono (by omega), pl, ch, D, hPR, ((g4.cp (G := C 4)).row (fun j hj => by show r j = _; rw [r2, if_pos (by omega)]; congr 1)).mono (by omega), ⟨0, nx, by omega, a2, rfl, a4, rfl, fun i hi => absurd hi (Nat.not_lt_zero i)⟩, RIm1.mono (Or.inr ⟨g1, g2, g3, g4⟩) (by omega), h9.mono (by omega), h10, h11⟩
  · have hj2 : x_X10_in x1 0 1 = some 0 := hj2
    have hx : x1 < 0 ∨ ¬ x1 < 2 := hj.elim (fun h9 => Or.inl h9) (fun h9 => Or.inr (fun h8 => by have e1 := lt_I.mp h9; have e2 := lt_I.mp h8; rw [nI_toInt (by omega)] at e1; rw [li_2, nI_toInt (by omega)] at e2; omega))
    have e1 : x_X9_goBack (u 12 7) (C 0) (fun i => some (u (12 + i) 7)) (C 4) (C 12) (C 14) (C 6) x1 = some (-1000000001, C 0 10 0, C 4 0 0, C 4 1 0, C 4 2, C 4 3, C 4 4, C 4 5, C 4 6, C 6 0 0) := by
      unfold x_X9_goBack
      by_cases hx0 : x1 < 0
      · rw [if_pos hx0]
      · rw [if_neg hx0, if_neg (hx.resolve_left hx0)]
    have e2 : x_X10_goBack N M x1 = some (-1000000001, M 20, M 23 0, M 27 0) := by
      unfold x_X10_goBack
      rw [hj2]
      rfl
    rw [e1, e2]
    exact ⟨_, _, rfl, rfl, rfl, ref 0 0⟩
theorem P_goBack1 {N n : Nat} (hN : 4096 ≤ N) (hn : n < 64) {C RF : Nat → St} {M : St} (h : Rel n C RF M) (u : Nat → Ad) (x1 : Int32) (h1 : x1 = 1) : ∃ (v : Int32 × Int32 × Int32 × Int32 × (Nat → Int32) × (Nat → Int32) × (Nat → Int32) × (Nat → Int32) × (Nat → Int32) × Int32) (w : Int32 × (Nat → Int32) × Int32 × Int32), x_X9_goBack (u 13 7) (C 0) (fun i => some (u (12 + i) 7)) (C 4) (C 13) (C 15) (C 6) x1 = some v ∧ x_X10_goBack N M x1 = some w ∧ v.1 = w.1 ∧ Rel (n + 1) (va_up (va_up (va_up C 0 (va_up (C 0) 10 (fun _ => v.2.1))) 4 (va_up (va_up (va_up (va_up (va_up (va_up (va_up (C 4) 0 (fun _ => v.2.2.1)) 1 (fun _ => v.2.2.2.1)) 2 v.2.2.2.2.1) 3 v.2.2.2.2.2.1) 4 v.2.2.2.2.2.2.1) 5 v.2.2.2.2.2.2.2.1) 6 v.2.2.2.2.2.2.2.2.1)) 6 (va_up (C 6) 0 (fun _ => v.2.2.2.2.2.2.2.2.2))) RF (va_up (va_up (va_up M 20 w.2.1) 23 (fun _ => w.2.2.1)) 27 (fun _ => w.2.2.2)) := by
  obtain ⟨k1, h2, h3, h4, pl, ch, D, hPR, h6, ⟨cnt, nx, a1, a2, a3, a4, a5, a6⟩, h8, h9, h10, h11⟩ := h
  have ref : ∀ (a b : Int32), Rel (n + 1) (va_up (va_up (va_up C 0 (va_up (C 0) 10 (fun _ => C 0 10 0))) 4 (sfF (C 4))) 6 (va_up (C 6) 0 (fun _ => C 6 0 0))) RF (va_up (va_up (va_up M 20 (M 20)) 23 (fun _ => M 23 0)) 27 (fun _ => M 27 0)) := fun _ _ => ⟨by omega, h2, h3, h4.mono (by omega), pl, ch, D, hPR, (h6.of (F' := sfF (C 4)) rfl rfl rfl rfl rfl rfl rfl).mono (by omega), RPa.mono ⟨cnt, nx, a1, a2, a3, a4, a5, a6⟩ (by omega), h8.mono (by omega), h9.mono (by omega), h10, h11⟩
  rcases in_cases x1 0 1 (by omega) (by omega) with ⟨j, j0, j1, rfl, hj⟩ | ⟨hj, hj2⟩
  · have hj : x_X10_in (nI j) 0 1 = some 1 := hj
    have ej : j = 1 := by
      rcases (show j = 0 ∨ j = 1 by omega) with rfl | rfl
      · exact absurd h1 (by decide)
      · rfl
    subst ej
    have c1 : (fun i => some (u (12 + i) 7)) (nI 1).toNatClampNeg = some (u 13 7) := by rw [cl (by omega)]
    have c2 : ¬ (nI 1 < 0 ∨ 2 ≤ (nI 1).toNatClampNeg) := by rw [cl (by omega)]; decide
    have c3 : ¬ nI 1 < 0 := by decide
    have c4 : nI 1 < 2 := by decide
    rcases h9 with ⟨g1, g2⟩ | ⟨g1, g2, g3, g4⟩
    · have e1 : x_X9_goBack (u 13 7) (C 0) (fun i => some (u (12 + i) 7)) (C 4) (C 13) (C 15) (C 6) (nI 1) = some (-1000000003, C 0 10 0, C 4 0 0, C 4 1 0, C 4 2, C 4 3, C 4 4, C 4 5, C 4 6, C 6 0 0) := by
        unfold x_X9_goBack
        rw [if_neg c3, if_pos c4, if_neg c2, if_pos c1, if_pos g1]
      have e2 : x_X10_goBack N M (nI 1) = some (-1000000003, M 20, M 23 0, M 27 0) := by
        unfold x_X10_goBack
        rw [hj]
        simp only [Option.bind_some, if_neg z10]
        rw [if_neg c2, cl (by omega), if_pos g2]
      rw [e1, e2]
      exact ⟨_, _, rfl, rfl, rfl, ref 0 0⟩
    · obtain ⟨r, r1, r2⟩ := copy_eq (N := N) hN (na := 348) (nb := 174) (fr := 174 * 1) (to := 0) (a := M 24) (b := M 20) (by omega) (by omega) (by omega) (by omega)
      have r1 : x_X10_copy N 348 174 (M 24) (M 20) (nI (174 * 1)) (0 : Int32) = some r := r1
      have e1 : x_X9_goBack (u 13 7) (C 0) (fun i => some (u (12 + i) 7)) (C 4) (C 13) (C 15) (C 6) (nI 1) = some (1, C 13 1 0, C 15 0 0, C 15 1 0, va_cpy (C 15 2) (C 4 2) 0 0 10, va_cpy (C 15 3) (C 4 3) 0 0 10, va_cpy (C 15 4) (C 4 4) 0 0 8, va_cpy (C 15 5) (C 4 5) 0 0 64, va_cpy (C 15 6) (C 4 6) 0 0 80, 0) := by
        unfold x_X9_goBack x_X0_copyFrom x_X3_forget
        rw [if_neg c3, if_pos c4, if_neg c2, if_pos c1, if_neg (by rw [g1]; exact z10)]
        simp only [xl, Option.bind_some, if_neg c2, if_pos c1]
      have e2 : x_X10_goBack N M (nI 1) = some (1, r, 0, M 25 1) := by
        have c5 : (174 : Int32) * nI 1 = nI (174 * 1) := pk_mul 174 1
        unfold x_X10_goBack
        rw [hj]
        simp only [Option.bind_some, if_neg z10]
        rw [if_neg c2, cl (by omega), if_neg (by rw [g2]; exact z10), c5, r1]
        simp only [Option.bind_some, xl]
        rw [if_neg (by rw [cl (by omega)] at c2; exact c2)]
      rw [e1, e2]
      refine ⟨_, _, rfl, rfl, rfl, ?_⟩
      exact ⟨by omega, h2, g3, h4.mono (by omega), pl, ch, D, hPR, ((g4.cp (G := C 4)).row (fun j hj => by show r j = _; rw [r2, if_pos (by omega)]; congr 1)).mono (by omega), ⟨0, nx, by omega, a2, rfl, a4, rfl, fun i hi => absurd hi (Nat.not_lt_zero i)⟩, h8.mono (by omega), RIm1.mono (Or.inr ⟨g1, g2, g3, g4⟩) (by omega), h10, h11⟩
  · have hj2 : x_X10_in x1 0 1 = some 0 := hj2
    have hx : x1 < 0 ∨ ¬ x1 < 2 := hj.elim (fun h9 => Or.inl h9) (fun h9 => Or.inr (fun h8 => by have e1 := lt_I.mp h9; have e2 := lt_I.mp h8; rw [nI_toInt (by omega)] at e1; rw [li_2, nI_toInt (by omega)] at e2; omega))
    have e1 : x_X9_goBack (u 13 7) (C 0) (fun i => some (u (12 + i) 7)) (C 4) (C 13) (C 15) (C 6) x1 = some (-1000000001, C 0 10 0, C 4 0 0, C 4 1 0, C 4 2, C 4 3, C 4 4, C 4 5, C 4 6, C 6 0 0) := by
      unfold x_X9_goBack
      by_cases hx0 : x1 < 0
      · rw [if_pos hx0]
      · rw [if_neg hx0, if_neg (hx.resolve_left hx0)]
    have e2 : x_X10_goBack N M x1 = some (-1000000001, M 20, M 23 0, M 27 0) := by
      unfold x_X10_goBack
      rw [hj2]
      rfl
    rw [e1, e2]
    exact ⟨_, _, rfl, rfl, rfl, ref 0 0⟩
