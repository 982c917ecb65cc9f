/-- two loops side by side -/
theorem lpc_sim {σ ε σ' ε' : Type} {b1 : σ → Option (σ ⊕ ε)} {b2 : σ' → Option (σ' ⊕ ε')} (I : Nat → σ → σ' → Prop) (Pst : ε → ε' → Prop) (K : Nat) (hstep : ∀ k z z', k ≤ K → I k z z' → (∃ y y', b1 z = some (.inl y) ∧ b2 z' = some (.inl y') ∧ k < K ∧ I (k + 1) y y') ∨ (∃ x x', b1 z = some (.inr x) ∧ b2 z' = some (.inr x') ∧ Pst x x')) {N : Nat} {z : σ} {z' : σ'} (hN : K < N) (h0 : I 0 z z') : ∃ x x', lpc b1 N z = some x ∧ lpc b2 N z' = some x' ∧ Pst x x' := by
  have key : ∀ (n k : Nat) (z : σ) (z' : σ') (N : Nat), k + n = K → n < N → I k z z' → ∃ x x', lpc b1 N z = some x ∧ lpc b2 N z' = some x' ∧ Pst x x' := by
    intro n
    induction n with
    | zero =>
      intro k z z' N hk hN hI
      obtain ⟨N, rfl⟩ : ∃ N', N = N' + 1 := ⟨N - 1, by omega⟩
      rcases hstep k z z' (by omega) hI with ⟨y, y', h1, h2, h3, h4⟩ | ⟨x, x', h1, h2, h3⟩
      · omega
      · exact ⟨x, x', by simp only [lpc, h1, Option.bind_some], by simp only [lpc, h2, Option.bind_some], h3⟩
    | succ n ih =>
      intro k z z' N hk hN hI
      obtain ⟨N, rfl⟩ : ∃ N', N = N' + 1 := ⟨N - 1, by omega⟩
      rcases hstep k z z' (by omega) hI with ⟨y, y', h1, h2, h3, h4⟩ | ⟨x, x', h1, h2, h3⟩
      · obtain ⟨x, x', h5, h6, h7⟩ := ih (k + 1) y y' N (by omega) (by omega) h4
        exact ⟨x, x', by simp only [lpc, h1, Option.bind_some]; exact h5, by simp only [lpc, h2, Option.bind_some]; exact h6, h7⟩
      · exact ⟨x, x', by simp only [lpc, h1, Option.bind_some], by simp only [lpc, h2, Option.bind_some], h3⟩
  exact key K 0 z z' N (by omega) hN h0
theorem drip_add {n : Nat} (hn : n < 64) {C RF : Nat → St} {M : St} (h : Rel n C RF M) {j t hh : Nat} (hj : ∀ pl ch D, PR pl ch D (C 2) (M 15 0) (M 16 0) (M 17 0) (M 18) (M 19) → j < pl) (ht : t < 8) (hhh : hh ≤ 60 ∨ hh = 99) : ∃ (v : Int32 × Int32 × (Nat → Int32) × (Nat → Int32) × (Nat → Int32)) (w : Int32 × Int32 × (Nat → Int32)), x_X9_drip_k40 (C 0) (C 7) (C 2) (nI j) (nI t) (nI hh) = some v ∧ x_X10_drip_k37 M (nI j) (nI t) (nI hh) = some w ∧ v.1 = w.1 ∧ Rel (n + 1) (va_up C 7 (va_up (va_up (va_up (va_up (C 7) 0 (fun _ => v.2.1)) 2 v.2.2.1) 3 v.2.2.2.1) 4 v.2.2.2.2)) RF (va_up (va_up M 28 (fun _ => w.2.1)) 29 w.2.2) := by
  obtain ⟨h1, h2, h3, h4, pl, ch, D, hPR, h6, h7, h8, h9, ⟨d, d1, d2, d3, d4⟩, h11⟩ := h
  have hj := hj pl ch D hPR
  have hpl : pl ≤ 8 := hPR.1
  have hR : ∀ (a b : Int32), Rel (n + 1) (va_up C 7 (va_up (va_up (va_up (va_up (C 7) 0 (fun _ => C 7 0 0)) 2 (C 7 2)) 3 (C 7 3)) 4 (C 7 4))) RF (va_up (va_up M 28 (fun _ => M 28 0)) 29 (M 29)) := fun _ _ => ⟨by omega, h2, h3, h4.mono (by omega), pl, ch, D, hPR, h6.mono (by omega), h7.mono (by omega), h8.mono (by omega), h9.mono (by omega), ⟨d, d1, d2, d3, d4⟩, h11⟩
  unfold x_X9_drip_k40 x_X10_drip_k37 x_X2_addDrip
  rw [d2, d3]
  by_cases hd : d = 6
  · subst hd
    simp (disch := omega) only [li_0, li_1, li_2, li_3, li_4, li_5, li_6, li_7, li_8, li_9, li_10, li_11, li_15, li_16, li_20, li_30, li_32, li_48, li_57, li_58, li_59, li_60, li_61, li_63, li_64, li_80, li_85, li_88, li_99, li_100, li_112, li_115, li_152, li_162, li_172, li_173, li_174, li_240, li_255, li_348, li_1000, li_3306, nI_add, pk_mul, nI_ltI, nI_leI, nI_eq, nI_clamp, if_pos, if_neg, Option.bind_some]
    refine ⟨_, _, rfl, rfl, rfl, ?_⟩
    have := hR 0 0
    rw [d2, d3] at this
    exact this
  · simp (disch := omega) only [li_0, li_1, li_2, li_3, li_4, li_5, li_6, li_7, li_8, li_9, li_10, li_11, li_15, li_16, li_20, li_30, li_32, li_48, li_57, li_58, li_59, li_60, li_61, li_63, li_64, li_80, li_85, li_88, li_99, li_100, li_112, li_115, li_152, li_162, li_172, li_173, li_174, li_240, li_255, li_348, li_1000, li_3306, nI_add, pk_mul, nI_ltI, nI_leI, nI_eq, nI_clamp, if_pos, if_neg, Option.bind_some, xl]
    refine ⟨_, _, rfl, rfl, rfl, ?_⟩
    refine ⟨by omega, h2, h3, h4.mono (by omega), pl, ch, D, hPR, h6.mono (by omega), h7.mono (by omega), h8.mono (by omega), h9.mono (by omega), ⟨d + 1, by omega, rfl, rfl, fun i hi => ?_⟩, h11⟩
    by_cases hi2 : i = d
    · subst hi2
      exact ⟨j, t, hh, hj, ht, hhh, pk_us, (pk_un (by omega)).trans ((pk_un (by omega)).trans pk_us), pk_us, (pk_un (by omega)).trans pk_us, pk_us, pk_us⟩
    · obtain ⟨pp, tt, zz, y1, y2, y3, y4, y5, y6, y7, y8, y9⟩ := d4 i (by omega)
      exact ⟨pp, tt, zz, y1, y2, y3, (pk_un hi2).trans y4, (pk_un (by omega)).trans ((pk_un (by omega)).trans ((pk_un (by omega)).trans y5)), (pk_un hi2).trans y6, (pk_un (by omega)).trans ((pk_un (by omega)).trans ((pk_un (by omega)).trans y7)), (pk_un hi2).trans y8, (pk_un (by omega)).trans ((pk_un (by omega)).trans ((pk_un (by omega)).trans y9))⟩
theorem drip9 {C0 C7 C2 : St} {x1 x2 x3 : Int32} (e1 : x_X4_hasPlace C2 x1 = some 1) (e3 : x_X9_isSaying x2 = some 1) (h : (¬ x3 < 0 ∧ x3 ≤ 60) ∨ x3 = 99) : x_X9_drip C0 C7 C2 x1 x2 x3 = x_X9_drip_k40 C0 C7 C2 x1 x2 x3 := by
  unfold x_X9_drip
  rw [e1]
  show (Option.bind (x_X9_isSaying x2) _) = _
  rw [e3]
  show (if x3 < 0 then _ else _) = _
  unfold x_X9_drip_k31
  rcases h with ⟨h1, h2⟩ | h
  · rw [if_neg h1, if_pos h2]
  · rw [if_pos h]
    by_cases h1 : x3 < 0
    · rw [if_pos h1]
    · rw [if_neg h1]
      by_cases h2 : x3 ≤ 60
      · rw [if_pos h2]
      · rw [if_neg h2]
theorem drip9' {C0 C7 C2 : St} {x1 x2 x3 : Int32} (e1 : x_X4_hasPlace C2 x1 = some 1) (e3 : x_X9_isSaying x2 = some 1) (h1 : x3 < 0 ∨ ¬ x3 ≤ 60) (h : ¬ x3 = 99) : x_X9_drip C0 C7 C2 x1 x2 x3 = some (-1000000002, C7 0 0, C7 2, C7 3, C7 4) := by
  unfold x_X9_drip
  rw [e1]
  show (Option.bind (x_X9_isSaying x2) _) = _
  rw [e3]
  show (if x3 < 0 then _ else _) = _
  unfold x_X9_drip_k31
  rw [if_neg h]
  by_cases h2 : x3 < 0
  · rw [if_pos h2]
  · rw [if_neg h2, if_neg (h1.resolve_left h2)]
theorem drip10 {M : St} {x1 x2 x3 : Int32} (e1 : x_X10_isPlace M x1 = some 1) (e3 : x_X10_isSaying x2 = some 1) (h : x_X10_in x3 0 60 = some 1 ∨ (x_X10_in x3 0 60 = some 0 ∧ x3 = 99)) : x_X10_drip M x1 x2 x3 = x_X10_drip_k37 M x1 x2 x3 := by
  unfold x_X10_drip
  rw [e1]
  show (Option.bind (x_X10_isSaying x2) _) = _
  rw [e3]
  show (Option.bind (x_X10_in x3 0 60) _) = _
  rcases h with h | ⟨h, h2⟩
  · rw [h]; rfl
  · rw [h]
    show (if x3 = 99 then _ else _) = _
    rw [if_pos h2]
theorem drip10' {M : St} {x1 x2 x3 : Int32} (e1 : x_X10_isPlace M x1 = some 1) (e3 : x_X10_isSaying x2 = some 1) (h : x_X10_in x3 0 60 = some 0) (h2 : ¬ x3 = 99) : x_X10_drip M x1 x2 x3 = some (-1000000002, M 28 0, M 29) := by
  unfold x_X10_drip
  rw [e1]
  show (Option.bind (x_X10_isSaying x2) _) = _
  rw [e3]
  show (Option.bind (x_X10_in x3 0 60) _) = _
  rw [h]
  show (if x3 = 99 then _ else _) = _
  rw [if_neg h2]
theorem P_drip {N n : Nat} (hN : 4096 ≤ N) (hn : n < 64) {C RF : Nat → St} {M : St} (h : Rel n C RF M) (x1 : Int32) (x2 : Int32) (x3 : Int32) : ∃ (v : Int32 × Int32 × (Nat → Int32) × (Nat → Int32) × (Nat → Int32)) (w : Int32 × Int32 × (Nat → Int32)), x_X9_drip (C 0) (C 7) (C 2) x1 x2 x3 = some v ∧ x_X10_drip M x1 x2 x3 = some w ∧ v.1 = w.1 ∧ Rel (n + 1) (va_up C 7 (va_up (va_up (va_up (va_up (C 7) 0 (fun _ => v.2.1)) 2 v.2.2.1) 3 v.2.2.2.1) 4 v.2.2.2.2)) RF (va_up (va_up M 28 (fun _ => w.2.1)) 29 w.2.2) := by
  have hrel := h
  obtain ⟨h1, h2, h3, h4, pl, ch, D, ⟨p1, p2, p3, p4, p5, p6⟩, h6, h7, h8, h9, ⟨d, d1, d2, d3, d4⟩, h11⟩ := h
  have hR : ∀ (a b : Int32), Rel (n + 1) (va_up C 7 (va_up (va_up (va_up (va_up (C 7) 0 (fun _ => C 7 0 0)) 2 (C 7 2)) 3 (C 7 3)) 4 (C 7 4))) RF (va_up (va_up M 28 (fun _ => M 28 0)) 29 (M 29)) := fun _ _ => ⟨by omega, h2, h3, h4.mono (by omega), pl, ch, D, ⟨p1, p2, p3, p4, p5, p6⟩, h6.mono (by omega), h7.mono (by omega), h8.mono (by omega), h9.mono (by omega), ⟨d, d1, d2, d3, d4⟩, h11⟩
  rcases hp_place p4 p5 p1 x1 with ⟨j, hj, rfl, e1, e2⟩ | ⟨e1, e2⟩
  · rcases hp_say x2 with ⟨t, ht, rfl, e3, e4⟩ | ⟨e3, e4⟩
    · have add := fun (hh : Nat) (hhh : hh ≤ 60 ∨ hh = 99) => drip_add hn hrel (j := j) (t := t) (fun pl' ch' D' hq => by have e := hq.2.2.2.1.symm.trans p4; have := nI_inj (by have := hq.1; omega) (by omega) e; omega) ht hhh
      rcases in_cases x3 0 60 (by omega) (by omega) with ⟨k, k0, k1, rfl, hk⟩ | ⟨hk, hk2⟩
      · rw [drip9 e1 e3 (Or.inl ⟨nI_pos (by omega), nI_le (b := 60) k1 (by omega)⟩), drip10 e2 e4 (Or.inl hk)]
        exact add k (Or.inl k1)
      · have hx2 : x3 < 0 ∨ ¬ x3 ≤ 60 := hk.elim (fun h9 => Or.inl h9) (fun h9 => Or.inr (Int32.not_le.mpr h9))
        by_cases h99 : x3 = 99
        · rw [drip9 e1 e3 (Or.inr h99), drip10 e2 e4 (Or.inr ⟨hk2, h99⟩), h99]
          exact add 99 (Or.inr rfl)
        · rw [drip9' e1 e3 hx2 h99, drip10' e2 e4 hk2 h99]
          exact ⟨_, _, rfl, rfl, rfl, hR 0 0⟩
    · unfold x_X9_drip x_X10_drip
      rw [e1, e2]
      show ∃ v w, (Option.bind (x_X9_isSaying x2) _) = some v ∧ (Option.bind (x_X10_isSaying x2) _) = some w ∧ _
      rw [e3, e4]
      exact ⟨_, _, rfl, rfl, rfl, hR 0 0⟩
  · unfold x_X9_drip x_X10_drip
    rw [e1, e2]
    exact ⟨_, _, rfl, rfl, rfl, hR 0 0⟩
theorem P_judge {N n : Nat} (hN : 4096 ≤ N) (hn : n < 64) {C RF : Nat → St} {M : St} (h : Rel n C RF M) : ∃ (v : Int32) (w : Int32), x_X9_judge N (C 0) (C 4) (C 7) = some v ∧ x_X10_judge N M = some w ∧ v = w ∧ Rel (n + 1) C RF M := by
  have hR := Rel_step hn h
  obtain ⟨h1, h2, h3, h4, pl, ch, D, ⟨p1, p2, p3, p4, p5, p6⟩, ⟨_, _, _, _, f5⟩, h7, h8, h9, h10, ⟨d, d1, d2, d3, d4⟩⟩ := h
  unfold x_X9_judge x_X10_judge x_X2_firstWrong
  obtain ⟨x, x', e1, e2, e3⟩ := lpc_sim (b1 := fun (z : Int32) => x_X2_firstWrong_b2 N (C 7) (C 4) z) (b2 := fun (z : Int32) => x_X10_judge_b2 N M z) (I := fun k z z' => z = nI k ∧ z' = nI k) (Pst := fun x x' => x = x') d (fun k z z' hk hI => by
    obtain ⟨rfl, rfl⟩ := hI
    unfold x_X2_firstWrong_b2 x_X10_judge_b2
    rw [d2, d3]
    by_cases hkd : k = d
    · subst hkd
      right
      exact ⟨.inr (), .inr (), by rw [if_pos (nI_le (Nat.le_refl _) (by omega))], by rw [if_pos (nI_le (Nat.le_refl _) (by omega))], rfl⟩
    · obtain ⟨pp, zz, y1, y2, y3, y4, y5, y6⟩ := d4 k (by omega)
      obtain ⟨q, q1, q2, q3, q4⟩ := f5 pp (by omega)
      simp (disch := omega) only [li_0, li_1, li_2, li_3, li_4, li_5, li_6, li_7, li_8, li_9, li_10, li_11, li_15, li_16, li_20, li_30, li_32, li_48, li_57, li_58, li_59, li_60, li_61, li_63, li_64, li_80, li_85, li_88, li_99, li_100, li_112, li_115, li_152, li_162, li_172, li_173, li_174, li_240, li_255, li_348, li_1000, li_3306, nI_add, pk_mul, nI_ltI, nI_leI, nI_eq, nI_clamp, if_neg, y3, y4, y5, y6, q2, q3]
      by_cases hq : q = zz
      · left
        exact ⟨nI (k + 1), nI (k + 1), by rw [if_pos hq], by rw [if_pos hq], by omega, rfl, rfl⟩
      · right
        exact ⟨.inl (nI k), .inl (nI k), by rw [if_neg hq], by rw [if_neg hq], rfl⟩) (N := N) (z := (0 : Int32)) (z' := (0 : Int32)) (by omega) ⟨rfl, rfl⟩
  subst e3
  rw [e1, e2]
  rcases x with x | x
  · exact ⟨_, _, rfl, rfl, rfl, hR⟩
  · exact ⟨_, _, rfl, rfl, rfl, hR⟩
theorem P_frost {N n : Nat} (hN : 4096 ≤ N) (hn : n < 64) {C RF : Nat → St} {M : St} (h : Rel n C RF M) (x1 : Int32) (x2 : Int32) : ∃ (v : Int32) (w : Int32), x_X9_frost N x1 x2 = some v ∧ x_X10_frost N x1 x2 = some w ∧ v = w ∧ Rel (n + 1) C RF M := by
  have hR := Rel_step hn h
  unfold x_X9_frost x_X10_frost
  rcases in_cases x1 0 60 (by omega) (by omega) with ⟨k, k0, k1, rfl, hk⟩ | ⟨hk, hk2⟩
  · have hk : x_X10_in (nI k) 0 60 = some 1 := hk
    rw [hk]
    rcases in_cases x2 0 100 (by omega) (by omega) with ⟨j, j0, j1, rfl, hj⟩ | ⟨hj, hj2⟩
    · have hj : x_X10_in (nI j) 0 100 = some 1 := hj
      rw [hj]
      simp (disch := omega) only [li_0, li_1, li_2, li_3, li_4, li_5, li_6, li_7, li_8, li_9, li_10, li_11, li_15, li_16, li_20, li_30, li_32, li_48, li_57, li_58, li_59, li_60, li_61, li_63, li_64, li_80, li_85, li_88, li_99, li_100, li_112, li_115, li_152, li_162, li_172, li_173, li_174, li_240, li_255, li_348, li_1000, li_3306, nI_ltI, nI_leI, nI_eq, if_neg, if_pos, Option.bind_some]
      obtain ⟨x, e1, e2⟩ := lpc_run (body := fun (z : Int64 × Int32) => x_X9_frost_b30 N (nI k) (nI j) z.1 z.2) (I := fun i z => z.2 = nI i) (Pst := fun _ => True) k (fun i z hi hI => by
        unfold x_X9_frost_b30
        rw [hI]
        by_cases h : i = k
        · subst h
          right
          exact ⟨_, by rw [if_pos (nI_le (Nat.le_refl _) (by omega))], trivial⟩
        · left
          exact ⟨_, by rw [if_neg (nI_ge (by omega) (by omega))]; rfl, by omega, nI_1 i⟩) (N := N) (z := ((1000000000 : Int64), nI 0)) (by omega) rfl
      have e3 : lpc (fun (z : Int64 × Int32) => x_X10_frost_b30 N (nI k) (nI j) z.1 z.2) N ((1000000000 : Int64), nI 0) = some x := e1
      rw [e1, e3]
      exact ⟨_, _, rfl, rfl, rfl, hR⟩
    · have hj2 : x_X10_in x2 0 100 = some 0 := hj2
      rw [hj2]
      have a1 : ¬ nI k < 0 := nI_pos (by omega)
      have a2 : ¬ (60 : Int32) < nI k := fun h => by have := (nI_ltI (a := 60) (by omega) (by omega)).mp h; omega
      by_cases hx : x2 < 0
      · simp only [Option.bind_some, if_neg z10, ite_true, if_pos hx, if_neg a1, if_neg a2]
        exact ⟨_, _, rfl, rfl, rfl, hR⟩
      · have hx2 : ¬ x2 ≤ 100 := (hj.elim (fun h9 => absurd h9 hx) (fun h9 => Int32.not_le.mpr h9))
        simp only [Option.bind_some, if_neg z10, ite_true, if_neg hx, if_neg hx2, if_neg a1, if_neg a2]
        exact ⟨_, _, rfl, rfl, rfl, hR⟩
  · have hk2 : x_X10_in x1 0 60 = some 0 := hk2
    rw [hk2]
    by_cases hx : x1 < 0
    · simp only [Option.bind_some, ite_true, if_pos hx]
      exact ⟨_, _, rfl, rfl, rfl, hR⟩
    · have hx2 : (60 : Int32) < x1 := hk.elim (fun h9 => absurd h9 hx) id
      simp only [Option.bind_some, ite_true, if_neg hx, if_pos hx2]
      exact ⟨_, _, rfl, rfl, rfl, hR⟩
theorem P_share {N n : Nat} (hN : 4096 ≤ N) (hn : n < 64) {C RF : Nat → St} {M : St} (h : Rel n C RF M) (x1 : Int32) : ∃ (v : Int32) (w : Int32), x_X9_share N (C 0) (C 4) (C 2) x1 = some v ∧ x_X10_share N M x1 = some w ∧ v = w ∧ Rel (n + 1) C RF M := by
  have hR := Rel_step hn h
  obtain ⟨h1, h2, h3, h4, pl, ch, D, ⟨p1, p2, p3, p4, p5, p6⟩, ⟨_, _, _, _, f5⟩, h7⟩ := h
  unfold x_X9_share x_X10_share
  rcases hp_place p4 p5 p1 x1 with ⟨j, hj, rfl, e1, e2⟩ | ⟨e1, e2⟩
  · rw [e1, e2]
    simp only [Option.bind_some, if_neg z10]
    obtain ⟨x, x', e3, e4, e5⟩ := lpc_sim (b1 := fun (z : Int32 × Int32) => x_X9_share_b18 N (C 0) (C 4) (C 2) (nI j) z.1 z.2) (b2 := fun (z : Int32 × Int32) => x_X10_share_b15 N M (nI j) z.1 z.2) (I := fun k z z' => z = z' ∧ z.2 = nI k) (Pst := fun x x' => x = x') pl (fun k z z' hk hI => by
      obtain ⟨rfl, hI⟩ := hI
      obtain ⟨a, b⟩ := z
      have hI : b = nI k := hI
      subst hI
      unfold x_X9_share_b18 x_X10_share_b15
      simp only [p4, p5]
      by_cases hkd : k = pl
      · subst hkd
        right
        exact ⟨a, a, by rw [if_pos (nI_le (Nat.le_refl _) (by omega))], by rw [if_pos (nI_le (Nat.le_refl _) (by omega))], rfl⟩
      · obtain ⟨q, q1, q2, q3, q4⟩ := f5 k (by omega)
        left
        simp (disch := omega) only [li_0, li_1, li_2, li_3, li_4, li_5, li_6, li_7, li_8, li_9, li_10, li_11, li_15, li_16, li_20, li_30, li_32, li_48, li_57, li_58, li_59, li_60, li_61, li_63, li_64, li_80, li_85, li_88, li_99, li_100, li_112, li_115, li_152, li_162, li_172, li_173, li_174, li_240, li_255, li_348, li_1000, li_3306, nI_add, nI_ltI, nI_leI, nI_clamp, if_neg, q2, q3, bitCount_eq q (by omega), bits_eq hN (show q < 2 ^ 31 by omega), Option.bind_some, xl]
        exact ⟨_, _, rfl, rfl, by omega, rfl, rfl⟩) (N := N) (z := ((0 : Int32), (0 : Int32))) (z' := ((0 : Int32), (0 : Int32))) (by omega) ⟨rfl, rfl⟩
    subst e5
    rw [e3, e4]
    obtain ⟨q, q1, q2, q3, q4⟩ := f5 j (by omega)
    simp only [Option.bind_some]
    by_cases hx : x = 0
    · rw [if_pos hx, if_pos hx]
      exact ⟨_, _, rfl, rfl, rfl, hR⟩
    · simp (disch := omega) only [if_neg hx, li_80, li_0, nI_add, nI_ltI, nI_clamp, if_neg, q2, q3, bitCount_eq q (by omega), bits_eq hN (show q < 2 ^ 31 by omega), Option.bind_some]
      have hx0 : ¬ x = nI 0 := hx
      simp only [hx0, if_false]
      exact ⟨_, _, rfl, rfl, rfl, hR⟩
  · rw [e1, e2]
    exact ⟨_, _, rfl, rfl, rfl, hR⟩
