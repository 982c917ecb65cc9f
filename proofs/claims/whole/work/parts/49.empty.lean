/-! empty, the beginning -/
/-- what an emptied flow holds -/
def dryV (j : Nat) : Int32 := if 88 ≤ j ∧ j < 152 then -1 else 0
theorem dryV_a {j : Nat} (h : 88 ≤ j ∧ j < 152) : dryV j = -1 := if_pos h
theorem dryV_b {j : Nat} (h : ¬ (88 ≤ j ∧ j < 152)) : dryV j = nI 0 := if_neg h
theorem dry_step {N : Nat} {f : Nat → Int32} {k : Nat} (hk : k < 162) : x_X10_dry_b2 N f (nI k) = some (.inl (nI (k + 1), upd f k (dryV k))) := by
  unfold x_X10_dry_b2 x_X10_dry_b2_k28 x_X10_dry_b2_k29
  by_cases h1 : k < 88
  · rw [dryV_b (by omega)]
    simp (disch := omega) only [li_0, li_1, li_2, li_3, li_4, li_5, li_6, li_7, li_8, li_9, li_10, li_11, li_15, li_16, li_20, li_30, li_32, li_48, li_57, li_58, li_59, li_60, li_61, li_63, li_64, li_80, li_85, li_88, li_99, li_100, li_112, li_115, li_152, li_162, li_172, li_173, li_174, li_240, li_255, li_348, li_1000, li_3306, nI_add, nI_ltI, nI_leI, nI_clamp, if_neg, if_pos]
  · by_cases h2 : 152 ≤ k
    · rw [dryV_b (by omega)]
      simp (disch := omega) only [li_0, li_1, li_2, li_3, li_4, li_5, li_6, li_7, li_8, li_9, li_10, li_11, li_15, li_16, li_20, li_30, li_32, li_48, li_57, li_58, li_59, li_60, li_61, li_63, li_64, li_80, li_85, li_88, li_99, li_100, li_112, li_115, li_152, li_162, li_172, li_173, li_174, li_240, li_255, li_348, li_1000, li_3306, nI_add, nI_ltI, nI_leI, nI_clamp, if_neg, if_pos]
    · rw [dryV_a (by omega)]
      simp (disch := omega) only [li_0, li_1, li_2, li_3, li_4, li_5, li_6, li_7, li_8, li_9, li_10, li_11, li_15, li_16, li_20, li_30, li_32, li_48, li_57, li_58, li_59, li_60, li_61, li_63, li_64, li_80, li_85, li_88, li_99, li_100, li_112, li_115, li_152, li_162, li_172, li_173, li_174, li_240, li_255, li_348, li_1000, li_3306, nI_add, nI_ltI, nI_leI, nI_clamp, if_neg, if_pos]
theorem dry_eq {N : Nat} (hN : 4096 ≤ N) {a : Nat → Int32} : ∃ r, x_X10_dry N a = some r ∧ ∀ j, r j = if j < 162 then dryV j else a j := by
  unfold x_X10_dry
  obtain ⟨x, e1, e2⟩ := lpc_run (body := fun (z : Int32 × (Nat → Int32)) => x_X10_dry_b2 N z.2 z.1) (I := fun k z => z.1 = nI k ∧ ∀ j, z.2 j = if j < k then dryV j else a j) (Pst := fun r => ∀ j, r j = if j < 162 then dryV j else a j) 162 (fun k z hk hI => by
    obtain ⟨z1, f⟩ := z
    obtain ⟨rfl, hf⟩ := hI
    dsimp only at hf
    by_cases h : k = 162
    · subst h
      right
      exact ⟨f, by unfold x_X10_dry_b2; rw [if_pos (show (162 : Int32) ≤ nI 162 from nI_le (a := 162) (Nat.le_refl _) (by omega))], hf⟩
    · left
      refine ⟨_, dry_step (by omega), by omega, rfl, fun j => ?_⟩
      show upd f k (dryV k) j = _
      by_cases hj : j = k
      · subst hj
        rw [pk_us, if_pos (by omega)]
      · rw [pk_un hj, hf]
        by_cases hj2 : j < k
        · rw [if_pos hj2, if_pos (by omega)]
        · rw [if_neg hj2, if_neg (by omega)]) (N := N) (z := ((0 : Int32), a)) (by omega) ⟨rfl, fun j => by rw [if_neg (by omega)]⟩
  rw [e1]
  exact ⟨x, rfl, e2⟩
/-- a flow that is emptied -/
theorem FR.dry {N : Nat} (hN : 4096 ≤ N) {pl hb : Nat} {F : St} {A : Nat → Int32} (h : FR pl hb F A) : ∃ f2 f4 f5 f6 r, x_X0_drain N F = some (f2, f4, f5, f6) ∧ x_X10_dry N A = some r ∧ FR pl hb (va_up (va_up (va_up (va_up F 2 f2) 4 f4) 5 f5) 6 f6) r := by
  obtain ⟨f2, g2, k2⟩ := fill_eq hN (n := 10) (by omega) (a := F 2) (x := 0)
  obtain ⟨f4, g4, k4⟩ := fill_eq hN (n := 8) (by omega) (a := F 4) (x := 0)
  obtain ⟨f5, g5, k5⟩ := fill_eq hN (n := 64) (by omega) (a := F 5) (x := -1)
  obtain ⟨f6, g6, k6⟩ := fill_eq hN (n := 80) (by omega) (a := F 6) (x := 0)
  obtain ⟨r, r1, r2⟩ := dry_eq hN (a := A)
  refine ⟨f2, f4, f5, f6, r, ?_, r1, ?_⟩
  · unfold x_X0_drain
    rw [g2]
    show Option.bind (x_J7_fill_53178 N 8 (F 4) 0) _ = _
    rw [g4]
    show Option.bind (x_J7_fill_53178 N 64 (F 5) (-1)) _ = _
    rw [g5]
    show Option.bind (x_J7_fill_53178 N 80 (F 6) 0) _ = _
    rw [g6]
    rfl
  · obtain ⟨⟨y, a1, a2, a3, a4⟩, ⟨z, b1, b2, b3⟩, c1, d1, e1⟩ := h
    refine ⟨⟨y, a1, a2, by rw [r2, if_neg (by omega)]; exact a3, fun p k hp hk => ⟨0, by omega, ?_, ?_, fun _ => rfl⟩⟩, ⟨z, b1, b2, by rw [r2, if_neg (by omega)]; exact b3⟩, fun c hc => ?_, fun c hc => ?_, fun p hp => ⟨0, by omega, ?_, ?_, fun t ht => ?_⟩⟩
    · rw [r2, if_pos (by omega), dryV_b (by omega)]
    · show f6 (10 * p + (y + k) % 10) = _
      rw [k6, if_pos (by omega)]; rfl
    · show f2 c = _
      rw [k2, if_pos hc, r2, if_pos (by omega), dryV_b (by omega)]; rfl
    · rw [r2, if_neg (by omega)]; exact d1 c hc
    · show f4 p = _
      rw [k4, if_pos hp]; rfl
    · rw [r2, if_pos (by omega), dryV_b (by omega)]
    · show f5 (8 * p + t) = _ ∧ _
      rw [k5, if_pos (by omega), r2, if_pos (by omega), dryV_a (by omega)]
      simp
theorem P_empty {N n : Nat} (hN : 4096 ≤ N) (hn : n < 64) {C RF : Nat → St} {M : St} (h : Rel n C RF M) (RQ : Nat → Ad) : ∃ (v : Int32 × (Nat → Int32) × (Nat → Int32) × (Nat → Int32) × (Nat → Int32) × Int32 × Int32 × Int32 × Int32 × (Nat → Int32) × (Nat → Int32) × (Nat → Int32) × (Nat → Int32) × (Nat → Int32)) (w : Int32 × (Nat → Int32) × (Nat → Int32) × Int32), x_X9_empty N (RQ (kr C) 7) (C 0) (C 4) (C 6) (fun i => some (RQ i 7)) (RF (kr C)) = some v ∧ x_X10_empty N M = some w ∧ v.1 = w.1 ∧ Rel (n + 1) (va_up (va_up C 4 (va_up (va_up (va_up (va_up (C 4) 2 v.2.1) 4 v.2.2.1) 5 v.2.2.2.1) 6 v.2.2.2.2.1)) 6 (va_up (va_up (C 6) 0 (fun _ => v.2.2.2.2.2.1)) 1 (fun _ => v.2.2.2.2.2.2.1))) (va_up RF (kr C) (va_up (va_up (va_up (va_up (va_up (va_up (va_up (RF (kr C)) 0 (fun _ => v.2.2.2.2.2.2.2.1)) 1 (fun _ => v.2.2.2.2.2.2.2.2.1)) 2 v.2.2.2.2.2.2.2.2.2.1) 3 v.2.2.2.2.2.2.2.2.2.2.1) 4 v.2.2.2.2.2.2.2.2.2.2.2.1) 5 v.2.2.2.2.2.2.2.2.2.2.2.2.1) 6 v.2.2.2.2.2.2.2.2.2.2.2.2.2)) (va_up (va_up (va_up M 20 w.2.1) 22 w.2.2.1) 23 (fun _ => w.2.2.2)) := by
  have hs := h.2.2.1
  have hrel := h
  obtain ⟨h1, h2, h3, h4, pl, ch, D, hPR, h6, h7, h8⟩ := h
  obtain ⟨b0, b1, w, q1, q2, q3⟩ := push_note hN RQ h7 h6
  obtain ⟨r, r1, r2⟩ := onway hN h6
  obtain ⟨f2, f4, f5, f6, rr, d1, d2, d3⟩ := h6.dry hN
  have r3 : x_X10_onTheWay N (va_up (va_up M 22 w.1) 23 (fun _ => w.2)) = some r := r2
  unfold kr x_X9_empty x_X10_empty
  rw [q1, q2]
  simp only [Option.bind_some]
  rw [r1, r3]
  simp only [Option.bind_some]
  rw [d1, d2]
  simp only [Option.bind_some]
  refine ⟨_, _, rfl, rfl, rfl, ?_⟩
  refine Rel_push (F := va_up (va_up (va_up (va_up (C 4) 2 f2) 4 f4) 5 f5) 6 f6) hn hrel hs (fun pl' hq hf hpa => ?_) rfl rfl rfl rfl rfl rfl rfl rfl rfl rfl rfl rfl rfl rfl rfl rfl rfl rfl rfl rfl rfl rfl rfl rfl rfl rfl rfl rfl rfl rfl
  obtain ⟨ch', D', hq⟩ := hq
  have e := PR_pl hPR hq
  subst e
  exact ⟨q3, d3.mono (by omega)⟩
theorem open_eq {N : Nat} (hN : 4096 ≤ N) {M : St} : ∃ r, x_X10_open N M = some r ∧ ∀ j, r j = if 162 ≤ j ∧ j < 172 then -1 else if j = 172 ∨ j = 173 then 0 else M 20 j := by
  have c173 : (173 : Int32).toNatClampNeg = 173 := cl (k := 173) (by omega)
  have c172 : (172 : Int32).toNatClampNeg = 172 := cl (k := 172) (by omega)
  unfold x_X10_open
  rw [c172, c173]
  obtain ⟨x, e1, e2⟩ := lpc_run (body := fun (z : Int32 × (Nat → Int32)) => x_X10_open_b20 N (va_up M 20 z.2) z.1) (I := fun k z => z.1 = nI k ∧ ∀ j, z.2 j = if 162 ≤ j ∧ j < 162 + k then -1 else if j = 172 ∨ j = 173 then 0 else M 20 j) (Pst := fun r => ∀ j, r j = if 162 ≤ j ∧ j < 172 then -1 else if j = 172 ∨ j = 173 then 0 else M 20 j) 10 (fun k z hk hI => by
    obtain ⟨z1, f⟩ := z
    obtain ⟨rfl, hf⟩ := hI
    dsimp only at hf
    show (∃ z', x_X10_open_b20 N (va_up M 20 f) (nI k) = some (.inl z') ∧ _) ∨ (∃ x, x_X10_open_b20 N (va_up M 20 f) (nI k) = some (.inr x) ∧ _)
    unfold x_X10_open_b20
    by_cases h : k = 10
    · subst h
      right
      exact ⟨f, by rw [if_pos (show (10 : Int32) ≤ nI 10 from nI_le (a := 10) (Nat.le_refl _) (by omega))]; rfl, hf⟩
    · left
      have e : (if (10 : Int32) ≤ nI k then (some (.inr (va_up M 20 f 20)) : Option ((Int32 × (Nat → Int32)) ⊕ ((Nat → Int32)))) else (if ((162 : Int32) + nI k) < 0 ∨ 174 ≤ ((162 : Int32) + nI k).toNatClampNeg then none else some (.inl ((nI k + (1 : Int32)), (upd (va_up M 20 f 20) ((162 : Int32) + nI k).toNatClampNeg (-1 : Int32)))))) = some (.inl (nI (k + 1), upd f (162 + k) (-1))) := by
        simp (disch := omega) only [li_0, li_1, li_2, li_3, li_4, li_5, li_6, li_7, li_8, li_9, li_10, li_11, li_15, li_16, li_20, li_30, li_32, li_48, li_57, li_58, li_59, li_60, li_61, li_63, li_64, li_80, li_85, li_88, li_99, li_100, li_112, li_115, li_152, li_162, li_172, li_173, li_174, li_240, li_255, li_348, li_1000, li_3306, nI_add, nI_ltI, nI_leI, nI_clamp, if_neg]
        rfl
      refine ⟨_, e, by omega, rfl, fun j => ?_⟩
      show upd f (162 + k) (-1) j = _
      by_cases hj : j = 162 + k
      · subst hj
        rw [pk_us, if_pos (by omega)]
      · rw [pk_un hj, hf]
        by_cases hj2 : 162 ≤ j ∧ j < 162 + k
        · rw [if_pos hj2, if_pos (show 162 ≤ j ∧ j < 162 + (k + 1) from ⟨hj2.1, by omega⟩)]
        · rw [if_neg hj2, if_neg (show ¬ (162 ≤ j ∧ j < 162 + (k + 1)) from fun h => hj2 ⟨h.1, by omega⟩)]) (N := N) (z := ((0 : Int32), upd (upd (M 20) 172 (0 : Int32)) 173 (0 : Int32))) (by omega) ⟨rfl, fun j => by
        show upd (upd (M 20) 172 0) 173 0 j = _
        rw [if_neg (by omega)]
        by_cases h3 : j = 173
        · subst h3; rw [pk_us, if_pos (Or.inr rfl)]
        · rw [pk_un h3]
          by_cases h2 : j = 172
          · subst h2; rw [pk_us, if_pos (Or.inl rfl)]
          · rw [pk_un h2, if_neg (by omega)]⟩
  rw [e1]
  exact ⟨x, rfl, e2⟩
theorem P_init {N : Nat} (hN : 4096 ≤ N) : ∃ vc vf vd vo : Nat → Int32, x_J7_fill_53178 N 10 (fun _ => 0) (-1 : Int32) = some vc ∧ x_J7_fill_53178 N 64 (fun _ => 0) (-1 : Int32) = some vf ∧ x_X10_dry N (fun _ => 0) = some vd ∧ x_X10_open N (va_up (va_up z0 7 (fun _ => -1)) 20 vd) = some vo ∧ Rel 0 (C0 vc vf) (fun _ => Fi vc vf) (va_up (va_up z0 7 (fun _ => -1)) 20 vo) := by
  obtain ⟨vc, c1, c2⟩ := fill_eq hN (n := 10) (by omega) (a := fun _ => 0) (x := -1)
  obtain ⟨vf, f1, f2⟩ := fill_eq hN (n := 64) (by omega) (a := fun _ => 0) (x := -1)
  obtain ⟨vd, d1, d2⟩ := dry_eq hN (a := fun _ => 0)
  obtain ⟨vo, o1, o2⟩ := open_eq hN (M := va_up (va_up z0 7 (fun _ => -1)) 20 vd)
  have o2 : ∀ j, vo j = if 162 ≤ j ∧ j < 172 then -1 else if j = 172 ∨ j = 173 then 0 else vd j := o2
  have z0' : (0 : Int32) = nI 0 := rfl
  refine ⟨vc, vf, vd, vo, c1, f1, d1, o1, by omega, rfl, ⟨0, by omega, rfl, rfl⟩, ⟨0, by omega, rfl, rfl, fun i hi => absurd hi (Nat.not_lt_zero i)⟩, 0, 0, fun _ _ => 0, ?_, ?_, ?_, ?_, ?_, ?_, ?_⟩
  · exact ⟨by omega, by omega, rfl, rfl, rfl, rfl, rfl, fun i hi => absurd hi (Nat.not_lt_zero i), fun i hi => absurd hi (Nat.not_lt_zero i), fun i hi => absurd hi (Nat.not_lt_zero i), fun i j _ hi => absurd hi (Nat.not_lt_zero j), fun i hi => absurd hi (Nat.not_lt_zero i)⟩
  · refine ⟨⟨0, by omega, rfl, ?_, fun p k hp hk => ⟨0, by omega, ?_, rfl, fun _ => rfl⟩⟩, ⟨0, by omega, rfl, ?_⟩, fun c hc => ?_, fun c hc => ⟨?_, Or.inl ?_⟩, fun p hp => ⟨0, by omega, rfl, ?_, fun t ht => ⟨?_, ?_⟩⟩⟩
    · show vo 173 = _
      rw [o2, if_neg (by omega), if_pos (Or.inr rfl)]; rfl
    · show vo (10 * p + k) = _
      rw [o2, if_neg (by omega), if_neg (by omega), d2, if_pos (by omega), dryV_b (by omega)]
    · show vo 172 = _
      rw [o2, if_neg (by omega), if_pos (Or.inl rfl)]; rfl
    · show (0 : Int32) = vo (152 + c)
      rw [o2, if_neg (by omega), if_neg (by omega), d2, if_pos (by omega), dryV_b (by omega)]; rfl
    · show vc c = vo (162 + c)
      rw [c2, if_pos hc, o2, if_pos (by omega)]
    · show vo (162 + c) = _
      rw [o2, if_pos (by omega)]
    · show vo (80 + p) = _
      rw [o2, if_neg (by omega), if_neg (by omega), d2, if_pos (by omega), dryV_b (by omega)]
    · show vf (8 * p + t) = vo (88 + 8 * p + t)
      rw [f2, if_pos (by omega), o2, if_neg (by omega), if_neg (by omega), d2, if_pos (by omega), dryV_a (by omega)]
    · show _ ↔ ¬ vo (88 + 8 * p + t) = -1
      rw [o2, if_neg (by omega), if_neg (by omega), d2, if_pos (by omega), dryV_a (by omega)]
      simp
  · exact ⟨0, 0, by omega, by omega, rfl, rfl, rfl, fun i hi => absurd hi (Nat.not_lt_zero i)⟩
  · exact Or.inl ⟨rfl, rfl⟩
  · exact Or.inl ⟨rfl, rfl⟩
  · exact ⟨0, by omega, rfl, rfl, fun i hi => absurd hi (Nat.not_lt_zero i)⟩
  · exact ⟨0, by omega, rfl, rfl, fun i hi => absurd hi (Nat.not_lt_zero i)⟩
