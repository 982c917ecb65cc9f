/-! copies, fills, the past -/
theorem copy_eq {N : Nat} (hN : 4096 ≤ N) {na nb fr to : Nat} {a b : Nat → Int32} (h1 : fr + 174 ≤ na) (h2 : to + 174 ≤ nb) (h3 : na < 2 ^ 20) (h4 : nb < 2 ^ 20) : ∃ r, x_X10_copy N na nb a b (nI fr) (nI to) = some r ∧ ∀ j, r j = if to ≤ j ∧ j < to + 174 then a (fr + (j - to)) else b j := by
  unfold x_X10_copy
  obtain ⟨x, e1, e2⟩ := lpc_run (body := fun (z : Int32 × (Nat → Int32)) => x_X10_copy_b3 N na nb a z.2 (nI fr) (nI to) z.1) (I := fun k z => z.1 = nI k ∧ ∀ j, z.2 j = if to ≤ j ∧ j < to + k then a (fr + (j - to)) else b j) (Pst := fun r => ∀ j, r j = if to ≤ j ∧ j < to + 174 then a (fr + (j - to)) else b j) 174 (fun k z hk hI => by
    obtain ⟨z1, f⟩ := z
    obtain ⟨rfl, hf⟩ := hI
    unfold x_X10_copy_b3
    by_cases h : k = 174
    · subst h
      right
      exact ⟨f, by rw [if_pos (show (174 : Int32) ≤ nI 174 from nI_le (a := 174) (Nat.le_refl _) (by omega))], hf⟩
    · left
      simp (disch := omega) only [li_0, li_1, li_2, li_3, li_4, li_5, li_6, li_7, li_8, li_9, li_10, li_11, li_15, li_16, li_20, li_30, li_32, li_48, li_57, li_58, li_59, li_60, li_61, li_63, li_64, li_80, li_85, li_88, li_99, li_100, li_112, li_115, li_152, li_162, li_172, li_173, li_174, li_240, li_255, li_348, li_1000, li_3306, nI_add, nI_ltI, nI_leI, nI_clamp, if_neg, xl]
      refine ⟨_, rfl, by omega, rfl, fun j => ?_⟩
      show upd f (to + k) (a (fr + k)) j = _
      by_cases hj : j = to + k
      · subst hj
        rw [pk_us, if_pos (by omega)]
        congr 1
        omega
      · rw [pk_un hj]
        have hf := hf j
        dsimp only at hf
        rw [hf]
        by_cases hj2 : to ≤ j ∧ j < to + k
        · rw [if_pos hj2, if_pos (by omega)]
        · rw [if_neg hj2, if_neg (by omega)]) (N := N) (z := ((0 : Int32), b)) (by omega) ⟨rfl, fun j => by rw [if_neg (by omega)]⟩
  rw [e1]
  exact ⟨x, rfl, e2⟩
theorem fill_eq {N : Nat} (hN : 4096 ≤ N) {n : Nat} (hn : n < 4096) {a : Nat → Int32} {x : Int32} : ∃ r, x_J7_fill_53178 N n a x = some r ∧ ∀ j, r j = if j < n then x else a j := by
  unfold x_J7_fill_53178
  obtain ⟨r, e1, e2⟩ := lpc_run (body := fun (z : Int32 × (Nat → Int32)) => x_J7_fill_53178_b5 N n z.2 x z.1 (nI n)) (I := fun k z => z.1 = nI k ∧ ∀ j, z.2 j = if j < k then x else a j) (Pst := fun r => ∀ j, r j = if j < n then x else a j) n (fun k z hk hI => by
    obtain ⟨z1, f⟩ := z
    obtain ⟨rfl, hf⟩ := hI
    unfold x_J7_fill_53178_b5
    by_cases h : k = n
    · subst h
      right
      exact ⟨f, by rw [if_pos (nI_le (Nat.le_refl _) (by omega))], hf⟩
    · left
      simp (disch := omega) only [li_0, li_1, li_2, li_3, li_4, li_5, li_6, li_7, li_8, li_9, li_10, li_11, li_15, li_16, li_20, li_30, li_32, li_48, li_57, li_58, li_59, li_60, li_61, li_63, li_64, li_80, li_85, li_88, li_99, li_100, li_112, li_115, li_152, li_162, li_172, li_173, li_174, li_240, li_255, li_348, li_1000, li_3306, nI_add, nI_ltI, nI_leI, nI_clamp, if_neg]
      refine ⟨_, rfl, by omega, rfl, fun j => ?_⟩
      show upd f k x j = _
      by_cases hj : j = k
      · subst hj
        rw [pk_us, if_pos (by omega)]
      · rw [pk_un hj]
        have hf := hf j
        dsimp only at hf
        rw [hf]
        by_cases hj2 : j < k
        · rw [if_pos hj2, if_pos (by omega)]
        · rw [if_neg hj2, if_neg (by omega)]) (N := N) (z := ((0 : Int32), a)) (by omega) ⟨rfl, fun j => by rw [if_neg (by omega)]⟩
  show ∃ r, Option.bind (lpc (fun (z : Int32 × (Nat → Int32)) => x_J7_fill_53178_b5 N n z.2 x z.1 (nI n)) N ((0 : Int32), a)) (fun v_4 => some v_4) = some r ∧ _
  rw [e1]
  exact ⟨r, rfl, e2⟩
theorem FR.congr {pl hb : Nat} {F F' : St} {A A' : Nat → Int32} (h : FR pl hb F A) (h0 : F' 0 0 = F 0 0) (h1 : F' 1 0 = F 1 0) (h2 : ∀ c, c < 10 → F' 2 c = F 2 c) (h3 : ∀ c, c < 10 → F' 3 c = F 3 c) (h4 : ∀ c, c < 8 → F' 4 c = F 4 c) (h5 : ∀ c, c < 64 → F' 5 c = F 5 c) (h6 : ∀ c, c < 80 → F' 6 c = F 6 c) (hA : ∀ j, j < 174 → A' j = A j) : FR pl hb F' A' := by
  obtain ⟨⟨x, a1, a2, a3, a4⟩, ⟨z, b1, b2, b3⟩, c1, d1, e1⟩ := h
  refine ⟨⟨x, a1, h0.trans a2, (hA 173 (by omega)).trans a3, fun p k hp hk => ?_⟩, ⟨z, b1, h1.trans b2, (hA 172 (by omega)).trans b3⟩, fun c hc => ?_, fun c hc => ?_, fun p hp => ?_⟩
  · obtain ⟨y, y1, y2, y3, y4⟩ := a4 p k hp hk
    exact ⟨y, y1, (hA _ (by omega)).trans y2, (h6 _ (by omega)).trans y3, y4⟩
  · rw [h2 c hc, hA _ (by omega)]
    exact c1 c hc
  · rw [h3 c hc, hA _ (by omega)]
    exact d1 c hc
  · obtain ⟨y, y1, y2, y3, y4⟩ := e1 p hp
    refine ⟨y, y1, (h4 p hp).trans y2, (hA _ (by omega)).trans y3, fun t ht => ?_⟩
    rw [h5 _ (by omega), hA _ (by omega)]
    exact y4 t ht
theorem FR.row {pl hb : Nat} {F : St} {A A' : Nat → Int32} (h : FR pl hb F A) (hA : ∀ j, j < 174 → A' j = A j) : FR pl hb F A' := h.congr rfl rfl (fun _ _ => rfl) (fun _ _ => rfl) (fun _ _ => rfl) (fun _ _ => rfl) (fun _ _ => rfl) hA
/-- a copied flow -/
abbrev cpF (G F : St) : St := va_up (va_up (va_up (va_up (va_up (va_up (va_up G 0 (fun _ => F 0 0)) 1 (fun _ => F 1 0)) 2 (va_cpy (F 2) (G 2) 0 0 10)) 3 (va_cpy (F 3) (G 3) 0 0 10)) 4 (va_cpy (F 4) (G 4) 0 0 8)) 5 (va_cpy (F 5) (G 5) 0 0 64)) 6 (va_cpy (F 6) (G 6) 0 0 80)
theorem cpy0 {f k : Nat → Int32} {n j : Nat} (h : j < n) : va_cpy f k 0 0 n j = f j := sb_cpy0 h
theorem FR.cp {pl hb : Nat} {F G : St} {A : Nat → Int32} (h : FR pl hb F A) : FR pl hb (cpF G F) A := h.congr rfl rfl (fun _ hc => cpy0 hc) (fun _ hc => cpy0 hc) (fun _ hc => cpy0 hc) (fun _ hc => cpy0 hc) (fun _ hc => cpy0 hc) (fun _ _ => rfl)
theorem rem20 {k : Nat} (h : k < 1000) : nI k - nI k / (20 : Int32) * (20 : Int32) = nI (k % 20) := pk_rem (a := k) (d := 20) (by omega) (by omega) (by omega)
theorem rem10 {k : Nat} (h : k < 2 ^ 20) : nI k - nI k / (10 : Int32) * (10 : Int32) = nI (k % 10) := pk_rem (a := k) (d := 10) (by omega) (by omega) (by omega)
theorem note_shift {N : Nat} (hN : 4096 ≤ N) {M : St} : ∃ r, lpc (fun (z : Int32 × (Nat → Int32)) => x_X10_note_b11 N (va_up M 22 z.2) z.1) N ((0 : Int32), M 22) = some r ∧ ∀ j, r j = if j < 3306 then M 22 (j + 174) else M 22 j := by
  refine lpc_run (body := fun (z : Int32 × (Nat → Int32)) => x_X10_note_b11 N (va_up M 22 z.2) z.1) (I := fun k z => z.1 = nI k ∧ ∀ j, z.2 j = if j < k then M 22 (j + 174) else M 22 j) (Pst := fun r => ∀ j, r j = if j < 3306 then M 22 (j + 174) else M 22 j) 3306 (fun k z hk hI => ?_) (by omega) ⟨rfl, fun j => by rw [if_neg (by omega)]⟩
  obtain ⟨z1, f⟩ := z
  obtain ⟨rfl, hf⟩ := hI
  show (∃ z', x_X10_note_b11 N (va_up M 22 f) (nI k) = some (.inl z') ∧ _) ∨ _
  unfold x_X10_note_b11
  by_cases h : k = 3306
  · subst h
    right
    refine ⟨f, ?_, hf⟩
    show x_X10_note_b11 N (va_up M 22 f) (nI 3306) = _
    unfold x_X10_note_b11
    rw [if_pos (show (3306 : Int32) ≤ nI 3306 from nI_le (a := 3306) (Nat.le_refl _) (by omega))]
    rfl
  · left
    simp (disch := omega) only [li_0, li_1, li_2, li_3, li_4, li_5, li_6, li_7, li_8, li_9, li_10, li_11, li_15, li_16, li_20, li_30, li_32, li_48, li_57, li_58, li_59, li_60, li_61, li_63, li_64, li_80, li_85, li_88, li_99, li_100, li_112, li_115, li_152, li_162, li_172, li_173, li_174, li_240, li_255, li_348, li_1000, li_3306, nI_add, nI_ltI, nI_leI, nI_clamp, if_neg, xl]
    refine ⟨_, rfl, by omega, rfl, fun j => ?_⟩
    show upd f k (f (k + 174)) j = _
    have hf := fun j => hf j
    dsimp only at hf
    by_cases hj : j = k
    · subst hj
      rw [pk_us, if_pos (by omega), hf, if_neg (by omega)]
    · rw [pk_un hj, hf]
      by_cases hj2 : j < k
      · rw [if_pos hj2, if_pos (by omega)]
      · rw [if_neg hj2, if_neg (by omega)]
/-- what a push takes and gives; what the reference's note gives -/
theorem push_note {N : Nat} (hN : 4096 ≤ N) {pl hb : Nat} {B F : St} {RF : Nat → St} {M : St} (RQ : Nat → Ad) (hp : RPa pl hb (B 0 0) (B 1 0) (M 23 0) RF (M 22)) (hF : FR pl hb F (M 20)) :
    ∃ (b0 b1 : Int32) (w : (Nat → Int32) × Int32), x_X3_push (RQ (B 1 0).toNatClampNeg 7) B (fun i => some (RQ i 7)) (RF (B 1 0).toNatClampNeg) F = some (b0, b1, F 0 0, F 1 0, va_cpy (F 2) (RF (B 1 0).toNatClampNeg 2) 0 0 10, va_cpy (F 3) (RF (B 1 0).toNatClampNeg 3) 0 0 10, va_cpy (F 4) (RF (B 1 0).toNatClampNeg 4) 0 0 8, va_cpy (F 5) (RF (B 1 0).toNatClampNeg 5) 0 0 64, va_cpy (F 6) (RF (B 1 0).toNatClampNeg 6) 0 0 80) ∧ x_X10_note N M = some w ∧ RPa pl hb b0 b1 w.2 (va_up RF (B 1 0).toNatClampNeg (cpF (RF (B 1 0).toNatClampNeg) F)) w.1 := by
  obtain ⟨cnt, nx, a1, a2, a3, a4, a5, a6⟩ := hp
  unfold x_X3_push x_X10_note x_X0_copyFrom
  rw [a3, a4, a5, cl (show nx < 2 ^ 31 by omega)]
  by_cases hc : cnt = 20
  · subst hc
    obtain ⟨r, r1, r2⟩ := note_shift (N := N) hN (M := M)
    obtain ⟨q, q1, q2⟩ := copy_eq (N := N) hN (na := 174) (nb := 3480) (fr := 0) (to := 3306) (a := M 20) (b := r) (by omega) (by omega) (by omega) (by omega)
    have q1 : x_X10_copy N 174 3480 (M 20) r (nI 0) (nI 3306) = some q := q1
    refine ⟨nI 20, nI ((nx + 1) % 20), (q, nI 20), ?_, ?_, ?_⟩
    · simp (disch := omega) only [li_0, li_1, li_2, li_3, li_4, li_5, li_6, li_7, li_8, li_9, li_10, li_11, li_15, li_16, li_20, li_30, li_32, li_48, li_57, li_58, li_59, li_60, li_61, li_63, li_64, li_80, li_85, li_88, li_99, li_100, li_112, li_115, li_152, li_162, li_172, li_173, li_174, li_240, li_255, li_348, li_1000, li_3306, nI_add, nI_ltI, nI_clamp, if_neg, if_pos, xl, Option.bind_some]
      rw [if_pos trivial, show (nI (nx + 1) - nI (nx + 1) / nI 20 * nI 20) = nI ((nx + 1) % 20) from rem20 (by omega)]
    · rw [if_pos (show nI 20 = 20 from rfl), r1]
      simp only [Option.bind_some, xl]
      unfold x_X10_note_k50
      show Option.bind (x_X10_copy N 174 3480 (M 20) r (0 : Int32) ((174 : Int32) * (nI 20 - (1 : Int32)))) _ = _
      rw [show (174 : Int32) * (nI 20 - (1 : Int32)) = nI 3306 by decide, show (0 : Int32) = nI 0 from rfl, q1]
      rfl
    · refine ⟨20, (nx + 1) % 20, by omega, by omega, rfl, rfl, rfl, fun i hi => ?_⟩
      by_cases hi2 : i = 19
      · subst hi2
        rw [show ((nx + 1) % 20 + 20 - 20 + 19) % 20 = nx by omega, va_up_self]
        refine (hF.cp).row (fun j hj => ?_)
        show q (174 * 19 + j) = _
        rw [q2, if_pos (by omega), show 0 + (174 * 19 + j - 3306) = j by omega]
      · rw [va_up_ne _ _ (by omega)]
        have := a6 (i + 1) (by omega)
        rw [show (nx + 20 - 20 + (i + 1)) % 20 = ((nx + 1) % 20 + 20 - 20 + i) % 20 by omega] at this
        refine this.row (fun j hj => ?_)
        show q (174 * i + j) = M 22 (174 * (i + 1) + j)
        rw [q2, if_neg (by omega), r2, if_pos (by omega), show 174 * i + j + 174 = 174 * (i + 1) + j by omega]
  · obtain ⟨q, q1, q2⟩ := copy_eq (N := N) hN (na := 174) (nb := 3480) (fr := 0) (to := 174 * cnt) (a := M 20) (b := M 22) (by omega) (by omega) (by omega) (by omega)
    refine ⟨nI (cnt + 1), nI ((nx + 1) % 20), (q, nI (cnt + 1)), ?_, ?_, ?_⟩
    · simp (disch := omega) only [li_0, li_1, li_2, li_3, li_4, li_5, li_6, li_7, li_8, li_9, li_10, li_11, li_15, li_16, li_20, li_30, li_32, li_48, li_57, li_58, li_59, li_60, li_61, li_63, li_64, li_80, li_85, li_88, li_99, li_100, li_112, li_115, li_152, li_162, li_172, li_173, li_174, li_240, li_255, li_348, li_1000, li_3306, nI_add, nI_ltI, nI_clamp, if_neg, if_pos, xl, Option.bind_some]
      rw [if_pos trivial, show (nI (nx + 1) - nI (nx + 1) / nI 20 * nI 20) = nI ((nx + 1) % 20) from rem20 (by omega)]
    · rw [if_neg (show ¬ nI cnt = 20 from fun h => hc (nI_inj (b := 20) (by omega) (by omega) h))]
      unfold x_X10_note_k50
      rw [a5, show (174 : Int32) * nI cnt = nI (174 * cnt) from pk_mul 174 cnt, show (0 : Int32) = nI 0 from rfl, q1]
      simp only [Option.bind_some, xl, li_1, nI_add]
    · refine ⟨cnt + 1, (nx + 1) % 20, by omega, by omega, rfl, rfl, rfl, fun i hi => ?_⟩
      by_cases hi2 : i = cnt
      · subst hi2
        rw [show ((nx + 1) % 20 + 20 - (i + 1) + i) % 20 = nx by omega, va_up_self]
        refine (hF.cp).row (fun j hj => ?_)
        show q (174 * i + j) = _
        rw [q2, if_pos (by omega), show 0 + (174 * i + j - 174 * i) = j by omega]
      · rw [va_up_ne _ _ (by omega)]
        have := a6 i (by omega)
        rw [show (nx + 20 - cnt + i) % 20 = ((nx + 1) % 20 + 20 - (cnt + 1) + i) % 20 by omega] at this
        refine this.row (fun j hj => ?_)
        show q (174 * i + j) = M 22 (174 * i + j)
        rw [q2, if_neg (by omega)]

/-- Rel behind a call that pushed, and then left a flow and a row that fit -/
theorem Rel_push {n : Nat} (hn : n < 64) {C RF : Nat → St} {M : St} (h : Rel n C RF M) {b0 b1 : Int32} {RF' : Nat → St} {m20 m22 : Nat → Int32} {m23 : Int32} {F : St} {sd sd' : Int32} (hs : RSd sd sd')
    (hp : ∀ pl, (∃ ch D, PR pl ch D (C 2) (M 15 0) (M 16 0) (M 17 0) (M 18) (M 19)) → FR pl (60 * n) (C 4) (M 20) → RPa pl (60 * n) (C 6 0 0) (C 6 1 0) (M 23 0) RF (M 22) → RPa pl (60 * n) b0 b1 m23 RF' m22 ∧ FR pl (60 * (n + 1)) F m20)
    {C' : Nat → St} {M' : St} (c0 : C' 0 10 0 = sd) (c1 : C' 1 = C 1) (c2 : C' 2 = C 2) (c4 : C' 4 = F) (c60 : C' 6 0 0 = b0) (c61 : C' 6 1 0 = b1) (c7 : C' 7 = C 7) (c12 : C' 12 = C 12) (c13 : C' 13 = C 13) (c14 : C' 14 = C 14) (c15 : C' 15 = C 15)
    (e0 : M' 0 = M 0) (e1 : M' 1 = M 1) (e7 : M' 7 = M 7) (e15 : M' 15 = M 15) (e16 : M' 16 = M 16) (e17 : M' 17 = M 17) (e18 : M' 18 = M 18) (e19 : M' 19 = M 19) (e20 : M' 20 = m20) (e22 : M' 22 = m22) (e23 : M' 23 0 = m23) (e24 : M' 24 = M 24) (e25 : M' 25 = M 25) (e26 : M' 26 = M 26) (e27 : M' 27 0 = sd') (e28 : M' 28 = M 28) (e29 : M' 29 = M 29) (e30 : M' 30 = M 30) (e31 : M' 31 = M 31) : Rel (n + 1) C' RF' M' := by
  obtain ⟨h1, h2, h3, h4, pl, ch, D, h5, h6, h7, h8, h9, h10, h11⟩ := h
  obtain ⟨k1, k2⟩ := hp pl ⟨ch, D, h5⟩ h6 h7
  refine ⟨by omega, by rw [c1, e7]; exact h2, by rw [c0, e27]; exact hs, by rw [c1, e0, e1]; exact h4.mono (by omega), pl, ch, D, by rw [c2, e15, e16, e17, e18, e19]; exact h5, by rw [c4, e20]; exact k2, by rw [c60, c61, e23, e22]; exact k1.mono (by omega), by rw [c12, c14, e24, e25, e26]; exact h8.mono (by omega), by rw [c13, c15, e24, e25, e26]; exact h9.mono (by omega), by rw [c7, e28, e29]; exact h10, by rw [c7, e30, e31]; exact h11⟩
