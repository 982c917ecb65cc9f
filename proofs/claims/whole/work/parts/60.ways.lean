/-! ways: both -/
theorem ways0_step {N pl k : Nat} {M : St} (r1 : pl ≤ 8) (r5 : M 16 0 = nI pl) (hk : k < pl) : x_X10_layWays_b6 N M (nI k) = some (.inl (nI (k + 1), upd (M 32) k (eL (b0 k)), upd (M 33) k (nI (b0 k)))) := by
  have e8 : nI k + (1 : Int32) = nI (k + 1) := by simp (disch := omega) only [li_0, li_1, li_2, li_3, li_4, li_5, li_6, li_7, li_8, li_9, li_10, li_11, li_15, li_16, li_20, li_30, li_32, li_48, li_57, li_58, li_59, li_60, li_61, li_63, li_64, li_80, li_85, li_88, li_99, li_100, li_112, li_115, li_152, li_162, li_172, li_173, li_174, li_240, li_255, li_348, li_1000, li_3306, nI_add]
  have i8 : ¬ (nI k < 0 ∨ 8 ≤ k) := by have := nI_in (c := k) (N := 8) (by omega) (by omega); rwa [cl (by omega)] at this
  unfold x_X10_layWays_b6 x_X10_layWays_b6_k28 x_X10_layWays_b6_k43
  rw [r5, if_neg (nleI hk (by omega)), cl (by omega), if_neg i8, if_neg i8, if_neg i8, e8]
  by_cases h : k = 0
  · subst h
    rw [if_pos (show nI 0 = 0 from rfl), if_pos (show nI 0 = 0 from rfl)]
    rfl
  · have h' : ¬ nI k = 0 := fun h2 => h (nI_inj (b := 0) (by omega) (by omega) h2)
    rw [if_neg h', if_neg h', show b0 k = 0 from if_neg h]
    try rw [if_neg i8]
    try rw [if_neg i8]
    rfl
theorem ways_step {N : Nat} {pl ch z i c q : Nat} {D : Nat → Nat → Nat} {P M : St} {x1 : Int32} (hPR : PR pl ch D P (M 15 0) (M 16 0) (M 17 0) (M 18) (M 19)) (hz : z < 1024) (h172 : M 20 172 = nI z) (hc : c < ch) (hq : q < pl) {o : Nat → Nat} (ho : OK' D pl o) (hi : i < pl) (hoq : o i = q) {l w : Nat → Nat} {dn : Nat → Bool} (g : CA pl (M 32) (M 33) l w) (hW : WI D (fun c => !z.testBit c) dn ch l w) (hdn : ∀ x, dn x = true ↔ x < ch ∧ ((∃ j, j < i ∧ D 2 x = o j) ∨ (x < c ∧ D 2 x = o i))) : ∃ f0 f1 l' w' dn', x_X10_layWays_b69 N M x1 (nI q) (nI c) = some (.inl (nI (c + 1), f0, f1)) ∧ CA pl f0 f1 l' w' ∧ WI D (fun c => !z.testBit c) dn' ch l' w' ∧ ∀ x, dn' x = true ↔ x < ch ∧ ((∃ j, j < i ∧ D 2 x = o j) ∨ (x < c + 1 ∧ D 2 x = o i)) := by
  obtain ⟨r1, r2, r3, r4, r5, r6, r7, r8, r9, _⟩ := hPR
  obtain ⟨a1, a2, a3, a4, a5, a6, a7, a8, a9, a10, a11⟩ := r9 c hc
  have c172 : (172 : Int32).toNatClampNeg = 172 := cl (k := 172) (by omega)
  have e8 : nI c + (1 : Int32) = nI (c + 1) := by simp (disch := omega) only [li_0, li_1, li_2, li_3, li_4, li_5, li_6, li_7, li_8, li_9, li_10, li_11, li_15, li_16, li_20, li_30, li_32, li_48, li_57, li_58, li_59, li_60, li_61, li_63, li_64, li_80, li_85, li_88, li_99, li_100, li_112, li_115, li_152, li_162, li_172, li_173, li_174, li_240, li_255, li_348, li_1000, li_3306, nI_add]
  have e3 : (3 : Int32) * nI c = nI (3 * c) := by simp (disch := omega) only [li_0, li_1, li_2, li_3, li_4, li_5, li_6, li_7, li_8, li_9, li_10, li_11, li_15, li_16, li_20, li_30, li_32, li_48, li_57, li_58, li_59, li_60, li_61, li_63, li_64, li_80, li_85, li_88, li_99, li_100, li_112, li_115, li_152, li_162, li_172, li_173, li_174, li_240, li_255, li_348, li_1000, li_3306, pk_mul]
  have e31 : nI (3 * c) + (1 : Int32) = nI (3 * c + 1) := by simp (disch := omega) only [li_0, li_1, li_2, li_3, li_4, li_5, li_6, li_7, li_8, li_9, li_10, li_11, li_15, li_16, li_20, li_30, li_32, li_48, li_57, li_58, li_59, li_60, li_61, li_63, li_64, li_80, li_85, li_88, li_99, li_100, li_112, li_115, li_152, li_162, li_172, li_173, li_174, li_240, li_255, li_348, li_1000, li_3306, nI_add]
  have e32 : nI (3 * c) + (2 : Int32) = nI (3 * c + 2) := by simp (disch := omega) only [li_0, li_1, li_2, li_3, li_4, li_5, li_6, li_7, li_8, li_9, li_10, li_11, li_15, li_16, li_20, li_30, li_32, li_48, li_57, li_58, li_59, li_60, li_61, li_63, li_64, li_80, li_85, li_88, li_99, li_100, li_112, li_115, li_152, li_162, li_172, li_173, li_174, li_240, li_255, li_348, li_1000, li_3306, nI_add]
  have i3 : ∀ j, j < 30 → ¬ (nI j < 0 ∨ 30 ≤ j) := fun j hj => by have := nI_in (c := j) (N := 30) hj (by omega); rwa [cl (by omega)] at this
  have i8 : ∀ j, j < 8 → ¬ (nI j < 0 ∨ 8 ≤ j) := fun j hj => by have := nI_in (c := j) (N := 8) hj (by omega); rwa [cl (by omega)] at this
  unfold x_X10_layWays_b69 x_X10_layWays_b69_k175
  rw [r7, if_neg (nleI hc (by omega)), e3, e31, e32, c172, h172, has_10, has_eq (by omega) (by omega), cl (show 3 * c < 2 ^ 31 by omega), cl (show 3 * c + 1 < 2 ^ 31 by omega), cl (show 3 * c + 2 < 2 ^ 31 by omega), cl (show q < 2 ^ 31 by omega), if_neg (i3 (3 * c) (by omega)), a7, e8]
  by_cases hf : D 2 c = q
  · have hdc : dn c = false := by
      cases hh : dn c
      · rfl
      · obtain ⟨_, h | h⟩ := (hdn c).mp hh
        · obtain ⟨j, j1, j2⟩ := h
          exact absurd (j2.symm.trans (hf.trans hoq.symm)) (ho.2.1 j i j1 hi).2
        · exact absurd h.1 (Nat.lt_irrefl c)
    have hord : ∀ x, dn x = true → D 1 (D 2 c) ≤ D 1 (D 2 x) := fun x hx => by
      obtain ⟨_, h | h⟩ := (hdn x).mp hx
      · obtain ⟨j, j1, j2⟩ := h
        rw [j2, hf, ← hoq]
        exact (ho.2.1 j i j1 hi).1
      · rw [h.2, hf, hoq]
        exact Nat.le_refl _
    have hdn' : ∀ x, mk1 dn c x = true ↔ x < ch ∧ ((∃ j, j < i ∧ D 2 x = o j) ∨ (x < c + 1 ∧ D 2 x = o i)) := fun x => by
      by_cases hx : x = c
      · subst hx
        exact ⟨fun _ => ⟨hc, Or.inr ⟨by omega, hf.trans hoq.symm⟩⟩, fun _ => mk1_c dn x⟩
      · rw [mk1_n hx, hdn]
        constructor
        · rintro ⟨h1, h | h⟩
          · exact ⟨h1, Or.inl h⟩
          · exact ⟨h1, Or.inr ⟨by omega, h.2⟩⟩
        · rintro ⟨h1, h | h⟩
          · exact ⟨h1, Or.inl h⟩
          · exact ⟨h1, Or.inr ⟨by omega, h.2⟩⟩
    have hcn : cnt dn ch ≤ 10 := Nat.le_trans (cnt_le dn ch) r2
    have hpw : 2 ^ cnt dn ch ≤ 2 ^ 10 := Nat.pow_le_pow_right (by omega) hcn
    have b1 := hW.2.2.2 (D 2 c)
    have b2 := hW.2.2.2 (D 3 c)
    obtain ⟨g1, g2⟩ := g (D 2 c) a1
    obtain ⟨g3, g4⟩ := g (D 3 c) a2
    rw [if_pos (show nI (D 2 c) = nI q by rw [hf]), ← hf]
    simp only [xl, a9, a11, cl (show D 3 c < 2 ^ 31 by omega), if_neg (i8 (D 2 c) (by omega)), if_neg (i8 (D 3 c) (by omega)), if_neg (i3 (3 * c + 1) (by omega)), if_neg (i3 (3 * c + 2) (by omega)), Option.bind_some]
    rw [g1, g2, g3, g4]
    by_cases hbit : z.testBit c = true
    · rw [if_pos hbit, if_neg z10]
      exact ⟨_, _, l, w, mk1 dn c, rfl, g, hW.skip hc hdc (Or.inl (by rw [hbit]; rfl)), hdn'⟩
    · rw [if_neg hbit, if_pos rfl]
      by_cases hl0 : l (D 2 c) = 0
      · rw [if_pos ((eL_m1 (by omega)).mpr hl0)]
        exact ⟨_, _, l, w, mk1 dn c, rfl, g, hW.skip hc hdc (Or.inr hl0), hdn'⟩
      · rw [if_neg (fun h => hl0 ((eL_m1 (by omega)).mp h)), nI_add]
        have em := eL_max' (a := l (D 3 c)) (b := l (D 2 c)) (h := D 4 c) (by omega) (by omega) (by omega) (by omega)
        have st := hW.step hc hdc (by cases hh : z.testBit c <;> simp_all) (Nat.pos_of_ne_zero hl0) a4 a5 hord
        by_cases hle : eL (l (D 2 c)) + nI (D 4 c) ≤ eL (l (D 3 c))
        · rw [if_pos hle] at em ⊢
          refine ⟨_, _, _, _, mk1 dn c, rfl, ?_, st, hdn'⟩
          rw [em]
          exact g.up _ _ _
        · rw [if_neg hle] at em ⊢
          refine ⟨_, _, _, _, mk1 dn c, rfl, ?_, st, hdn'⟩
          rw [em]
          exact g.up _ _ _
  · rw [if_neg (show ¬ nI (D 2 c) = nI q from fun h => hf (nI_inj (by omega) (by omega) h))]
    refine ⟨_, _, l, w, dn, rfl, g, hW, fun x => ?_⟩
    rw [hdn]
    constructor
    · rintro ⟨h1, h | h⟩
      · exact ⟨h1, Or.inl h⟩
      · exact ⟨h1, Or.inr ⟨by omega, h.2⟩⟩
    · rintro ⟨h1, h | h⟩
      · exact ⟨h1, Or.inl h⟩
      · refine ⟨h1, Or.inr ⟨?_, h.2⟩⟩
        have : ¬ x = c := fun h5 => by subst h5; exact hf (h.2.trans hoq)
        omega
theorem lay_eq {N : Nat} (hN : 4096 ≤ N) {pl ch z : Nat} {D : Nat → Nat → Nat} {P M : St} (hPR : PR pl ch D P (M 15 0) (M 16 0) (M 17 0) (M 18) (M 19)) (hz : z < 1024) (h172 : M 20 172 = nI z) : ∃ f0 f1 r l w dn, x_X10_layWays N M = some (f0, f1, r) ∧ CA pl f0 f1 l w ∧ WI D (fun c => !z.testBit c) dn ch l w ∧ ∀ c, c < ch → dn c = true := by
  have r1 := hPR.1
  have r2 := hPR.2.1
  have r5 := hPR.2.2.2.2.1
  have r7 := hPR.2.2.2.2.2.2.1
  have r9 := hPR.2.2.2.2.2.2.2.2.1
  obtain ⟨r, o, y1, y2, y3⟩ := order_eq hN r1 r5 (fun i hi => by obtain ⟨b1, b2, b3, b4, b5, b6⟩ := hPR.2.2.2.2.2.2.2.1 i hi; exact ⟨b2, b6⟩)
  obtain ⟨x, u1, u2⟩ := lpc_run (body := fun (q : Int32 × (Nat → Int32) × (Nat → Int32)) => x_X10_layWays_b6 N (va_up (va_up (va_up M 32 q.2.1) 33 q.2.2) 37 r) q.1)
    (I := fun k q => q.1 = nI k ∧ CA k q.2.1 q.2.2 b0 b0) (Pst := fun q => CA pl q.1 q.2 b0 b0) pl (fun k q hk hI => by
      obtain ⟨q1, f0, f1⟩ := q
      obtain ⟨rfl, h1⟩ := hI
      dsimp only at h1
      by_cases hk8 : k = pl
      · subst hk8
        right
        refine ⟨(f0, f1), ?_, h1⟩
        show x_X10_layWays_b6 _ _ _ = _
        unfold x_X10_layWays_b6
        rw [show (va_up (va_up (va_up M 32 f0) 33 f1) 37 r) 16 0 = nI k from r5, if_pos (nI_le (Nat.le_refl _) (by omega))]
        rfl
      · left
        refine ⟨_, ways0_step (N := N) (M := va_up (va_up (va_up M 32 f0) 33 f1) 37 r) r1 r5 (show k < pl by omega), by omega, rfl, fun p hp => ?_⟩
        show upd f0 k (eL (b0 k)) p = _ ∧ upd f1 k (nI (b0 k)) p = _
        by_cases h : p = k
        · subst h; rw [pk_us, pk_us]; exact ⟨rfl, rfl⟩
        · rw [pk_un h, pk_un h]; exact h1 p (by omega)) (N := N) (z := ((0 : Int32), M 32, M 33)) (by omega) ⟨rfl, fun p hp => absurd hp (Nat.not_lt_zero p)⟩
  obtain ⟨x0, x1⟩ := x
  obtain ⟨x', v1, l, w, dn, v2, v3, v4⟩ := lpc_run (body := fun (q : Int32 × (Nat → Int32) × (Nat → Int32)) => x_X10_layWays_b52 N (va_up (va_up (va_up M 32 q.2.1) 33 q.2.2) 37 r) q.1)
    (I := fun k q => q.1 = nI k ∧ ∃ l w dn, CA pl q.2.1 q.2.2 l w ∧ WI D (fun c => !z.testBit c) dn ch l w ∧ ∀ x, dn x = true ↔ x < ch ∧ ∃ j, j < k ∧ D 2 x = o j)
    (Pst := fun q => ∃ l w dn, CA pl q.1 q.2 l w ∧ WI D (fun c => !z.testBit c) dn ch l w ∧ ∀ x, dn x = true ↔ x < ch ∧ ∃ j, j < pl ∧ D 2 x = o j) pl (fun k q hk hI => by
      obtain ⟨q1, f0, f1⟩ := q
      obtain ⟨rfl, l, w, dn, h1, h2, h3⟩ := hI
      dsimp only at h1
      by_cases hk8 : k = pl
      · subst hk8
        right
        refine ⟨(f0, f1), ?_, l, w, dn, h1, h2, h3⟩
        show x_X10_layWays_b52 _ _ _ = _
        unfold x_X10_layWays_b52
        rw [show (va_up (va_up (va_up M 32 f0) 33 f1) 37 r) 16 0 = nI k from r5, if_pos (nI_le (Nat.le_refl _) (by omega))]
        rfl
      · left
        have hkp : k < pl := by omega
        have e8 : nI k + (1 : Int32) = nI (k + 1) := by simp (disch := omega) only [li_0, li_1, li_2, li_3, li_4, li_5, li_6, li_7, li_8, li_9, li_10, li_11, li_15, li_16, li_20, li_30, li_32, li_48, li_57, li_58, li_59, li_60, li_61, li_63, li_64, li_80, li_85, li_88, li_99, li_100, li_112, li_115, li_152, li_162, li_172, li_173, li_174, li_240, li_255, li_348, li_1000, li_3306, nI_add]
        obtain ⟨x, u1, l', w', dn', k1, k2, k3⟩ := lpc_run (body := fun (q : Int32 × (Nat → Int32) × (Nat → Int32)) => x_X10_layWays_b69 N (va_up (va_up (va_up (va_up (va_up M 32 f0) 33 f1) 37 r) 32 q.2.1) 33 q.2.2) (nI k) (nI (o k)) q.1)
          (I := fun c q => q.1 = nI c ∧ ∃ l w dn, CA pl q.2.1 q.2.2 l w ∧ WI D (fun c => !z.testBit c) dn ch l w ∧ ∀ x, dn x = true ↔ x < ch ∧ ((∃ j, j < k ∧ D 2 x = o j) ∨ (x < c ∧ D 2 x = o k)))
          (Pst := fun q => ∃ l w dn, CA pl q.1 q.2 l w ∧ WI D (fun c => !z.testBit c) dn ch l w ∧ ∀ x, dn x = true ↔ x < ch ∧ ((∃ j, j < k ∧ D 2 x = o j) ∨ (x < ch ∧ D 2 x = o k))) ch (fun c q hc hI => by
            obtain ⟨q1, f0', f1'⟩ := q
            obtain ⟨rfl, l, w, dn, h1, h2, h3⟩ := hI
            dsimp only at h1
            by_cases hc8 : c = ch
            · subst hc8
              right
              refine ⟨(f0', f1'), ?_, l, w, dn, h1, h2, h3⟩
              show x_X10_layWays_b69 _ _ _ _ _ = _
              unfold x_X10_layWays_b69
              rw [show (va_up (va_up (va_up (va_up (va_up M 32 f0) 33 f1) 37 r) 32 f0') 33 f1') 17 0 = nI c from r7, if_pos (nI_le (Nat.le_refl _) (by omega))]
              rfl
            · left
              obtain ⟨f0'', f1'', l', w', dn', t1, t2, t3, t4⟩ := ways_step (N := N) (M := va_up (va_up (va_up (va_up (va_up M 32 f0) 33 f1) 37 r) 32 f0') 33 f1') (x1 := nI k) hPR hz h172 (show c < ch by omega) (y2.1 k hkp) y2 hkp rfl h1 h2 h3
              exact ⟨_, t1, by omega, rfl, l', w', dn', t2, t3, t4⟩) (N := N) (z := ((0 : Int32), f0, f1)) (by omega) ⟨rfl, l, w, dn, h1, h2, fun x => by
              rw [h3]
              constructor
              · rintro ⟨a, b⟩; exact ⟨a, Or.inl b⟩
              · rintro ⟨a, b | b⟩
                · exact ⟨a, b⟩
                · exact absurd b.1 (Nat.not_lt_zero x)⟩
        obtain ⟨x0, x1⟩ := x
        refine ⟨(nI (k + 1), x0, x1), ?_, by omega, rfl, l', w', dn', k1, k2, fun x => ?_⟩
        · show x_X10_layWays_b52 _ _ _ = _
          unfold x_X10_layWays_b52
          rw [show (va_up (va_up (va_up M 32 f0) 33 f1) 37 r) 16 0 = nI pl from r5, if_neg (nleI hkp (by omega)), ix (show k < 8 by omega) (by omega), cl (by omega), show (va_up (va_up (va_up M 32 f0) 33 f1) 37 r) 37 k = nI (o k) from y3 k hkp, e8]
          unfold xl
          show Option.bind (lpc (fun (q : Int32 × (Nat → Int32) × (Nat → Int32)) => x_X10_layWays_b69 N (va_up (va_up (va_up (va_up (va_up M 32 f0) 33 f1) 37 r) 32 q.2.1) 33 q.2.2) (nI k) (nI (o k)) q.1) N ((0 : Int32), f0, f1)) _ = _
          rw [u1]
          rfl
        · rw [k3]
          constructor
          · rintro ⟨a, b | b⟩
            · obtain ⟨j, j1, j2⟩ := b; exact ⟨a, j, by omega, j2⟩
            · exact ⟨a, k, by omega, b.2⟩
          · rintro ⟨a, j, j1, j2⟩
            by_cases hj : j = k
            · subst hj; exact ⟨a, Or.inr ⟨a, j2⟩⟩
            · exact ⟨a, Or.inl ⟨j, by omega, j2⟩⟩) (N := N) (z := ((0 : Int32), x0, x1)) (by omega) ⟨rfl, b0, b0, fun _ => false, u2, WI.zero D _ ch, fun x => ⟨fun h => absurd h Bool.false_ne_true, fun ⟨_, j, h, _⟩ => absurd h (Nat.not_lt_zero j)⟩⟩
  obtain ⟨f0, f1⟩ := x'
  refine ⟨f0, f1, r, l, w, dn, ?_, v2, v3, fun c hc => ?_⟩
  · unfold x_X10_layWays
    rw [y1]
    simp only [Option.bind_some]
    rw [u1]
    simp only [Option.bind_some]
    rw [v1]
    rfl
  · obtain ⟨j, j1, j2⟩ := y2.2.2 (D 2 c) (r9 c hc).1
    exact (v4 c).mpr ⟨hc, j, j1, j2.symm⟩
theorem Rel_rout {n : Nat} (hn : n < 64) {C RF : Nat → St} {M : St} (h : Rel n C RF M) (X : St) (a b c : Nat → Int32) : Rel (n + 1) (va_up C 11 X) RF (va_up (va_up (va_up M 32 a) 33 b) 37 c) := Rel_step hn h
theorem ways_both {N : Nat} (hN : 4096 ≤ N) {pl ch hb : Nat} {D : Nat → Nat → Nat} {P M F T : St} (hPR : PR pl ch D P (M 15 0) (M 16 0) (M 17 0) (M 18) (M 19)) (g : FR pl hb F (M 20)) : ∃ f0 f1 g0 g1 r, x_X6_follow N T P (F 1 0) = some (f0, f1) ∧ x_X10_layWays N M = some (g0, g1, r) ∧ ∀ p, p < pl → f0 p = g0 p ∧ f1 p = g1 p := by
  have r1 := hPR.1
  obtain ⟨z, z1, z2, z3⟩ := g.2.1
  obtain ⟨f0, f1, l, w, dn, y1, y2, y3, y4⟩ := follow_eq hN (T := T) hPR z1
  obtain ⟨g0, g1, r, l', w', dn', u1, u2, u3, u4⟩ := lay_eq hN hPR z1 z3
  refine ⟨f0, f1, g0, g1, r, by rw [z2]; exact y1, u1, fun p hp => ?_⟩
  obtain ⟨a, b⟩ := y3.one u3 y4 u4 (pl := pl) (fun c hc => ⟨(hPR.2.2.2.2.2.2.2.2.1 c hc).1, (hPR.2.2.2.2.2.2.2.2.1 c hc).2.2.2.2.1⟩) (fun p hp => (hPR.2.2.2.2.2.2.2.1 p hp).2.1) 100 p hp (by omega)
  obtain ⟨c1, c2⟩ := y2 p (by omega)
  obtain ⟨d1, d2⟩ := u2 p hp
  rw [c1, c2, d1, d2, a, b]
  exact ⟨rfl, rfl⟩
theorem P_longest {N n : Nat} (hN : 4096 ≤ N) (hn : n < 64) {C RF : Nat → St} {M : St} (h : Rel n C RF M) (x1 : Int32) : ∃ (v : Int32 × (Nat → Int32) × (Nat → Int32)) (w : Int32 × (Nat → Int32) × (Nat → Int32) × (Nat → Int32)), x_X9_longest N (C 0) (C 4) (C 2) (C 11) x1 = some v ∧ x_X10_longest N M x1 = some w ∧ v.1 = w.1 ∧ Rel (n + 1) (va_up C 11 (va_up (va_up (C 11) 0 v.2.1) 1 v.2.2)) RF (va_up (va_up (va_up M 32 w.2.1) 33 w.2.2.1) 37 w.2.2.2) := by
  have hrel := h
  obtain ⟨h1, h2, h3, h4, pl, ch, D, hPR, h6, h7, h8⟩ := h
  have r1 := hPR.1
  unfold x_X9_longest x_X10_longest
  rcases hp_place hPR.2.2.2.1 hPR.2.2.2.2.1 hPR.1 x1 with ⟨p, hp, rfl, e1, e2⟩ | ⟨e1, e2⟩
  · obtain ⟨f0, f1, g0, g1, r, y1, y2, y3⟩ := ways_both hN (T := C 11) hPR h6
    rw [e1, e2, y1, y2]
    simp only [Option.bind_some, if_neg z10]
    rw [ix (by omega) (by omega), ix (by omega) (by omega), cl (by omega)]
    exact ⟨_, _, rfl, rfl, (y3 p hp).1, Rel_rout hn hrel _ _ _ _⟩
  · rw [e1, e2]
    exact ⟨_, _, rfl, rfl, rfl, Rel_rout hn hrel _ _ _ _⟩
theorem P_ways {N n : Nat} (hN : 4096 ≤ N) (hn : n < 64) {C RF : Nat → St} {M : St} (h : Rel n C RF M) (x1 : Int32) : ∃ (v : Int32 × (Nat → Int32) × (Nat → Int32)) (w : Int32 × (Nat → Int32) × (Nat → Int32) × (Nat → Int32)), x_X9_ways N (C 0) (C 4) (C 2) (C 11) x1 = some v ∧ x_X10_ways N M x1 = some w ∧ v.1 = w.1 ∧ Rel (n + 1) (va_up C 11 (va_up (va_up (C 11) 0 v.2.1) 1 v.2.2)) RF (va_up (va_up (va_up M 32 w.2.1) 33 w.2.2.1) 37 w.2.2.2) := by
  have hrel := h
  obtain ⟨h1, h2, h3, h4, pl, ch, D, hPR, h6, h7, h8⟩ := h
  have r1 := hPR.1
  unfold x_X9_ways x_X10_ways
  rcases hp_place hPR.2.2.2.1 hPR.2.2.2.2.1 hPR.1 x1 with ⟨p, hp, rfl, e1, e2⟩ | ⟨e1, e2⟩
  · obtain ⟨f0, f1, g0, g1, r, y1, y2, y3⟩ := ways_both hN (T := C 11) hPR h6
    rw [e1, e2, y1, y2]
    simp only [Option.bind_some, if_neg z10]
    rw [ix (by omega) (by omega), ix (by omega) (by omega), cl (by omega)]
    exact ⟨_, _, rfl, rfl, (y3 p hp).2, Rel_rout hn hrel _ _ _ _⟩
  · rw [e1, e2]
    exact ⟨_, _, rfl, rfl, rfl, Rel_rout hn hrel _ _ _ _⟩
