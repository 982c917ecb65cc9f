/-! ways in the class -/
def eL (k : Nat) : Int32 := if k = 0 then -1 else nI (k - 1)
theorem eL_0 : eL 0 = -1 := if_pos rfl
theorem eL_p {k : Nat} (h : 0 < k) : eL k = nI (k - 1) := if_neg (by omega)
theorem eL_m1 {k : Nat} (h : k < 2 ^ 31) : eL k = -1 ↔ k = 0 := by
  by_cases h0 : k = 0
  · subst h0; exact ⟨fun _ => rfl, fun _ => eL_0⟩
  · rw [eL_p (by omega)]
    exact ⟨fun h2 => absurd h2 (nI_ne_m1 (by omega)), fun h => absurd h h0⟩
theorem eL_lt {a x : Nat} (ha : a < 2 ^ 20) (hx : x < 2 ^ 20) : eL a < nI x ↔ a < x + 1 := by
  by_cases h0 : a = 0
  · subst h0
    rw [eL_0, lt_I, lim1, nI_toInt (by omega)]
    omega
  · rw [eL_p (by omega), nI_ltI (by omega) (by omega)]
    omega
theorem i_nle {x y : Int32} : ¬ x ≤ y ↔ y < x := by rw [le_I, lt_I]; omega
theorem eL_max {a b h : Nat} (ha : a < 2 ^ 10) (hb : b < 2 ^ 10) (hb0 : 0 < b) (hh : h < 2 ^ 10) : (if eL a < eL b + nI h then eL b + nI h else eL a) = eL (max a (b + h)) := by
  have e : eL b + nI h = nI (b - 1 + h) := by rw [eL_p hb0, nI_add]
  rw [e]
  by_cases c : a < b - 1 + h + 1
  · rw [if_pos ((eL_lt (by omega) (by omega)).mpr c), Nat.max_eq_right (by omega), eL_p (by omega), show b + h - 1 = b - 1 + h by omega]
  · rw [if_neg (fun k => c ((eL_lt (by omega) (by omega)).mp k)), Nat.max_eq_left (by omega)]
theorem eL_max' {a b h : Nat} (ha : a < 2 ^ 10) (hb : b < 2 ^ 10) (hb0 : 0 < b) (hh : h < 2 ^ 10) : (if eL b + nI h ≤ eL a then eL a else eL b + nI h) = eL (max a (b + h)) := by
  rw [← eL_max ha hb hb0 hh]
  by_cases c : eL b + nI h ≤ eL a
  · rw [if_pos c, if_neg (fun k => i_nle.mpr k c)]
  · rw [if_neg c, if_pos (i_nle.mp c)]
def CA (n : Nat) (f0 f1 : Nat → Int32) (l w : Nat → Nat) : Prop := ∀ p, p < n → f0 p = eL (l p) ∧ f1 p = nI (w p)
theorem CA.up {n : Nat} {f0 f1 : Nat → Int32} {l w : Nat → Nat} (g : CA n f0 f1 l w) (t a b : Nat) : CA n (upd f0 t (eL a)) (upd f1 t (nI b)) (up1 l t a) (up1 w t b) := fun p hp => by
  by_cases h : p = t
  · subst h; rw [pk_us, pk_us, up1_s, up1_s]; exact ⟨rfl, rfl⟩
  · rw [pk_un h, pk_un h, up1_n h, up1_n h]; exact g p hp
theorem follow_step {N : Nat} {pl ch z i : Nat} {D : Nat → Nat → Nat} {T P : St} {m15 m16 m17 : Int32} {m18 m19 : Nat → Int32} (hPR : PR pl ch D P m15 m16 m17 m18 m19) (hz : z < 1024) (hi : i < ch) {l w : Nat → Nat} {dn : Nat → Bool} (g : CA 8 (T 0) (T 1) l w) (hW : WI D (fun c => !z.testBit c) dn ch l w) (hdn : ∀ x, dn x = true ↔ ∃ j, j < i ∧ D 5 j = x) : ∃ f0 f1 l' w' dn', x_X6_follow_b32 N T P (nI z) (nI i) = some (.inl (nI (i + 1), f0, f1)) ∧ CA 8 f0 f1 l' w' ∧ WI D (fun c => !z.testBit c) dn' ch l' w' ∧ ∀ x, dn' x = true ↔ ∃ j, j < i + 1 ∧ D 5 j = x := by
  obtain ⟨r1, r2, r3, r4, r5, r6, r7, r8, r9, r10, r11, r12⟩ := hPR
  obtain ⟨d1, d2⟩ := r10 i hi
  obtain ⟨c, hc⟩ : ∃ c, c = D 5 i := ⟨_, rfl⟩
  rw [← hc] at d1 d2
  obtain ⟨a1, a2, a3, a4, a5, a6, a7, a8, a9, a10, a11⟩ := r9 c d1
  have e8 : nI i + (1 : Int32) = nI (i + 1) := by simp (disch := omega) only [li_0, li_1, li_2, li_3, li_4, li_5, li_6, li_7, li_8, li_9, li_10, li_11, li_15, li_16, li_20, li_30, li_32, li_48, li_57, li_58, li_59, li_60, li_61, li_63, li_64, li_80, li_85, li_88, li_99, li_100, li_112, li_115, li_152, li_162, li_172, li_173, li_174, li_240, li_255, li_348, li_1000, li_3306, nI_add]
  have hdc : dn c = false := by
    cases hh : dn c
    · rfl
    · obtain ⟨j, j1, j2⟩ := (hdn c).mp hh
      exact absurd (j2.trans hc) (r11 j i j1 hi).2
  have hord : ∀ x, dn x = true → D 1 (D 2 c) ≤ D 1 (D 2 x) := fun x hx => by
    obtain ⟨j, j1, j2⟩ := (hdn x).mp hx
    rw [← j2, hc]
    exact (r11 j i j1 hi).1
  have hdn' : ∀ x, mk1 dn c x = true ↔ ∃ j, j < i + 1 ∧ D 5 j = x := fun x => by
    by_cases hx : x = c
    · subst hx
      exact ⟨fun _ => ⟨i, by omega, hc.symm⟩, fun _ => mk1_c dn x⟩
    · rw [mk1_n hx, hdn]
      constructor
      · rintro ⟨j, j1, j2⟩; exact ⟨j, by omega, j2⟩
      · rintro ⟨j, j1, j2⟩
        refine ⟨j, ?_, j2⟩
        have : ¬ j = i := fun h => by subst h; exact hx (j2.symm.trans hc.symm)
        omega
  have hb := fun p => (hW.2.2.2 p)
  have hcn : cnt dn ch ≤ 10 := Nat.le_trans (cnt_le dn ch) r2
  have hpw : 2 ^ cnt dn ch ≤ 2 ^ 10 := Nat.pow_le_pow_right (by omega) hcn
  have b1 := hb (D 2 c)
  have b2 := hb (D 3 c)
  obtain ⟨g1, g2⟩ := g (D 2 c) (by omega)
  obtain ⟨g3, g4⟩ := g (D 3 c) (by omega)
  have i1 : ∀ j, j < 10 → ¬ (nI j < 0 ∨ 10 ≤ j) := fun j hj => by have := nI_in (c := j) (N := 10) hj (by omega); rwa [cl (by omega)] at this
  have i2 : ∀ j, j < 8 → ¬ (nI j < 0 ∨ 8 ≤ j) := fun j hj => by have := nI_in (c := j) (N := 8) hj (by omega); rwa [cl (by omega)] at this
  unfold x_X6_follow_b32
  rw [r6, if_neg (nleI hi (by omega)), cl (by omega), if_neg (i1 i (by omega)), d2]
  simp only [xl, cl (show c < 2 ^ 31 by omega), if_neg (i1 c (by omega)), a6, a8, a10, cl (show D 2 c < 2 ^ 31 by omega), cl (show D 3 c < 2 ^ 31 by omega), if_neg (i2 (D 2 c) (by omega)), if_neg (i2 (D 3 c) (by omega)), has_eq (show z < 2 ^ 31 by omega) (show c < 32 by omega), Option.bind_some, e8]
  rw [g1, g2, g3, g4]
  by_cases hw0 : w (D 2 c) = 0
  · rw [if_pos (show nI (w (D 2 c)) ≤ 0 by rw [hw0]; decide)]
    exact ⟨_, _, l, w, mk1 dn c, rfl, g, hW.skip d1 hdc (Or.inr ((hW.2.2.1 _).mpr hw0)), hdn'⟩
  · rw [if_neg (show ¬ nI (w (D 2 c)) ≤ 0 from fun h => by have := (nI_leI (b := 0) (by omega) (by omega)).mp h; omega)]
    by_cases hbit : z.testBit c = true
    · rw [if_pos hbit, if_neg z10]
      exact ⟨_, _, l, w, mk1 dn c, rfl, g, hW.skip d1 hdc (Or.inl (by rw [hbit]; rfl)), hdn'⟩
    · have hl0 : 0 < l (D 2 c) := Nat.pos_of_ne_zero (fun h => hw0 ((hW.2.2.1 _).mp h))
      rw [if_neg hbit, if_pos rfl, eL_max (by omega) (by omega) hl0 (by omega), nI_add]
      exact ⟨_, _, _, _, mk1 dn c, rfl, g.up _ _ _, hW.step d1 hdc (by cases hh : z.testBit c <;> simp_all) hl0 a4 a5 hord, hdn'⟩
theorem follow_eq {N : Nat} (hN : 4096 ≤ N) {pl ch z : Nat} {D : Nat → Nat → Nat} {T P : St} {m15 m16 m17 : Int32} {m18 m19 : Nat → Int32} (hPR : PR pl ch D P m15 m16 m17 m18 m19) (hz : z < 1024) : ∃ f0 f1 l w dn, x_X6_follow N T P (nI z) = some (f0, f1) ∧ CA 8 f0 f1 l w ∧ WI D (fun c => !z.testBit c) dn ch l w ∧ ∀ c, c < ch → dn c = true := by
  have c0 : (0 : Int32).toNatClampNeg = 0 := rfl
  have r6 := hPR.2.2.2.2.2.1
  have r2 := hPR.2.1
  obtain ⟨v1, k1, k2⟩ := fill_eq hN (n := 8) (by omega) (a := T 0) (x := -1)
  obtain ⟨v2, j1, j2⟩ := fill_eq hN (n := 8) (by omega) (a := T 1) (x := 0)
  obtain ⟨x, u1, l, w, dn, u2, u3, u4⟩ := lpc_run (body := fun (q : Int32 × (Nat → Int32) × (Nat → Int32)) => x_X6_follow_b32 N (va_up (va_up T 0 q.2.1) 1 q.2.2) P (nI z) q.1)
    (I := fun k q => q.1 = nI k ∧ ∃ l w dn, CA 8 q.2.1 q.2.2 l w ∧ WI D (fun c => !z.testBit c) dn ch l w ∧ ∀ x, dn x = true ↔ ∃ j, j < k ∧ D 5 j = x)
    (Pst := fun q => ∃ l w dn, CA 8 q.1 q.2 l w ∧ WI D (fun c => !z.testBit c) dn ch l w ∧ ∀ x, dn x = true ↔ ∃ j, j < ch ∧ D 5 j = x) ch (fun k q hk hI => by
      obtain ⟨q1, f0, f1⟩ := q
      obtain ⟨rfl, l, w, dn, h1, h2, h3⟩ := hI
      dsimp only at h1
      by_cases hk8 : k = ch
      · subst hk8
        right
        refine ⟨(f0, f1), ?_, l, w, dn, h1, h2, h3⟩
        show x_X6_follow_b32 _ _ _ _ _ = _
        unfold x_X6_follow_b32
        rw [r6, if_pos (nI_le (Nat.le_refl _) (by omega))]
        rfl
      · left
        obtain ⟨f0', f1', l', w', dn', y1, y2, y3, y4⟩ := follow_step (N := N) (T := va_up (va_up T 0 f0) 1 f1) hPR hz (show k < ch by omega) h1 h2 h3
        exact ⟨_, y1, by omega, rfl, l', w', dn', y2, y3, y4⟩) (N := N) (z := ((0 : Int32), upd v1 0 (0 : Int32), upd v2 0 (1 : Int32))) (by omega) ⟨rfl, b0, b0, fun _ => false, fun p hp => by
        dsimp only
        by_cases h : p = 0
        · subst h; rw [pk_us, pk_us]; exact ⟨rfl, rfl⟩
        · rw [pk_un h, pk_un h, k2, j2, if_pos hp, if_pos hp, show b0 p = 0 from if_neg h]; exact ⟨rfl, rfl⟩, WI.zero D _ ch, fun x => ⟨fun h => absurd h Bool.false_ne_true, fun ⟨j, h, _⟩ => absurd h (Nat.not_lt_zero j)⟩⟩
  obtain ⟨f0, f1⟩ := x
  refine ⟨f0, f1, l, w, dn, ?_, u2, u3, fun c hc => ?_⟩
  · unfold x_X6_follow
    rw [k1, j1]
    simp only [Option.bind_some, c0]
    rw [u1]
    rfl
  · obtain ⟨i, i1, i2⟩ := hPR.2.2.2.2.2.2.2.2.2.2.2 c hc
    exact (u4 c).mpr ⟨i, i1, i2⟩
