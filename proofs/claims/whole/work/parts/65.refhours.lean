/-! as many rounds as places are enough -/
theorem cnt_mono {f g : Nat → Bool} : ∀ n, (∀ x, x < n → f x = true → g x = true) → cnt f n ≤ cnt g n
  | 0, _ => Nat.le_refl 0
  | n + 1, h => by
    have ih := cnt_mono (f := f) (g := g) n (fun x hx => h x (by omega))
    show cnt f n + (if f n = true then 1 else 0) ≤ cnt g n + (if g n = true then 1 else 0)
    by_cases hf : f n = true
    · rw [if_pos hf, if_pos (h n (by omega) hf)]; omega
    · rw [if_neg hf]; omega
theorem cnt_lt {f g : Nat → Bool} {a : Nat} : ∀ n, (∀ x, x < n → f x = true → g x = true) → a < n → f a = false → g a = true → cnt f n < cnt g n
  | 0, _, ha, _, _ => absurd ha (Nat.not_lt_zero a)
  | n + 1, h, ha, hf, hg => by
    show cnt f n + (if f n = true then 1 else 0) < cnt g n + (if g n = true then 1 else 0)
    by_cases han : a = n
    · subst han
      have := cnt_mono (f := f) (g := g) a (fun x hx => h x (by omega))
      rw [if_neg (by rw [hf]; exact Bool.false_ne_true), if_pos hg]
      omega
    · have ih := cnt_lt (f := f) (g := g) n (fun x hx => h x (by omega)) (by omega) hf hg
      by_cases hf2 : f n = true
      · rw [if_pos hf2, if_pos (h n (by omega) hf2)]; omega
      · rw [if_neg hf2]; omega
def rk (D : Nat → Nat → Nat) (pl p : Nat) : Nat := cnt (fun q => decide (D 1 p < D 1 q)) pl
theorem rk_lt {D : Nat → Nat → Nat} {pl a b : Nat} (h : D 1 b < D 1 a) (ha : a < pl) : rk D pl a < rk D pl b := by
  apply cnt_lt (a := a) pl _ ha
  · exact decide_eq_false (Nat.lt_irrefl _)
  · exact decide_eq_true h
  · intro x _ hx
    have := of_decide_eq_true hx
    exact decide_eq_true (by omega)
theorem rk_pl {D : Nat → Nat → Nat} {pl p : Nat} (hp : p < pl) : rk D pl p < pl := by
  refine Nat.lt_of_lt_of_le (cnt_lt (g := fun _ => true) (a := p) pl (fun _ _ _ => rfl) hp (decide_eq_false (Nat.lt_irrefl _)) rfl) (cnt_le _ _)
/-- k rounds and c channels: what is there by now -/
def CPL (pl ch : Nat) (D : Nat → Nat → Nat) (ok : Nat → Bool) (H : Nat → Nat) (k c : Nat) (Q : Nat → Nat → Prop) : Prop :=
  (∀ p x, p < pl → rk D pl p < k → (H p).testBit x = true → Q p x) ∧ Q 0 0 ∧ (∀ c', c' < c → c' < ch → ok c' = true → rk D pl (D 3 c') ≤ k → ∀ x, D 4 c' ≤ x → x ≤ 60 → (H (D 2 c')).testBit (x - D 4 c') = true → Q (D 3 c') x)
theorem CPL.step {pl ch : Nat} {D : Nat → Nat → Nat} {ok : Nat → Bool} {H : Nat → Nat} {k c : Nat} {Q Q' : Nat → Nat → Prop} (h : PD pl ch D) (g : CPL pl ch D ok H k c Q) (hc : c < ch) (hm : ∀ p x, Q p x → Q' p x) (hs : ok c = true → ∀ y, Q (D 2 c) y → y + D 4 c ≤ 60 → Q' (D 3 c) (y + D 4 c)) : CPL pl ch D ok H k (c + 1) Q' := by
  obtain ⟨g1, g2, g3⟩ := g
  refine ⟨fun p x h1 h2 h3 => hm _ _ (g1 p x h1 h2 h3), hm _ _ g2, fun c' h1 h2 h3 h4 x h5 h6 h7 => ?_⟩
  by_cases hcc : c' = c
  · subst hcc
    obtain ⟨a1, a2, a3, a4, a5⟩ := h.2.2.1 c' hc
    have := hs h3 (x - D 4 c') (g1 _ _ a1 (by have := rk_lt (pl := pl) a5 a1; omega) h7) (by omega)
    rwa [Nat.sub_add_cancel h5] at this
  · exact hm _ _ (g3 c' (by omega) h2 h3 h4 x h5 h6 h7)
theorem CPL.round {pl ch : Nat} {D : Nat → Nat → Nat} {ok : Nat → Bool} {k : Nat} {Q : Nat → Nat → Prop} (h : PD pl ch D) (g : CPL pl ch D ok (Hf D ok ch) k ch Q) : CPL pl ch D ok (Hf D ok ch) (k + 1) 0 Q := by
  obtain ⟨g1, g2, g3⟩ := g
  refine ⟨fun p x h1 h2 h3 => ?_, g2, fun c' h1 => absurd h1 (Nat.not_lt_zero c')⟩
  obtain ⟨h4, ⟨rfl, rfl⟩ | ⟨c, c1, c2, c3, c4, c5⟩⟩ := (Hf_iff h ok p x).mp h3
  · exact g2
  · subst c3
    exact g3 c c1 c1 c2 (by omega) x c4 h4 c5
theorem CPL.init {pl ch : Nat} {D : Nat → Nat → Nat} {ok : Nat → Bool} {H : Nat → Nat} {Q : Nat → Nat → Prop} (g : Q 0 0) : CPL pl ch D ok H 0 0 Q :=
  ⟨fun p x _ h2 => absurd h2 (Nat.not_lt_zero _), g, fun c' h1 => absurd h1 (Nat.not_lt_zero c')⟩
/-! the reference's hours -/
theorem chan3 (c : Nat) : (3 : Int32) * nI c = nI (3 * c) ∧ nI (3 * c) + (1 : Int32) = nI (3 * c + 1) ∧ nI (3 * c) + (2 : Int32) = nI (3 * c + 2) := by
  refine ⟨?_, ?_, ?_⟩ <;> simp (disch := omega) only [li_0, li_1, li_2, li_3, li_4, li_5, li_6, li_7, li_8, li_9, li_10, li_11, li_15, li_16, li_20, li_30, li_32, li_48, li_57, li_58, li_59, li_60, li_61, li_63, li_64, li_80, li_85, li_88, li_99, li_100, li_112, li_115, li_152, li_162, li_172, li_173, li_174, li_240, li_255, li_348, li_1000, li_3306, nI_add, pk_mul]
theorem okf_f {D : Nat → Nat → Nat} {z t c : Nat} (h : z.testBit c = true ∨ goS (D 0 (D 2 c)) (2 ^ t) = 0) : okf D z t c = false := by
  unfold okf
  rcases h with h | h
  · rw [h]; rfl
  · rw [decide_eq_false (fun h2 => h2 h), Bool.and_false]
theorem okf_t {D : Nat → Nat → Nat} {z t c : Nat} (h : ¬ z.testBit c = true) (h2 : ¬ goS (D 0 (D 2 c)) (2 ^ t) = 0) : okf D z t c = true := by
  unfold okf
  rw [decide_eq_true h2, Bool.and_true]
  cases hh : z.testBit c
  · rfl
  · exact absurd hh h
theorem lh_inner {N pl ch z t k : Nat} (hN : 4096 ≤ N) {D : Nat → Nat → Nat} {P M : St} {x5 : Int32} (hPR : PR pl ch D P (M 15 0) (M 16 0) (M 17 0) (M 18) (M 19)) (hz : z < 1024) (ht : t < 8) (hM : M 20 172 = nI z) {f : Nat → Int64} {R : Nat → Nat} (hf : ∀ p, p < pl → f p = lN (R p)) (hs : ∀ p x, (R p).testBit x = true → (Hf D (okf D z t) ch p).testBit x = true) (hc : CPL pl ch D (okf D z t) (Hf D (okf D z t) ch) k 0 (fun p x => (R p).testBit x = true)) : ∃ (f' : Nat → Int64) (R' : Nat → Nat), lpc (fun (q : Int32 × (Nat → Int64)) => x_X10_layHours_b47 N M q.2 (nI t) (2305843009213693951 : Int64) x5 q.1) N ((0 : Int32), f) = some f' ∧ (∀ p, p < pl → f' p = lN (R' p)) ∧ (∀ p x, (R' p).testBit x = true → (Hf D (okf D z t) ch p).testBit x = true) ∧ CPL pl ch D (okf D z t) (Hf D (okf D z t) ch) k ch (fun p x => (R' p).testBit x = true) := by
  have hpd := hPR.pd
  have hPR0 := hPR
  obtain ⟨r1, r2, r3, r4, r5, r6, r7, r8, r9, r10, r11, r12⟩ := hPR
  obtain ⟨x, u1, u2⟩ := lpc_run (body := fun (q : Int32 × (Nat → Int64)) => x_X10_layHours_b47 N M q.2 (nI t) (2305843009213693951 : Int64) x5 q.1)
    (I := fun c q => q.1 = nI c ∧ ∃ R : Nat → Nat, (∀ p, p < pl → q.2 p = lN (R p)) ∧ (∀ p x, (R p).testBit x = true → (Hf D (okf D z t) ch p).testBit x = true) ∧ CPL pl ch D (okf D z t) (Hf D (okf D z t) ch) k c (fun p x => (R p).testBit x = true))
    (Pst := fun f' => ∃ R' : Nat → Nat, (∀ p, p < pl → f' p = lN (R' p)) ∧ (∀ p x, (R' p).testBit x = true → (Hf D (okf D z t) ch p).testBit x = true) ∧ CPL pl ch D (okf D z t) (Hf D (okf D z t) ch) k ch (fun p x => (R' p).testBit x = true)) ch (fun c q hk hI => by
      obtain ⟨q1, f⟩ := q
      obtain ⟨rfl, R, h1, h2, h3⟩ := hI
      dsimp only at h1
      show (∃ z', x_X10_layHours_b47 N M f (nI t) (2305843009213693951 : Int64) x5 (nI c) = _ ∧ _) ∨ (∃ x, x_X10_layHours_b47 N M f (nI t) (2305843009213693951 : Int64) x5 (nI c) = _ ∧ _)
      unfold x_X10_layHours_b47
      rw [r7]
      by_cases hk8 : c = ch
      · subst hk8
        right
        rw [if_pos (nI_le (Nat.le_refl _) (by omega))]
        exact ⟨_, rfl, R, h1, h2, h3⟩
      · left
        have hcc : c < ch := by omega
        obtain ⟨a1, a2, a3, a4, a5, a6, a7, a8, a9, a10, a11⟩ := r9 c hcc
        obtain ⟨e1, e2, e3⟩ := chan3 c
        have e8 : nI c + (1 : Int32) = nI (c + 1) := by simp (disch := omega) only [li_0, li_1, li_2, li_3, li_4, li_5, li_6, li_7, li_8, li_9, li_10, li_11, li_15, li_16, li_20, li_30, li_32, li_48, li_57, li_58, li_59, li_60, li_61, li_63, li_64, li_80, li_85, li_88, li_99, li_100, li_112, li_115, li_152, li_162, li_172, li_173, li_174, li_240, li_255, li_348, li_1000, li_3306, nI_add]
        have i30 : ∀ j, j < 30 → ¬ (nI j < 0 ∨ 30 ≤ j) := fun j hj => by have := nI_in (c := j) (N := 30) hj (by omega); rwa [cl (by omega)] at this
        have i2 : ∀ j, j < 8 → ¬ (nI j < 0 ∨ 8 ≤ j) := fun j hj => by have := nI_in (c := j) (N := 8) hj (by omega); rwa [cl (by omega)] at this
        have ego := (goes_val hPR0 (p := D 2 c) (s := 2 ^ t) a1).2
        have h2t : 2 ^ t < 2 ^ 30 := Nat.pow_lt_pow_right (by omega) (by omega)
        have hgl := go_lt (D 0 (D 2 c)) h2t
        have c172 : (172 : Int32).toNatClampNeg = 172 := rfl
        have hskip : okf D z t c = false → CPL pl ch D (okf D z t) (Hf D (okf D z t) ch) k (c + 1) (fun p x => (R p).testBit x = true) := fun h => h3.step hpd hcc (fun _ _ h => h) (fun h9 => by rw [h] at h9; exact absurd h9 Bool.false_ne_true)
        rw [if_neg (nleI hcc (by omega))]
        simp only [xl, e1, e2, e3, cl (show 3 * c < 2 ^ 31 by omega), cl (show 3 * c + 1 < 2 ^ 31 by omega), cl (show 3 * c + 2 < 2 ^ 31 by omega), if_neg (i30 (3 * c) (by omega)), if_neg (i30 (3 * c + 1) (by omega)), if_neg (i30 (3 * c + 2) (by omega)), a7, a9, a11, c172, hM, has_10, has_eq (show z < 2 ^ 31 by omega) (show c < 32 by omega), Option.bind_some, e8, s_l10 t (by omega), ego, cl (show D 2 c < 2 ^ 31 by omega), cl (show D 3 c < 2 ^ 31 by omega), if_neg (i2 (D 2 c) (by omega)), if_neg (i2 (D 3 c) (by omega)), h1 (D 2 c) a1, h1 (D 3 c) a2, lN_shf _ (show D 4 c < 64 by omega), lN_or]
        by_cases hbit : z.testBit c = true
        · rw [if_pos hbit, if_neg z10]
          exact ⟨_, rfl, by omega, rfl, R, h1, h2, hskip (okf_f (Or.inl hbit))⟩
        · rw [if_neg hbit, if_pos rfl]
          by_cases hgo : goS (D 0 (D 2 c)) (2 ^ t) = 0
          · rw [if_pos (show nI (goS (D 0 (D 2 c)) (2 ^ t)) = 0 by rw [hgo]; rfl)]
            exact ⟨_, rfl, by omega, rfl, R, h1, h2, hskip (okf_f (Or.inr hgo))⟩
          · rw [if_neg (show ¬ nI (goS (D 0 (D 2 c)) (2 ^ t)) = 0 from fun h => hgo (nI_inj (b := 0) (by omega) (by omega) h))]
            have hok := okf_t hbit hgo
            refine ⟨_, rfl, by omega, rfl, up1 R (D 3 c) (R (D 3 c) ||| shf (R (D 2 c)) (D 4 c)), fun p hp => ?_, fun p x hx => ?_, h3.step hpd hcc (fun p x hx => ?_) (fun _ y hy hy2 => ?_)⟩
            · show vp_updL f (D 3 c) _ p = _
              by_cases hq : p = D 3 c
              · rw [hq, pk_uLs, up1_s]
              · rw [pk_uLn hq, up1_n hq]; exact h1 p hp
            · by_cases hq : p = D 3 c
              · rw [hq, up1_s, Nat.testBit_or, Bool.or_eq_true] at hx
                rcases hx with hx | hx
                · rw [hq]; exact h2 _ _ hx
                · obtain ⟨x1, x2, x3⟩ := (shf_bit _ _ _).mp hx
                  exact (Hf_iff hpd _ p x).mpr ⟨x1, Or.inr ⟨c, hcc, hok, hq.symm, x2, h2 _ _ x3⟩⟩
              · rw [up1_n hq] at hx; exact h2 _ _ hx
            · show (up1 R (D 3 c) (R (D 3 c) ||| shf (R (D 2 c)) (D 4 c)) p).testBit x = true
              by_cases hq : p = D 3 c
              · rw [hq, up1_s, Nat.testBit_or, Bool.or_eq_true]; left; rw [← hq]; exact hx
              · rw [up1_n hq]; exact hx
            · show (up1 R (D 3 c) (R (D 3 c) ||| shf (R (D 2 c)) (D 4 c)) (D 3 c)).testBit (y + D 4 c) = true
              rw [up1_s, Nat.testBit_or, Bool.or_eq_true, shf_bit]
              exact Or.inr ⟨hy2, by omega, by rw [Nat.add_sub_cancel]; exact hy⟩) (N := N) (z := ((0 : Int32), f)) (by omega) ⟨rfl, R, hf, hs, hc⟩
  obtain ⟨R', w1, w2, w3⟩ := u2
  exact ⟨x, R', u1, w1, w2, w3⟩
theorem layHours_val {N pl ch z t : Nat} (hN : 4096 ≤ N) {D : Nat → Nat → Nat} {P M : St} {a : Nat → Int64} (hPR : PR pl ch D P (M 15 0) (M 16 0) (M 17 0) (M 18) (M 19)) (hz : z < 1024) (ht : t < 8) (hM : M 20 172 = nI z) : ∃ r, x_X10_layHours N M a (nI t) = some r ∧ ∀ p, p < pl → r p = lN (Hf D (okf D z t) ch p) := by
  have hpd := hPR.pd
  have r1 := hPR.1
  have r5 := hPR.2.2.2.2.1
  obtain ⟨v, v1, v2⟩ := lpc_run (body := fun (q : Int32 × (Nat → Int64)) => x_X10_layHours_b2 N M q.2 (nI t) q.1) (I := fun k q => q.1 = nI k ∧ ∀ p, p < k → q.2 p = lN (b0 p)) (Pst := fun f => ∀ p, p < pl → f p = lN (b0 p)) pl (fun k q hk hI => by
    obtain ⟨q1, f⟩ := q
    obtain ⟨rfl, h1⟩ := hI
    dsimp only at h1
    show (∃ z', x_X10_layHours_b2 N M f (nI t) (nI k) = _ ∧ _) ∨ (∃ x, x_X10_layHours_b2 N M f (nI t) (nI k) = _ ∧ _)
    unfold x_X10_layHours_b2
    rw [r5]
    by_cases hk8 : k = pl
    · subst hk8
      right
      rw [if_pos (nI_le (Nat.le_refl _) (by omega))]
      exact ⟨_, rfl, h1⟩
    · left
      have e8 : nI k + (1 : Int32) = nI (k + 1) := by simp (disch := omega) only [li_0, li_1, li_2, li_3, li_4, li_5, li_6, li_7, li_8, li_9, li_10, li_11, li_15, li_16, li_20, li_30, li_32, li_48, li_57, li_58, li_59, li_60, li_61, li_63, li_64, li_80, li_85, li_88, li_99, li_100, li_112, li_115, li_152, li_162, li_172, li_173, li_174, li_240, li_255, li_348, li_1000, li_3306, nI_add]
      have i2 : ¬ (nI k < 0 ∨ 8 ≤ k) := by have := nI_in (c := k) (N := 8) (by omega) (by omega); rwa [cl (by omega)] at this
      rw [if_neg (nleI (show k < pl by omega) (by omega))]
      unfold x_X10_layHours_b2_k21
      rw [cl (by omega), if_neg i2, if_neg i2, e8]
      by_cases hk0 : k = 0
      · subst hk0
        rw [if_pos (show nI 0 = 0 from rfl)]
        refine ⟨_, rfl, by omega, rfl, fun p hp => ?_⟩
        have : p = 0 := by omega
        subst this
        show vp_updL f 0 (1 : Int64) 0 = lN 1
        rw [pk_uLs]
        rfl
      · rw [if_neg (show ¬ nI k = 0 from nI_ne0 (by omega) (by omega))]
        refine ⟨_, rfl, by omega, rfl, fun p hp => ?_⟩
        show vp_updL f k 0 p = _
        by_cases hpk : p = k
        · subst hpk; rw [pk_uLs, show b0 p = 0 from if_neg hk0]; rfl
        · rw [pk_uLn hpk]; exact h1 p (by omega)) (N := N) (z := ((0 : Int32), a)) (by omega) ⟨rfl, fun p hp => absurd hp (Nat.not_lt_zero p)⟩
  obtain ⟨r, w1, R, w2, w3, w4⟩ := lpc_run (body := fun (q : Int32 × (Nat → Int64)) => x_X10_layHours_b35 N M q.2 (nI t) (2305843009213693951 : Int64) q.1)
    (I := fun k q => q.1 = nI k ∧ ∃ R : Nat → Nat, (∀ p, p < pl → q.2 p = lN (R p)) ∧ (∀ p x, (R p).testBit x = true → (Hf D (okf D z t) ch p).testBit x = true) ∧ CPL pl ch D (okf D z t) (Hf D (okf D z t) ch) k 0 (fun p x => (R p).testBit x = true))
    (Pst := fun f => ∃ R : Nat → Nat, (∀ p, p < pl → f p = lN (R p)) ∧ (∀ p x, (R p).testBit x = true → (Hf D (okf D z t) ch p).testBit x = true) ∧ CPL pl ch D (okf D z t) (Hf D (okf D z t) ch) pl 0 (fun p x => (R p).testBit x = true)) pl (fun k q hk hI => by
      obtain ⟨q1, f⟩ := q
      obtain ⟨rfl, R, h1, h2, h3⟩ := hI
      dsimp only at h1
      show (∃ z', x_X10_layHours_b35 N M f (nI t) (2305843009213693951 : Int64) (nI k) = _ ∧ _) ∨ (∃ x, x_X10_layHours_b35 N M f (nI t) (2305843009213693951 : Int64) (nI k) = _ ∧ _)
      unfold x_X10_layHours_b35
      rw [r5]
      by_cases hk8 : k = pl
      · subst hk8
        right
        rw [if_pos (nI_le (Nat.le_refl _) (by omega))]
        exact ⟨_, rfl, R, h1, h2, h3⟩
      · left
        have e8 : nI k + (1 : Int32) = nI (k + 1) := by simp (disch := omega) only [li_0, li_1, li_2, li_3, li_4, li_5, li_6, li_7, li_8, li_9, li_10, li_11, li_15, li_16, li_20, li_30, li_32, li_48, li_57, li_58, li_59, li_60, li_61, li_63, li_64, li_80, li_85, li_88, li_99, li_100, li_112, li_115, li_152, li_162, li_172, li_173, li_174, li_240, li_255, li_348, li_1000, li_3306, nI_add]
        obtain ⟨f', R', y1, y2, y3, y4⟩ := lh_inner hN (x5 := nI k) hPR hz ht hM h1 h2 h3
        rw [if_neg (nleI (show k < pl by omega) (by omega)), y1, e8]
        exact ⟨_, rfl, by omega, rfl, R', y2, y3, y4.round hpd⟩) (N := N) (z := ((0 : Int32), v)) (by omega) ⟨rfl, b0, v2, fun p x hx => by
        by_cases hp : p = 0
        · subst hp
          have hx' : (1 : Nat).testBit x = true := hx
          rw [Nat.testBit_one_eq_true_iff_self_eq_zero] at hx'
          exact (Hf_iff hpd _ 0 x).mpr ⟨by omega, Or.inl ⟨rfl, hx'⟩⟩
        · rw [show b0 p = 0 from if_neg hp, Nat.zero_testBit] at hx
          exact absurd hx Bool.false_ne_true, CPL.init rfl⟩
  refine ⟨r, ?_, fun p hp => ?_⟩
  · unfold x_X10_layHours
    rw [v1]
    simp only [Option.bind_some]
    rw [w1]
    rfl
  · rw [w2 p hp]
    refine congrArg lN (Nat.eq_of_testBit_eq (fun x => ?_))
    cases hh : (Hf D (okf D z t) ch p).testBit x
    · cases hr : (R p).testBit x
      · rfl
      · rw [w3 p x hr] at hh; exact absurd hh.symm Bool.false_ne_true
    · exact w4.1 p x hp (rk_pl hp) hh
