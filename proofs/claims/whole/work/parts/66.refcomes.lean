/-! the reference's earliest hours -/
theorem okf_c {D : Nat → Nat → Nat} {z t c : Nat} (h : okf D z t c = true) : ¬ z.testBit c = true ∧ ¬ goS (D 0 (D 2 c)) (2 ^ t) = 0 := by
  constructor
  · intro h2; rw [okf_f (Or.inl h2)] at h; exact Bool.false_ne_true h
  · intro h2; rw [okf_f (Or.inr h2)] at h; exact Bool.false_ne_true h
theorem va_up2 {α : Type} (f : Nat → α) (k : Nat) (a b : α) : va_up (va_up f k a) k b = va_up f k b := by
  funext j
  unfold va_up
  split <;> rfl
def EA (pl : Nat) (f : Nat → Int32) (E : Nat → Nat) : Prop := ∀ p, p < pl → f p = nI (E p) ∧ E p ≤ 99
theorem EA.up {pl : Nat} {f : Nat → Int32} {E : Nat → Nat} (h : EA pl f E) (b : Nat) {v : Nat} (hv : v ≤ 99) : EA pl (upd f b (nI v)) (up1 E b v) := fun p hp => by
  by_cases hq : p = b
  · rw [hq, pk_us, up1_s]; exact ⟨rfl, hv⟩
  · rw [pk_un hq, up1_n hq]; exact h p hp
theorem EA.same {pl : Nat} {f : Nat → Int32} {E : Nat → Nat} (h : EA pl f E) {b : Nat} (hb : b < pl) : EA pl (upd f b (nI (E b))) E := fun p hp => by
  by_cases hq : p = b
  · rw [hq, pk_us]; exact ⟨rfl, (h b hb).2⟩
  · rw [pk_un hq]; exact h p hp
theorem lc_inner {N pl ch z t k : Nat} (hN : 4096 ≤ N) {D : Nat → Nat → Nat} {P M : St} {x3 x4 x5 : Int32} (hPR : PR pl ch D P (M 15 0) (M 16 0) (M 17 0) (M 18) (M 19)) (hz : z < 1024) (ht : t < 8) {f : Nat → Int32} {E : Nat → Nat} (hf : EA pl f E) (hs : ∀ p, p < pl → E p ≤ 60 → (Hf D (okf D z t) ch p).testBit (E p) = true) (hc : CPL pl ch D (okf D z t) (Hf D (okf D z t) ch) k 0 (fun p x => E p ≤ x)) : ∃ (f' : Nat → Int32) (E' : Nat → Nat), lpc (fun (q : Int32 × (Nat → Int32)) => x_X10_layComes_b51 N (va_up M 32 q.2) (nI t) (nI z) x3 x4 x5 q.1) N ((0 : Int32), f) = some f' ∧ EA pl f' E' ∧ (∀ p, p < pl → E' p ≤ 60 → (Hf D (okf D z t) ch p).testBit (E' p) = true) ∧ CPL pl ch D (okf D z t) (Hf D (okf D z t) ch) k ch (fun p x => E' p ≤ x) := by
  have hpd := hPR.pd
  have hPR0 := hPR
  obtain ⟨r1, r2, r3, r4, r5, r6, r7, r8, r9, r10, r11, r12⟩ := hPR
  obtain ⟨x, u1, u2⟩ := lpc_run (body := fun (q : Int32 × (Nat → Int32)) => x_X10_layComes_b51 N (va_up M 32 q.2) (nI t) (nI z) x3 x4 x5 q.1)
    (I := fun c q => q.1 = nI c ∧ ∃ E : Nat → Nat, EA pl q.2 E ∧ (∀ p, p < pl → E p ≤ 60 → (Hf D (okf D z t) ch p).testBit (E p) = true) ∧ CPL pl ch D (okf D z t) (Hf D (okf D z t) ch) k c (fun p x => E p ≤ x))
    (Pst := fun f' => ∃ E' : Nat → Nat, EA pl f' E' ∧ (∀ p, p < pl → E' p ≤ 60 → (Hf D (okf D z t) ch p).testBit (E' p) = true) ∧ CPL pl ch D (okf D z t) (Hf D (okf D z t) ch) k ch (fun p x => E' p ≤ x)) ch (fun c q hk hI => by
      obtain ⟨q1, f⟩ := q
      obtain ⟨rfl, E, h1, h2, h3⟩ := hI
      dsimp only at h1
      show (∃ z', x_X10_layComes_b51 N (va_up M 32 f) (nI t) (nI z) x3 x4 x5 (nI c) = _ ∧ _) ∨ (∃ x, x_X10_layComes_b51 N (va_up M 32 f) (nI t) (nI z) x3 x4 x5 (nI c) = _ ∧ _)
      have t17 : (va_up M 32 f) 17 0 = nI ch := r7
      have t19 : (va_up M 32 f) 19 = M 19 := rfl
      have t32 : (va_up M 32 f) 32 = f := rfl
      by_cases hk8 : c = ch
      · subst hk8
        right
        unfold x_X10_layComes_b51
        rw [t17, if_pos (nI_le (Nat.le_refl _) (by omega))]
        exact ⟨_, rfl, E, h1, h2, h3⟩
      · left
        have hcc : c < ch := by omega
        obtain ⟨a1, a2, a3, a4, a5, a6, a7, a8, a9, a10, a11⟩ := r9 c hcc
        obtain ⟨e1, e2, e3⟩ := chan3 c
        have e8 : nI c + (1 : Int32) = nI (c + 1) := by simp (disch := omega) only [li_0, li_1, li_2, li_3, li_4, li_5, li_6, li_7, li_8, li_9, li_10, li_11, li_15, li_16, li_20, li_30, li_32, li_48, li_57, li_58, li_59, li_60, li_61, li_63, li_64, li_80, li_85, li_88, li_99, li_100, li_112, li_115, li_152, li_162, li_172, li_173, li_174, li_240, li_255, li_348, li_1000, li_3306, nI_add]
        have i30 : ∀ j, j < 30 → ¬ (nI j < 0 ∨ 30 ≤ j) := fun j hj => by have := nI_in (c := j) (N := 30) hj (by omega); rwa [cl (by omega)] at this
        have i2 : ∀ j, j < 8 → ¬ (nI j < 0 ∨ 8 ≤ j) := fun j hj => by have := nI_in (c := j) (N := 8) hj (by omega); rwa [cl (by omega)] at this
        have ego : x_X10_goesOn (va_up M 32 f) (nI (D 2 c)) (nI (2 ^ t)) = some (nI (goS (D 0 (D 2 c)) (2 ^ t))) := (goes_val (M := va_up M 32 f) hPR0 (p := D 2 c) (s := 2 ^ t) a1).2
        have h2t : 2 ^ t < 2 ^ 30 := Nat.pow_lt_pow_right (by omega) (by omega)
        have hgl := go_lt (D 0 (D 2 c)) h2t
        obtain ⟨b1, b2⟩ := h1 (D 2 c) a1
        obtain ⟨b3, b4⟩ := h1 (D 3 c) a2
        have hskip : okf D z t c = false ∨ 60 < E (D 2 c) → CPL pl ch D (okf D z t) (Hf D (okf D z t) ch) k (c + 1) (fun p x => E p ≤ x) := fun h => h3.step hpd hcc (fun _ _ h => h) (fun h9 y hy hy2 => by
          rcases h with h | h
          · rw [h] at h9; exact absurd h9 Bool.false_ne_true
          · omega)
        have hno : x_X10_layComes_b51_k121 N (va_up M 32 f) (nI t) (nI z) x3 x4 x5 (nI c) (nI (D 2 c)) (nI (D 3 c)) = some (.inl (nI (c + 1), upd f (D 3 c) (nI (E (D 3 c))))) := by
          unfold x_X10_layComes_b51_k121 x_X10_layComes_b51_k122 x_X10_layComes_b51_k153 x_X10_layComes_b51_k185
          rw [if_pos rfl, cl (show D 3 c < 2 ^ 31 by omega), if_neg (i2 _ (by omega)), if_neg (i2 _ (by omega)), if_neg (i2 _ (by omega)), t32, b3, if_pos (show nI (E (D 3 c)) ≤ 99 from nI_le (b := 99) b4 (by omega)), e8]
        unfold x_X10_layComes_b51
        rw [t17, if_neg (nleI hcc (by omega))]
        simp only [xl, t19, t32, e1, e2, e3, cl (show 3 * c < 2 ^ 31 by omega), cl (show 3 * c + 1 < 2 ^ 31 by omega), if_neg (i30 (3 * c) (by omega)), if_neg (i30 (3 * c + 1) (by omega)), a7, a9, has_10, has_eq (show z < 2 ^ 31 by omega) (show c < 32 by omega), Option.bind_some, s_l10 t (by omega), ego, cl (show D 2 c < 2 ^ 31 by omega), if_neg (i2 (D 2 c) (by omega)), b1, hno]
        by_cases h60 : 60 < E (D 2 c)
        · rw [if_pos (show (60 : Int32) < nI (E (D 2 c)) from nI_lt (a := 60) h60 (by omega))]
          exact ⟨_, rfl, by omega, rfl, E, h1.same a2, h2, hskip (Or.inr h60)⟩
        · rw [if_neg (show ¬ (60 : Int32) < nI (E (D 2 c)) from nI_nlt (b := 60) (a := E (D 2 c)) |> fun _ => fun h => h60 ((nI_ltI (a := 60) (by omega) (by omega)).mp h))]
          by_cases hbit : z.testBit c = true
          · rw [if_pos hbit, if_neg z10]
            exact ⟨_, rfl, by omega, rfl, E, h1.same a2, h2, hskip (Or.inl (okf_f (Or.inl hbit)))⟩
          · rw [if_neg hbit, if_pos rfl]
            by_cases hgo : goS (D 0 (D 2 c)) (2 ^ t) = 0
            · rw [if_pos (show nI (goS (D 0 (D 2 c)) (2 ^ t)) = 0 by rw [hgo]; rfl)]
              exact ⟨_, rfl, by omega, rfl, E, h1.same a2, h2, hskip (Or.inl (okf_f (Or.inr hgo)))⟩
            · rw [if_neg (show ¬ nI (goS (D 0 (D 2 c)) (2 ^ t)) = 0 from fun h => hgo (nI_inj (b := 0) (by omega) (by omega) h))]
              have hok := okf_t hbit hgo
              have hE : EA pl (upd f (D 3 c) (nI (min (E (D 3 c)) (E (D 2 c) + D 4 c)))) (up1 E (D 3 c) (min (E (D 3 c)) (E (D 2 c) + D 4 c))) := h1.up _ (by omega)
              refine ⟨(nI (c + 1), upd f (D 3 c) (nI (min (E (D 3 c)) (E (D 2 c) + D 4 c)))), ?_, by omega, rfl, _, hE, fun p hp hx => ?_, h3.step hpd hcc (fun p x hx => ?_) (fun _ y hy hy2 => ?_)⟩
              · unfold x_X10_layComes_b51_k122 x_X10_layComes_b51_k153 x_X10_layComes_b51_k185
                rw [if_neg z10, e1, e3, t19, t32, cl (show D 2 c < 2 ^ 31 by omega), cl (show D 3 c < 2 ^ 31 by omega), cl (show 3 * c + 2 < 2 ^ 31 by omega), if_neg (i2 _ (by omega)), if_neg (i30 _ (by omega)), a11, b1, b3, nI_add, if_neg (i2 _ (by omega)), if_neg (i2 _ (by omega)), if_neg (i2 _ (by omega)), e8]
                by_cases hle : E (D 3 c) ≤ E (D 2 c) + D 4 c
                · rw [if_pos (nI_le hle (by omega)), Nat.min_eq_left hle]
                · rw [if_neg (nleI (by omega) (by omega)), if_neg (i2 _ (by omega)), Nat.min_eq_right (by omega)]
              · by_cases hq : p = D 3 c
                · rw [hq, up1_s] at hx ⊢
                  by_cases hle : E (D 3 c) ≤ E (D 2 c) + D 4 c
                  · rw [Nat.min_eq_left hle] at hx ⊢
                    exact h2 _ a2 hx
                  · rw [Nat.min_eq_right (by omega)] at hx ⊢
                    exact (Hf_iff hpd _ _ _).mpr ⟨hx, Or.inr ⟨c, hcc, hok, rfl, by omega, by rw [Nat.add_sub_cancel]; exact h2 _ a1 (by omega)⟩⟩
                · rw [up1_n hq] at hx ⊢
                  exact h2 p hp hx
              · show up1 E (D 3 c) _ p ≤ x
                by_cases hq : p = D 3 c
                · rw [hq, up1_s]; rw [hq] at hx; omega
                · rw [up1_n hq]; exact hx
              · show up1 E (D 3 c) _ (D 3 c) ≤ y + D 4 c
                rw [up1_s]
                omega) (N := N) (z := ((0 : Int32), f)) (by omega) ⟨rfl, E, hf, hs, hc⟩
  obtain ⟨E', w1, w2, w3⟩ := u2
  exact ⟨x, E', u1, w1, w2, w3⟩
theorem lc_comes {N pl ch z t : Nat} (hN : 4096 ≤ N) {D : Nat → Nat → Nat} {P M : St} {x3 x4 : Int32} {a : Nat → Int32} (hPR : PR pl ch D P (M 15 0) (M 16 0) (M 17 0) (M 18) (M 19)) (hz : z < 1024) (ht : t < 8) : ∃ (v r : Nat → Int32) (E : Nat → Nat), lpc (fun (q : Int32 × (Nat → Int32)) => x_X10_layComes_b3 N (va_up M 32 q.2) (nI t) (nI z) x3 x4 q.1) N ((0 : Int32), a) = some v ∧ lpc (fun (q : Int32 × (Nat → Int32)) => x_X10_layComes_b39 N (va_up M 32 q.2) (nI t) (nI z) x3 x4 q.1) N ((0 : Int32), v) = some r ∧ EA pl r E ∧ (∀ p, p < pl → E p ≤ 60 → (Hf D (okf D z t) ch p).testBit (E p) = true) ∧ (∀ p x, p < pl → (Hf D (okf D z t) ch p).testBit x = true → E p ≤ x) := by
  have hpd := hPR.pd
  have r1 := hPR.1
  have r5 := hPR.2.2.2.2.1
  obtain ⟨v, v1, v2⟩ := lpc_run (body := fun (q : Int32 × (Nat → Int32)) => x_X10_layComes_b3 N (va_up M 32 q.2) (nI t) (nI z) x3 x4 q.1) (I := fun k q => q.1 = nI k ∧ EA k q.2 (fun p => if p = 0 then 0 else 99)) (Pst := fun f => EA pl f (fun p => if p = 0 then 0 else 99)) pl (fun k q hk hI => by
    obtain ⟨q1, f⟩ := q
    obtain ⟨rfl, h1⟩ := hI
    dsimp only at h1
    show (∃ z', x_X10_layComes_b3 N (va_up M 32 f) (nI t) (nI z) x3 x4 (nI k) = _ ∧ _) ∨ (∃ x, x_X10_layComes_b3 N (va_up M 32 f) (nI t) (nI z) x3 x4 (nI k) = _ ∧ _)
    have t16 : (va_up M 32 f) 16 0 = nI pl := r5
    have t32 : (va_up M 32 f) 32 = f := rfl
    unfold x_X10_layComes_b3
    rw [t16]
    by_cases hk8 : k = pl
    · subst hk8
      right
      rw [if_pos (nI_le (Nat.le_refl _) (by omega))]
      exact ⟨_, rfl, h1⟩
    · left
      have e8 : nI k + (1 : Int32) = nI (k + 1) := by simp (disch := omega) only [li_0, li_1, li_2, li_3, li_4, li_5, li_6, li_7, li_8, li_9, li_10, li_11, li_15, li_16, li_20, li_30, li_32, li_48, li_57, li_58, li_59, li_60, li_61, li_63, li_64, li_80, li_85, li_88, li_99, li_100, li_112, li_115, li_152, li_162, li_172, li_173, li_174, li_240, li_255, li_348, li_1000, li_3306, nI_add]
      have i2 : ¬ (nI k < 0 ∨ 8 ≤ k) := by have := nI_in (c := k) (N := 8) (by omega) (by omega); rwa [cl (by omega)] at this
      rw [if_neg (nleI (show k < pl by omega) (by omega))]
      unfold x_X10_layComes_b3_k29
      rw [cl (by omega), if_neg i2, if_neg i2, e8, t32]
      have hE : ∀ v, v ≤ 99 → v = (if k = 0 then 0 else 99) → EA (k + 1) (upd f k (nI v)) (fun p => if p = 0 then 0 else 99) := fun v hv he p hp => by
        by_cases hpk : p = k
        · rw [hpk, pk_us]; exact ⟨congrArg nI he, by dsimp only; rw [← he]; exact hv⟩
        · rw [pk_un hpk]; exact h1 p (by omega)
      by_cases hk0 : k = 0
      · rw [if_pos (show nI k = 0 by rw [hk0]; rfl)]
        exact ⟨_, rfl, by omega, rfl, hE 0 (by omega) (by rw [if_pos hk0])⟩
      · rw [if_neg (show ¬ nI k = 0 from nI_ne0 (by omega) (by omega))]
        exact ⟨_, rfl, by omega, rfl, hE 99 (by omega) (by rw [if_neg hk0])⟩) (N := N) (z := ((0 : Int32), a)) (by omega) ⟨rfl, fun p hp => absurd hp (Nat.not_lt_zero p)⟩
  obtain ⟨r, w1, E, w2, w3, w4⟩ := lpc_run (body := fun (q : Int32 × (Nat → Int32)) => x_X10_layComes_b39 N (va_up M 32 q.2) (nI t) (nI z) x3 x4 q.1)
    (I := fun k q => q.1 = nI k ∧ ∃ E : Nat → Nat, EA pl q.2 E ∧ (∀ p, p < pl → E p ≤ 60 → (Hf D (okf D z t) ch p).testBit (E p) = true) ∧ CPL pl ch D (okf D z t) (Hf D (okf D z t) ch) k 0 (fun p x => E p ≤ x))
    (Pst := fun f => ∃ E : Nat → Nat, EA pl f E ∧ (∀ p, p < pl → E p ≤ 60 → (Hf D (okf D z t) ch p).testBit (E p) = true) ∧ CPL pl ch D (okf D z t) (Hf D (okf D z t) ch) pl 0 (fun p x => E p ≤ x)) pl (fun k q hk hI => by
      obtain ⟨q1, f⟩ := q
      obtain ⟨rfl, E, h1, h2, h3⟩ := hI
      dsimp only at h1
      show (∃ z', x_X10_layComes_b39 N (va_up M 32 f) (nI t) (nI z) x3 x4 (nI k) = _ ∧ _) ∨ (∃ x, x_X10_layComes_b39 N (va_up M 32 f) (nI t) (nI z) x3 x4 (nI k) = _ ∧ _)
      have t16 : (va_up M 32 f) 16 0 = nI pl := r5
      have t32 : (va_up M 32 f) 32 = f := rfl
      unfold x_X10_layComes_b39
      rw [t16]
      by_cases hk8 : k = pl
      · subst hk8
        right
        rw [if_pos (nI_le (Nat.le_refl _) (by omega))]
        exact ⟨_, rfl, E, h1, h2, h3⟩
      · left
        have e8 : nI k + (1 : Int32) = nI (k + 1) := by simp (disch := omega) only [li_0, li_1, li_2, li_3, li_4, li_5, li_6, li_7, li_8, li_9, li_10, li_11, li_15, li_16, li_20, li_30, li_32, li_48, li_57, li_58, li_59, li_60, li_61, li_63, li_64, li_80, li_85, li_88, li_99, li_100, li_112, li_115, li_152, li_162, li_172, li_173, li_174, li_240, li_255, li_348, li_1000, li_3306, nI_add]
        obtain ⟨f', E', y1, y2, y3, y4⟩ := lc_inner hN (M := M) (x3 := x3) (x4 := x4) (x5 := nI k) hPR hz ht h1 h2 h3
        have y1' : lpc (fun (q : Int32 × (Nat → Int32)) => x_X10_layComes_b51 N (va_up (va_up M 32 f) 32 q.2) (nI t) (nI z) x3 x4 (nI k) q.1) N ((0 : Int32), (va_up M 32 f) 32) = some f' := by
          rw [← y1]
          refine congrArg (fun b => lpc b N ((0 : Int32), f)) (funext fun q => ?_)
          rw [va_up2]
        rw [if_neg (nleI (show k < pl by omega) (by omega)), y1', e8]
        exact ⟨_, rfl, by omega, rfl, E', y2, y3, y4.round hpd⟩) (N := N) (z := ((0 : Int32), v)) (by omega) ⟨rfl, _, v2, fun p hp hx => by
        by_cases hp0 : p = 0
        · subst hp0
          exact (Hf_iff hpd _ 0 0).mpr ⟨by omega, Or.inl ⟨rfl, rfl⟩⟩
        · rw [if_neg hp0] at hx; omega, CPL.init (Nat.le_refl 0)⟩
  exact ⟨v, r, E, v1, w1, w2, w3, fun p x hp hx => w4.1 p x hp (rk_pl hp) hx⟩
/-- the crack that the reference takes for a channel -/
def CX (pl ch : Nat) (M : St) (x3 x4 : Int32) (cr : Nat → Nat) : Prop :=
  (x3 = -1 ∧ ∀ c, c < ch → (cr c < pl ∧ M 20 (162 + c) = nI (cr c)) ∨ (cr c = 9 ∧ M 20 (162 + c) = -1)) ∨ (∃ k to, k ≤ 10 ∧ to < pl ∧ x3 = nI k ∧ x4 = nI to ∧ ∀ c, c < ch → cr c = if c = k then to else 9)
theorem crack_step {N pl ch z t c : Nat} {D : Nat → Nat → Nat} {P M : St} {x3 x4 q : Int32} {qn : Nat} (hPR : PR pl ch D P (M 15 0) (M 16 0) (M 17 0) (M 18) (M 19)) (hz : z < 1024) (ht : t < 8) (hc : c < ch) {E hv : Nat → Nat} (h32 : EA pl (M 32) E) (h33 : EA pl (M 33) hv) (hq : (qn < pl ∧ q = nI qn) ∨ (qn = 9 ∧ q = -1)) : ∃ (f' : Nat → Int32) (hv' : Nat → Nat), x_X10_layComes_b250_k301 N M (nI t) (nI z) x3 x4 (nI c) (nI (D 2 c)) q = some (.inl (nI (c + 1), f')) ∧ EA pl f' hv' ∧ ((okf D z t c = true ∧ qn < pl ∧ E (D 2 c) ≤ 60 ∧ hv' = up1 hv qn (min (hv qn) (E (D 2 c)))) ∨ (hv' = hv ∧ (okf D z t c = true → qn < pl → E (D 2 c) ≤ 60 → False))) := by
  have hPR0 := hPR
  obtain ⟨r1, r2, r3, r4, r5, r6, r7, r8, r9, r10, r11, r12⟩ := hPR
  obtain ⟨a1, a2, a3, a4, a5, a6, a7, a8, a9, a10, a11⟩ := r9 c hc
  have e8 : nI c + (1 : Int32) = nI (c + 1) := by simp (disch := omega) only [li_0, li_1, li_2, li_3, li_4, li_5, li_6, li_7, li_8, li_9, li_10, li_11, li_15, li_16, li_20, li_30, li_32, li_48, li_57, li_58, li_59, li_60, li_61, li_63, li_64, li_80, li_85, li_88, li_99, li_100, li_112, li_115, li_152, li_162, li_172, li_173, li_174, li_240, li_255, li_348, li_1000, li_3306, nI_add]
  have i2 : ∀ j, j < 8 → ¬ (nI j < 0 ∨ 8 ≤ j) := fun j hj => by have := nI_in (c := j) (N := 8) hj (by omega); rwa [cl (by omega)] at this
  have ego := (goes_val hPR0 (p := D 2 c) (s := 2 ^ t) a1).2
  have h2t : 2 ^ t < 2 ^ 30 := Nat.pow_lt_pow_right (by omega) (by omega)
  have hgl := go_lt (D 0 (D 2 c)) h2t
  obtain ⟨b1, b2⟩ := h32 (D 2 c) a1
  have hno : x_X10_layComes_b250_k340 N M (nI t) (nI z) x3 x4 (nI c) (nI (D 2 c)) q = some (.inl (nI (c + 1), M 33)) := by
    unfold x_X10_layComes_b250_k340 x_X10_layComes_b250_k341
    rw [if_pos rfl, e8]
    split <;> rfl
  unfold x_X10_layComes_b250_k301
  rw [cl (show D 2 c < 2 ^ 31 by omega), if_neg (i2 _ (by omega)), b1, hno]
  simp only [has_10, has_eq (show z < 2 ^ 31 by omega) (show c < 32 by omega), Option.bind_some, s_l10 t (by omega), ego]
  by_cases h60 : 60 < E (D 2 c)
  · rw [if_pos (show (60 : Int32) < nI (E (D 2 c)) from nI_lt (a := 60) h60 (by omega))]
    exact ⟨_, hv, rfl, h33, Or.inr ⟨rfl, fun _ _ h => by omega⟩⟩
  · rw [if_neg (show ¬ (60 : Int32) < nI (E (D 2 c)) from fun h => h60 ((nI_ltI (a := 60) (by omega) (by omega)).mp h))]
    by_cases hbit : z.testBit c = true
    · rw [if_pos hbit, if_neg z10]
      exact ⟨_, hv, rfl, h33, Or.inr ⟨rfl, fun h _ _ => (okf_c h).1 hbit⟩⟩
    · rw [if_neg hbit, if_pos rfl]
      by_cases hgo : goS (D 0 (D 2 c)) (2 ^ t) = 0
      · rw [if_pos (show nI (goS (D 0 (D 2 c)) (2 ^ t)) = 0 by rw [hgo]; rfl)]
        exact ⟨_, hv, rfl, h33, Or.inr ⟨rfl, fun h _ _ => (okf_c h).2 hgo⟩⟩
      · rw [if_neg (show ¬ nI (goS (D 0 (D 2 c)) (2 ^ t)) = 0 from fun h => hgo (nI_inj (b := 0) (by omega) (by omega) h))]
        have hok := okf_t hbit hgo
        unfold x_X10_layComes_b250_k341
        rcases hq with ⟨q1, q2⟩ | ⟨q1, q2⟩
        · obtain ⟨b3, b4⟩ := h33 qn q1
          rw [q2, if_neg (nI_ne_m1 (by omega)), if_neg z10, cl (show D 2 c < 2 ^ 31 by omega), cl (show qn < 2 ^ 31 by omega), if_neg (i2 _ (by omega)), if_neg (i2 _ (by omega)), if_neg (i2 _ (by omega)), if_neg (i2 _ (by omega)), b1, b3, e8]
          by_cases hle : hv qn ≤ E (D 2 c)
          · rw [if_pos (nI_le hle (by omega))]
            refine ⟨_, _, rfl, ?_, Or.inl ⟨hok, q1, by omega, rfl⟩⟩
            rw [Nat.min_eq_left hle]
            intro p hp
            by_cases hpq : p = qn
            · rw [hpq, up1_s]; exact ⟨b3, b4⟩
            · rw [up1_n hpq]; exact h33 p hp
          · rw [if_neg (nleI (by omega) (by omega))]
            refine ⟨_, _, rfl, ?_, Or.inl ⟨hok, q1, by omega, rfl⟩⟩
            rw [Nat.min_eq_right (by omega)]
            exact h33.up _ b2
        · rw [q2, if_pos rfl, e8]
          exact ⟨_, hv, rfl, h33, Or.inr ⟨rfl, fun _ h _ => by omega⟩⟩
def HV (pl ch : Nat) (D : Nat → Nat → Nat) (ok : Nat → Bool) (cr : Nat → Nat) (H : Nat → Nat) (c : Nat) (hv : Nat → Nat) : Prop :=
  ∀ p, p < pl → (hv p = 99 ∨ (hv p ≤ 60 ∧ ((H p).testBit (hv p) = true ∨ ∃ c', c' < c ∧ c' < ch ∧ ok c' = true ∧ cr c' = p ∧ (H (D 2 c')).testBit (hv p) = true))) ∧ (∀ x, (H p).testBit x = true → hv p ≤ x) ∧ (∀ c' x, c' < c → c' < ch → ok c' = true → cr c' = p → (H (D 2 c')).testBit x = true → hv p ≤ x)
theorem HV.step {pl ch : Nat} {D : Nat → Nat → Nat} {ok : Nat → Bool} {cr : Nat → Nat} {H : Nat → Nat} {c : Nat} {hv hv' E : Nat → Nat} (g : HV pl ch D ok cr H c hv) (hc : c < ch) (ha : D 2 c < pl) (hE1 : ∀ p, p < pl → E p ≤ 60 → (H p).testBit (E p) = true) (hE2 : ∀ p x, p < pl → (H p).testBit x = true → E p ≤ x) (hH : ∀ p x, (H p).testBit x = true → x ≤ 60) (hs : (ok c = true ∧ cr c < pl ∧ E (D 2 c) ≤ 60 ∧ hv' = up1 hv (cr c) (min (hv (cr c)) (E (D 2 c)))) ∨ (hv' = hv ∧ (ok c = true → cr c < pl → E (D 2 c) ≤ 60 → False))) : HV pl ch D ok cr H (c + 1) hv' := by
  intro p hp
  obtain ⟨g1, g2, g3⟩ := g p hp
  rcases hs with ⟨s1, s2, s3, s4⟩ | ⟨s1, s2⟩
  · subst s4
    by_cases hq : p = cr c
    · rw [hq, up1_s]
      rw [hq] at g1 g2 g3
      refine ⟨?_, fun x hx => by have := g2 x hx; omega, fun c' x h1 h2 h3 h4 h5 => ?_⟩
      · by_cases hle : hv (cr c) ≤ E (D 2 c)
        · rw [Nat.min_eq_left hle]
          rcases g1 with g1 | ⟨g1, g4 | ⟨c', k1, k2⟩⟩
          · omega
          · exact Or.inr ⟨g1, Or.inl g4⟩
          · exact Or.inr ⟨g1, Or.inr ⟨c', by omega, k2⟩⟩
        · rw [Nat.min_eq_right (by omega)]
          exact Or.inr ⟨s3, Or.inr ⟨c, by omega, hc, s1, rfl, hE1 _ ha s3⟩⟩
      · by_cases hcc : c' = c
        · subst hcc
          have := hE2 _ x ha h5
          omega
        · have := g3 c' x (by omega) h2 h3 h4 h5
          omega
    · rw [up1_n hq]
      refine ⟨?_, g2, fun c' x h1 h2 h3 h4 h5 => ?_⟩
      · rcases g1 with g1 | ⟨g1, g4 | ⟨c', k1, k2⟩⟩
        · exact Or.inl g1
        · exact Or.inr ⟨g1, Or.inl g4⟩
        · exact Or.inr ⟨g1, Or.inr ⟨c', by omega, k2⟩⟩
      · by_cases hcc : c' = c
        · subst hcc; exact absurd h4.symm hq
        · exact g3 c' x (by omega) h2 h3 h4 h5
  · subst s1
    refine ⟨?_, g2, fun c' x h1 h2 h3 h4 h5 => ?_⟩
    · rcases g1 with g1 | ⟨g1, g4 | ⟨c', k1, k2⟩⟩
      · exact Or.inl g1
      · exact Or.inr ⟨g1, Or.inl g4⟩
      · exact Or.inr ⟨g1, Or.inr ⟨c', by omega, k2⟩⟩
    · by_cases hcc : c' = c
      · subst hcc
        have h6 := hE2 _ x ha h5
        have h7 := hH _ x h5
        exact (s2 h3 (by omega) (by omega)).elim
      · exact g3 c' x (by omega) h2 h3 h4 h5
theorem layComes_val {N pl ch z t : Nat} (hN : 4096 ≤ N) {D : Nat → Nat → Nat} {P M : St} {x3 x4 : Int32} {cr : Nat → Nat} (hPR : PR pl ch D P (M 15 0) (M 16 0) (M 17 0) (M 18) (M 19)) (hz : z < 1024) (ht : t < 8) (hx : CX pl ch M x3 x4 cr) : ∃ w w', x_X10_layComes N M (nI t) (nI z) x3 x4 = some (w, w') ∧ ∀ p, p < pl → w' p = nI (fh (Hf D (okf D z t) ch p ||| Gf D (okf D z t) cr ch p)) := by
  have hpd := hPR.pd
  have r1 := hPR.1
  have r2 := hPR.2.1
  have r5 := hPR.2.2.2.2.1
  have r7 := hPR.2.2.2.2.2.2.1
  have r9 := hPR.2.2.2.2.2.2.2.2.1
  have hH60 : ∀ p x, (Hf D (okf D z t) ch p).testBit x = true → x ≤ 60 := fun p x h => ((Hf_iff hpd _ p x).mp h).1
  obtain ⟨v, r, E, v1, w1, w2, w3, w4⟩ := lc_comes hN (M := M) (x3 := x3) (x4 := x4) (a := M 32) hPR hz ht
  obtain ⟨s, s1, s2⟩ := lpc_run (body := fun (q : Int32 × (Nat → Int32)) => x_X10_layComes_b201 N (va_up (va_up M 32 r) 33 q.2) (nI t) (nI z) x3 x4 q.1) (I := fun k q => q.1 = nI k ∧ EA k q.2 (fun p => if 60 < E p then 99 else E p)) (Pst := fun f => EA pl f (fun p => if 60 < E p then 99 else E p)) pl (fun k q hk hI => by
    obtain ⟨q1, f⟩ := q
    obtain ⟨rfl, h1⟩ := hI
    dsimp only at h1
    show (∃ z', x_X10_layComes_b201 N (va_up (va_up M 32 r) 33 f) (nI t) (nI z) x3 x4 (nI k) = _ ∧ _) ∨ (∃ x, x_X10_layComes_b201 N (va_up (va_up M 32 r) 33 f) (nI t) (nI z) x3 x4 (nI k) = _ ∧ _)
    have t16 : (va_up (va_up M 32 r) 33 f) 16 0 = nI pl := r5
    have t32 : (va_up (va_up M 32 r) 33 f) 32 = r := rfl
    have t33 : (va_up (va_up M 32 r) 33 f) 33 = f := rfl
    unfold x_X10_layComes_b201
    rw [t16]
    by_cases hk8 : k = pl
    · subst hk8
      right
      rw [if_pos (nI_le (Nat.le_refl _) (by omega))]
      exact ⟨_, rfl, h1⟩
    · left
      have e8 : nI k + (1 : Int32) = nI (k + 1) := by simp (disch := omega) only [li_0, li_1, li_2, li_3, li_4, li_5, li_6, li_7, li_8, li_9, li_10, li_11, li_15, li_16, li_20, li_30, li_32, li_48, li_57, li_58, li_59, li_60, li_61, li_63, li_64, li_80, li_85, li_88, li_99, li_100, li_112, li_115, li_152, li_162, li_172, li_173, li_174, li_240, li_255, li_348, li_1000, li_3306, nI_add]
      have i2 : ¬ (nI k < 0 ∨ 8 ≤ k) := by have := nI_in (c := k) (N := 8) (by omega) (by omega); rwa [cl (by omega)] at this
      obtain ⟨b1, b2⟩ := w2 k (by omega)
      rw [if_neg (nleI (show k < pl by omega) (by omega))]
      unfold x_X10_layComes_b201_k240
      rw [cl (by omega), if_neg i2, if_neg i2, if_neg i2, e8, t32, t33, b1]
      have hE : ∀ v, v ≤ 99 → v = (if 60 < E k then 99 else E k) → EA (k + 1) (upd f k (nI v)) (fun p => if 60 < E p then 99 else E p) := fun v hv he p hp => by
        by_cases hpk : p = k
        · rw [hpk, pk_us]; exact ⟨congrArg nI he, by dsimp only; rw [← he]; exact hv⟩
        · rw [pk_un hpk]; exact h1 p (by omega)
      by_cases hk0 : 60 < E k
      · rw [if_pos (show (60 : Int32) < nI (E k) from nI_lt (a := 60) hk0 (by omega))]
        exact ⟨_, rfl, by omega, rfl, hE 99 (by omega) (by rw [if_pos hk0])⟩
      · rw [if_neg (show ¬ (60 : Int32) < nI (E k) from fun h => hk0 ((nI_ltI (a := 60) (by omega) (by omega)).mp h)), if_neg i2]
        exact ⟨_, rfl, by omega, rfl, hE (E k) b2 (by rw [if_neg hk0])⟩) (N := N) (z := ((0 : Int32), M 33)) (by omega) ⟨rfl, fun p hp => absurd hp (Nat.not_lt_zero p)⟩
  obtain ⟨y, y1, hv, y2, y3⟩ := lpc_run (body := fun (q : Int32 × (Nat → Int32)) => x_X10_layComes_b250 N (va_up (va_up M 32 r) 33 q.2) (nI t) (nI z) x3 x4 q.1) (I := fun c q => q.1 = nI c ∧ ∃ hv : Nat → Nat, EA pl q.2 hv ∧ HV pl ch D (okf D z t) cr (Hf D (okf D z t) ch) c hv) (Pst := fun f => ∃ hv : Nat → Nat, EA pl f hv ∧ HV pl ch D (okf D z t) cr (Hf D (okf D z t) ch) ch hv) ch (fun c q hk hI => by
    obtain ⟨q1, f⟩ := q
    obtain ⟨rfl, hv, h1, h2⟩ := hI
    dsimp only at h1
    show (∃ z', x_X10_layComes_b250 N (va_up (va_up M 32 r) 33 f) (nI t) (nI z) x3 x4 (nI c) = _ ∧ _) ∨ (∃ x, x_X10_layComes_b250 N (va_up (va_up M 32 r) 33 f) (nI t) (nI z) x3 x4 (nI c) = _ ∧ _)
    have t17 : (va_up (va_up M 32 r) 33 f) 17 0 = nI ch := r7
    have t19 : (va_up (va_up M 32 r) 33 f) 19 = M 19 := rfl
    have t20 : (va_up (va_up M 32 r) 33 f) 20 = M 20 := rfl
    unfold x_X10_layComes_b250
    rw [t17]
    by_cases hk8 : c = ch
    · subst hk8
      right
      rw [if_pos (nI_le (Nat.le_refl _) (by omega))]
      exact ⟨_, rfl, hv, h1, h2⟩
    · left
      have hcc : c < ch := by omega
      obtain ⟨a1, a2, a3, a4, a5, a6, a7, a8, a9, a10, a11⟩ := r9 c hcc
      obtain ⟨e1, _, _⟩ := chan3 c
      have i30 : ¬ (nI (3 * c) < 0 ∨ 30 ≤ 3 * c) := by have := nI_in (c := 3 * c) (N := 30) (by omega) (by omega); rwa [cl (by omega)] at this
      have i174 : ¬ (nI (162 + c) < 0 ∨ 174 ≤ 162 + c) := by have := nI_in (c := 162 + c) (N := 174) (by omega) (by omega); rwa [cl (by omega)] at this
      have e162 : (162 : Int32) + nI c = nI (162 + c) := nI_add 162 c
      rw [if_neg (nleI hcc (by omega)), e1, e162, cl (by omega), cl (by omega), if_neg i30, t19, t20, a7]
      unfold xl
      dsimp only
      rw [if_neg i174]
      have fin : ∀ q : Int32, ((cr c < pl ∧ q = nI (cr c)) ∨ (cr c = 9 ∧ q = -1)) → ∃ z', x_X10_layComes_b250_k301 N (va_up (va_up M 32 r) 33 f) (nI t) (nI z) x3 x4 (nI c) (nI (D 2 c)) q = some (.inl z') ∧ c < ch ∧ z'.1 = nI (c + 1) ∧ ∃ hv : Nat → Nat, EA pl z'.2 hv ∧ HV pl ch D (okf D z t) cr (Hf D (okf D z t) ch) (c + 1) hv := fun q hq => by
        obtain ⟨f', hv', k1, k2, k3⟩ := crack_step (N := N) (M := va_up (va_up M 32 r) 33 f) (x3 := x3) (x4 := x4) hPR hz ht hcc (E := E) (hv := hv) w2 h1 hq
        exact ⟨_, k1, hcc, rfl, hv', k2, h2.step hcc a1 w3 w4 hH60 k3⟩
      rcases hx with ⟨hx1, hx2⟩ | ⟨k, to, k1, k2, k3, k4, k5⟩
      · rw [if_pos hx1]
        exact fin _ (hx2 c hcc)
      · rw [if_neg (show ¬ x3 = -1 by rw [k3]; exact nI_ne_m1 (by omega))]
        have k6 := k5 c hcc
        by_cases hck : c = k
        · rw [if_pos hck] at k6
          rw [if_pos (show x3 = nI c by rw [k3, hck])]
          exact fin _ (Or.inl ⟨by omega, by rw [k6]; exact k4⟩)
        · rw [if_neg hck] at k6
          rw [if_neg (show ¬ x3 = nI c by rw [k3]; intro h9; exact hck (nI_inj (by omega) (by omega) h9).symm)]
          exact fin _ (Or.inr ⟨k6, rfl⟩)) (N := N) (z := ((0 : Int32), s)) (by omega) ⟨rfl, _, s2, fun p hp => ⟨by
      by_cases h : 60 < E p
      · rw [if_pos h]; exact Or.inl rfl
      · rw [if_neg h]; exact Or.inr ⟨by omega, Or.inl (w3 p hp (by omega))⟩, fun x hx => by
      have h1 := w4 p x hp hx
      have h2 := hH60 p x hx
      rw [if_neg (by omega)]; exact h1, fun c' x h1 => absurd h1 (Nat.not_lt_zero c')⟩⟩
  refine ⟨r, y, ?_, fun p hp => ?_⟩
  · unfold x_X10_layComes
    rw [v1]
    simp only [Option.bind_some]
    rw [w1]
    simp only [Option.bind_some]
    rw [s1]
    simp only [Option.bind_some]
    rw [y1]
    rfl
  · rw [(y2 p hp).1]
    refine congrArg nI (fh_eq ?_).symm
    obtain ⟨g1, g2, g3⟩ := y3 p hp
    have hall : ∀ x, (Hf D (okf D z t) ch p ||| Gf D (okf D z t) cr ch p).testBit x = true → hv p ≤ x ∧ x ≤ 60 := fun x hx => by
      rw [Nat.testBit_or, Bool.or_eq_true] at hx
      rcases hx with hx | hx
      · exact ⟨g2 x hx, hH60 _ _ hx⟩
      · obtain ⟨c, c1, c2, c3, c4⟩ := (Gf_iff hpd _ _ _ _).mp hx
        exact ⟨g3 c x c1 c1 c2 c3 c4, hH60 _ _ c4⟩
    rcases g1 with g1 | ⟨g1, g4⟩
    · refine Or.inl ⟨Nat.eq_of_testBit_eq (fun x => ?_), g1⟩
      rw [Nat.zero_testBit]
      cases hh : (Hf D (okf D z t) ch p ||| Gf D (okf D z t) cr ch p).testBit x
      · rfl
      · have := hall x hh; omega
    · refine Or.inr ⟨g1, ?_, fun j hj => ?_⟩
      · rw [Nat.testBit_or, Bool.or_eq_true]
        rcases g4 with g4 | ⟨c, c1, c2, c3, c4, c5⟩
        · exact Or.inl g4
        · exact Or.inr ((Gf_iff hpd _ _ _ _).mpr ⟨c, c2, c3, c4, c5⟩)
      · cases hh : (Hf D (okf D z t) ch p ||| Gf D (okf D z t) cr ch p).testBit j
        · rfl
        · have := hall j hh; omega
