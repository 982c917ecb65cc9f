/-! the hours at which a saying comes -/
def HS (D : Nat → Nat → Nat) (ok dn : Nat → Bool) (ch : Nat) (H : Nat → Nat) : Prop := ∀ p x, (H p).testBit x = true ↔ x ≤ 60 ∧ ((p = 0 ∧ x = 0) ∨ ∃ c, c < ch ∧ dn c = true ∧ ok c = true ∧ D 3 c = p ∧ D 4 c ≤ x ∧ (H (D 2 c)).testBit (x - D 4 c) = true)
/-- a set of hours, later by h -/
def shf (a h : Nat) : Nat := (a <<< h) % 2 ^ 61
theorem shf_bit (a h x : Nat) : (shf a h).testBit x = true ↔ x ≤ 60 ∧ h ≤ x ∧ a.testBit (x - h) = true := by
  unfold shf
  rw [Nat.testBit_mod_two_pow, Nat.testBit_shiftLeft, Bool.and_eq_true, Bool.and_eq_true, decide_eq_true_eq, decide_eq_true_eq]
  constructor
  · rintro ⟨h1, h2, h3⟩; exact ⟨by omega, h2, h3⟩
  · rintro ⟨h1, h2, h3⟩; exact ⟨by omega, h2, h3⟩
theorem shf_lt (a h : Nat) : shf a h < 2 ^ 61 := Nat.mod_lt _ (by omega)
theorem HS.lt {D : Nat → Nat → Nat} {ok dn : Nat → Bool} {ch : Nat} {H : Nat → Nat} (g : HS D ok dn ch H) (p : Nat) : H p < 2 ^ 61 := by
  apply Nat.lt_pow_two_of_testBit
  intro i hi
  cases h : (H p).testBit i
  · rfl
  · have := ((g p i).mp h).1
    omega
theorem HS.skip {D : Nat → Nat → Nat} {ok dn : Nat → Bool} {ch c : Nat} {H : Nat → Nat} (g : HS D ok dn ch H) (hs : ok c = false ∨ H (D 2 c) = 0) : HS D ok (mk1 dn c) ch H := fun p x => by
  rw [g p x]
  constructor
  · rintro ⟨h1, h | ⟨y, y1, y2, y3⟩⟩
    · exact ⟨h1, Or.inl h⟩
    · refine ⟨h1, Or.inr ⟨y, y1, ?_, y3⟩⟩
      unfold mk1
      rw [y2, Bool.true_or]
  · rintro ⟨h1, h | ⟨y, y1, y2, y3, y4, y5, y6⟩⟩
    · exact ⟨h1, Or.inl h⟩
    · by_cases hy : y = c
      · subst hy
        rcases hs with hs | hs
        · rw [hs] at y3; exact absurd y3 Bool.false_ne_true
        · rw [hs, Nat.zero_testBit] at y6; exact absurd y6 Bool.false_ne_true
      · rw [mk1_n hy] at y2
        exact ⟨h1, Or.inr ⟨y, y1, y2, y3, y4, y5, y6⟩⟩
theorem HS.step {D : Nat → Nat → Nat} {ok dn : Nat → Bool} {ch c : Nat} {H : Nat → Nat} (g : HS D ok dn ch H) (hc : c < ch) (hok : ok c = true) (hlv : D 1 (D 3 c) < D 1 (D 2 c)) (hord : ∀ x, dn x = true → D 1 (D 2 c) ≤ D 1 (D 2 x)) : HS D ok (mk1 dn c) ch (up1 H (D 3 c) (H (D 3 c) ||| shf (H (D 2 c)) (D 4 c))) := by
  have hne : ∀ x, mk1 dn c x = true → ¬ D 2 x = D 3 c := by
    intro x hx h
    by_cases hxc : x = c
    · subst hxc; rw [h] at hlv; exact absurd hlv (Nat.lt_irrefl _)
    · rw [mk1_n hxc] at hx
      have := hord x hx
      rw [h] at this
      omega
  have hcs := hne c (mk1_c dn c)
  have key : ∀ p x, (∃ y, y < ch ∧ mk1 dn c y = true ∧ ok y = true ∧ D 3 y = p ∧ D 4 y ≤ x ∧ (up1 H (D 3 c) (H (D 3 c) ||| shf (H (D 2 c)) (D 4 c)) (D 2 y)).testBit (x - D 4 y) = true) ↔ ((∃ y, y < ch ∧ dn y = true ∧ ok y = true ∧ D 3 y = p ∧ D 4 y ≤ x ∧ (H (D 2 y)).testBit (x - D 4 y) = true) ∨ (D 3 c = p ∧ D 4 c ≤ x ∧ (H (D 2 c)).testBit (x - D 4 c) = true)) := fun p x => by
    constructor
    · rintro ⟨y, y1, y2, y3, y4, y5, y6⟩
      rw [up1_n (hne y y2)] at y6
      by_cases hy : y = c
      · subst hy; exact Or.inr ⟨y4, y5, y6⟩
      · rw [mk1_n hy] at y2
        exact Or.inl ⟨y, y1, y2, y3, y4, y5, y6⟩
    · rintro (⟨y, y1, y2, y3, y4, y5, y6⟩ | ⟨y4, y5, y6⟩)
      · have y2' : mk1 dn c y = true := by unfold mk1; rw [y2, Bool.true_or]
        exact ⟨y, y1, y2', y3, y4, y5, by rw [up1_n (hne y y2')]; exact y6⟩
      · exact ⟨c, hc, mk1_c dn c, hok, y4, y5, by rw [up1_n hcs]; exact y6⟩
  intro p x
  rw [key p x]
  by_cases hp : p = D 3 c
  · subst hp
    rw [up1_s, Nat.testBit_or, Bool.or_eq_true, g (D 3 c) x, shf_bit]
    constructor
    · rintro (⟨h1, h | h⟩ | ⟨h1, h2, h3⟩)
      · exact ⟨h1, Or.inl h⟩
      · exact ⟨h1, Or.inr (Or.inl h)⟩
      · exact ⟨h1, Or.inr (Or.inr ⟨rfl, h2, h3⟩)⟩
    · rintro ⟨h1, h | h | ⟨_, h2, h3⟩⟩
      · exact Or.inl ⟨h1, Or.inl h⟩
      · exact Or.inl ⟨h1, Or.inr h⟩
      · exact Or.inr ⟨h1, h2, h3⟩
  · rw [up1_n hp, g p x]
    constructor
    · rintro ⟨h1, h | h⟩
      · exact ⟨h1, Or.inl h⟩
      · exact ⟨h1, Or.inr (Or.inl h)⟩
    · rintro ⟨h1, h | h | ⟨h2, _⟩⟩
      · exact ⟨h1, Or.inl h⟩
      · exact ⟨h1, Or.inr h⟩
      · exact absurd h2.symm hp
theorem HS.zero (D : Nat → Nat → Nat) (ok : Nat → Bool) (ch : Nat) : HS D ok (fun _ => false) ch b0 := fun p x => by
  constructor
  · intro h
    by_cases hp : p = 0
    · subst hp
      have : (1 : Nat).testBit x = true := h
      rw [Nat.testBit_one_eq_true_iff_self_eq_zero] at this
      exact ⟨by omega, Or.inl ⟨rfl, this⟩⟩
    · rw [show b0 p = 0 from if_neg hp, Nat.zero_testBit] at h
      exact absurd h Bool.false_ne_true
  · rintro ⟨_, ⟨rfl, rfl⟩ | ⟨y, _, y2, _⟩⟩
    · rfl
    · exact absurd y2 Bool.false_ne_true
/-- longs -/
theorem lN_or (a b : Nat) : lN a ||| lN b = lN (a ||| b) := by
  apply Int64.toBitVec_inj.mp
  simp [lN, Int64.toBitVec_or, BitVec.ofNat_or]
theorem lN_and (a b : Nat) : lN a &&& lN b = lN (a &&& b) := by
  apply Int64.toBitVec_inj.mp
  simp [lN, Int64.toBitVec_and, BitVec.ofNat_and]
theorem s_l64 : ∀ n, n < 64 → (lN n &&& 63).toBitVec.smod 64 = BitVec.ofNat 64 n := by decide +kernel
theorem lN_shl (a : Nat) {h : Nat} (hh : h < 64) : lN a <<< (lN h &&& 63) = lN (a <<< h) := by
  apply Int64.toBitVec_inj.mp
  rw [Int64.toBitVec_shiftLeft, s_l64 h hh]
  apply BitVec.eq_of_toNat_eq
  simp [lN, BitVec.toNat_shiftLeft, Nat.shiftLeft_eq, Nat.mod_eq_of_lt (show h < 18446744073709551616 by omega)]
theorem lN_shf (a : Nat) {h : Nat} (hh : h < 64) : (lN a <<< ((nI h).toInt64 &&& 63)) &&& (2305843009213693951 : Int64) = lN (shf a h) := by
  rw [nI_l (by omega), lN_shl a hh, show (2305843009213693951 : Int64) = lN (2 ^ 61 - 1) from rfl, lN_and, Nat.and_two_pow_sub_one_eq_mod]
  rfl
