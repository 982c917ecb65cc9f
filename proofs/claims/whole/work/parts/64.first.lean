/-! the least bit -/
def FH (a h : Nat) : Prop := (a = 0 ∧ h = 99) ∨ (h ≤ 60 ∧ a.testBit h = true ∧ ∀ j, j < h → a.testBit j = false)
theorem FH.uniq {a h k : Nat} (g1 : FH a h) (g2 : FH a k) : h = k := by
  rcases g1 with ⟨h1, h2⟩ | ⟨h1, h2, h3⟩
  · rcases g2 with ⟨k1, k2⟩ | ⟨k1, k2, k3⟩
    · omega
    · rw [h1, Nat.zero_testBit] at k2; exact absurd k2 Bool.false_ne_true
  · rcases g2 with ⟨k1, k2⟩ | ⟨k1, k2, k3⟩
    · rw [k1, Nat.zero_testBit] at h2; exact absurd h2 Bool.false_ne_true
    · rcases Nat.lt_trichotomy h k with g | g | g
      · rw [k3 h g] at h2; exact absurd h2 Bool.false_ne_true
      · exact g
      · rw [h3 k g] at k2; exact absurd k2 Bool.false_ne_true
theorem FH.ex {a : Nat} (ha : a < 2 ^ 61) : ∃ h, FH a h := by
  by_cases h0 : a = 0
  · exact ⟨99, Or.inl ⟨h0, rfl⟩⟩
  · have hex : ∃ k, a.testBit k = true := Nat.exists_testBit_of_ne_zero h0
    obtain ⟨k, k1, k2⟩ := pk_least (fun k => a.testBit k = true) hex
    refine ⟨k, Or.inr ⟨?_, k1, fun j hj => ?_⟩⟩
    · refine Nat.le_of_not_lt (fun hk => ?_)
      rw [Nat.testBit_lt_two_pow (Nat.lt_of_lt_of_le ha (Nat.pow_le_pow_right (by omega) (by omega)))] at k1
      exact absurd k1 Bool.false_ne_true
    · cases hh : a.testBit j
      · rfl
      · exact absurd hh (k2 j hj)
noncomputable def fh (a : Nat) : Nat := Classical.epsilon (fun x => FH a x)
theorem fh_eq {a h : Nat} (g : FH a h) : fh a = h := by
  have hex : ∃ x, FH a x := ⟨h, g⟩
  exact (Classical.epsilon_spec (p := fun x => FH a x) hex).uniq g
theorem fh_FH {a : Nat} (ha : a < 2 ^ 61) : FH a (fh a) := by
  obtain ⟨h, g⟩ := FH.ex ha
  rw [fh_eq g]
  exact g
theorem fh_le {a : Nat} (ha : a < 2 ^ 61) : fh a ≤ 99 := by
  rcases fh_FH ha with h | h <;> omega
theorem fh_99 {a : Nat} (ha : a < 2 ^ 61) : fh a = 99 ↔ a = 0 := by
  rcases fh_FH ha with ⟨h1, h2⟩ | ⟨h1, h2, h3⟩
  · exact ⟨fun _ => h1, fun _ => h2⟩
  · constructor
    · intro h; omega
    · intro h; rw [h, Nat.zero_testBit] at h2; exact absurd h2 Bool.false_ne_true
theorem low_bits {z k : Nat} (hz : z < 2 ^ 32) (hk : z.testBit k = true) (hlow : ∀ j, j < k → z.testBit j = false) : (z ^^^ (2 ^ 32 - 1)) &&& (z - 1) = 2 ^ k - 1 := by
  have hk32 : k < 32 := by
    refine Nat.lt_of_not_le (fun h => ?_)
    rw [Nat.testBit_lt_two_pow (Nat.lt_of_lt_of_le hz (Nat.pow_le_pow_right (by omega) h))] at hk
    exact absurd hk Bool.false_ne_true
  have hm : z % 2 ^ k = 0 := by
    apply Nat.eq_of_testBit_eq
    intro j
    rw [Nat.testBit_mod_two_pow, Nat.zero_testBit]
    by_cases hj : j < k
    · rw [hlow j hj, Bool.and_false]
    · rw [decide_eq_false hj, Bool.false_and]
  have ho : z / 2 ^ k % 2 = 1 := by
    have := Nat.testBit_eq_decide_div_mod_eq (x := z) (i := k)
    rw [hk] at this
    exact of_decide_eq_true this.symm
  obtain ⟨m, hmm⟩ : ∃ m, z / 2 ^ k = 2 * m + 1 := ⟨z / 2 ^ k / 2, by omega⟩
  have hzz : z = 2 ^ k * (2 * m + 1) + 0 := by
    have := Nat.div_add_mod z (2 ^ k)
    rw [hm, hmm] at this
    exact this.symm
  have hpos : 0 < 2 ^ k := Nat.two_pow_pos k
  have hz1 : z - 1 = 2 ^ k * (2 * m) + (2 ^ k - 1) := by
    rw [hzz, Nat.mul_add]
    omega
  apply Nat.eq_of_testBit_eq
  intro j
  rw [Nat.testBit_and, Nat.testBit_xor, Nat.testBit_two_pow_sub_one, Nat.testBit_two_pow_sub_one, hz1, Nat.testBit_two_pow_mul_add _ (by omega)]
  by_cases hj : j < k
  · rw [if_pos hj, hlow j hj, Nat.testBit_two_pow_sub_one, decide_eq_true hj, decide_eq_true (show j < 32 by omega)]
    rfl
  · rw [if_neg hj, decide_eq_false hj]
    have hzj : z.testBit j = (2 * m + 1).testBit (j - k) := by
      rw [hzz, Nat.testBit_two_pow_mul_add _ hpos, if_neg hj]
    by_cases hjk : j = k
    · subst hjk
      rw [Nat.sub_self, Nat.testBit_zero, show 2 * m % 2 = 0 by omega]
      simp
    · obtain ⟨i, hi⟩ : ∃ i, j - k = i + 1 := ⟨j - k - 1, by omega⟩
      rw [hi, Nat.testBit_succ] at hzj
      rw [show (2 * m + 1) / 2 = m by omega] at hzj
      rw [hi, Nat.testBit_succ, show 2 * m / 2 = m by omega, hzj]
      by_cases h32 : j < 32
      · rw [decide_eq_true h32]
        cases m.testBit i <;> rfl
      · rw [Nat.testBit_lt_two_pow (Nat.lt_of_lt_of_le hz (Nat.pow_le_pow_right (by omega) (by omega)))] at hzj
        rw [← hzj, Bool.and_false]
theorem ntz_bits {z k : Nat} (hz : z < 2 ^ 32) (hk : z.testBit k = true) (hlow : ∀ j, j < k → z.testBit j = false) : (nI z ^^^ (-1 : Int32)) &&& (nI z - (1 : Int32)) = nI (2 ^ k - 1) := by
  have hz0 : 1 ≤ z := by
    refine Nat.pos_of_ne_zero (fun h => ?_)
    rw [h, Nat.zero_testBit] at hk
    exact absurd hk Bool.false_ne_true
  rw [show (-1 : Int32) = nI (2 ^ 32 - 1) from rfl, show (1 : Int32) = nI 1 from rfl, nI_xor, pk_sub hz0, nI_and, low_bits hz hk hlow]
theorem ntz_pow : ∀ k, k < 32 → x_J6_numberOfTrailingZeros_0f7a4 (nI (2 ^ k)) = some (nI k) := by decide +kernel
theorem ntz32 {z k : Nat} (hz : z < 2 ^ 32) (hk : z.testBit k = true) (hlow : ∀ j, j < k → z.testBit j = false) : x_J6_numberOfTrailingZeros_0f7a4 (nI z) = some (nI k) := by
  have hk32 : k < 32 := by
    refine Nat.lt_of_not_le (fun h => ?_)
    rw [Nat.testBit_lt_two_pow (Nat.lt_of_lt_of_le hz (Nat.pow_le_pow_right (by omega) h))] at hk
    exact absurd hk Bool.false_ne_true
  rw [← ntz_pow k hk32]
  unfold x_J6_numberOfTrailingZeros_0f7a4
  rw [ntz_bits hz hk hlow, ntz_bits (z := 2 ^ k) (k := k) (Nat.pow_lt_pow_right (by omega) hk32) Nat.testBit_two_pow_self (fun j hj => Nat.testBit_two_pow_of_ne (by omega))]
theorem nI_mod (a : Nat) : nI a = nI (a % 2 ^ 32) := by
  apply Int32.toBitVec_inj.mp
  apply BitVec.eq_of_toNat_eq
  show a % 2 ^ 32 = a % 2 ^ 32 % 2 ^ 32
  rw [Nat.mod_mod]
theorem nI_z {a : Nat} : nI a = 0 ↔ a % 2 ^ 32 = 0 := by
  rw [show (0 : Int32) = nI 0 from rfl, ← Int32.toBitVec_inj, ← BitVec.toNat_inj]
  exact Iff.rfl
theorem ntz64 {a k : Nat} (ha : a < 2 ^ 61) (hk : a.testBit k = true) (hlow : ∀ j, j < k → a.testBit j = false) : x_J13_numberOfTrailingZeros_95d88 (lN a) = some (nI k) := by
  unfold x_J13_numberOfTrailingZeros_95d88 xl
  dsimp only
  rw [lN_i]
  have e : ((lN a).toUInt64 >>> ((32 : Int32).toInt64.toUInt64 &&& Int64.toUInt64 63)).toInt64 = lN (a / 2 ^ 32) := by
    have hs : (((32 : Int32).toInt64.toUInt64 &&& Int64.toUInt64 63).toBitVec % 64).toNat = 32 := by decide
    have e1 : ((lN a).toUInt64 >>> ((32 : Int32).toInt64.toUInt64 &&& Int64.toUInt64 63)).toInt64.toBitVec = (lN a).toBitVec >>> (32 : Nat) := by
      rw [← hs]
      exact UInt64.toBitVec_shiftRight _ _
    apply Int64.toBitVec_inj.mp
    apply BitVec.eq_of_toNat_eq
    rw [e1, BitVec.toNat_ushiftRight, Nat.shiftRight_eq_div_pow]
    show a % 2 ^ 64 / 2 ^ 32 = a / 2 ^ 32 % 2 ^ 64
    rw [Nat.mod_eq_of_lt (by omega), Nat.mod_eq_of_lt (by have := Nat.div_le_self a (2 ^ 32); omega)]
  by_cases hk32 : k < 32
  · have hb : (a % 2 ^ 32).testBit k = true := by rw [Nat.testBit_mod_two_pow, hk, decide_eq_true hk32]; rfl
    have hne : ¬ nI a = 0 := fun h => by
      rw [nI_z.mp h, Nat.zero_testBit] at hb
      exact absurd hb Bool.false_ne_true
    rw [if_neg hne, nI_mod, ntz32 (Nat.mod_lt _ (by omega)) hb (fun j hj => by rw [Nat.testBit_mod_two_pow, hlow j hj, Bool.and_false])]
    rfl
  · have hz : a % 2 ^ 32 = 0 := by
      apply Nat.eq_of_testBit_eq
      intro j
      rw [Nat.testBit_mod_two_pow, Nat.zero_testBit]
      by_cases hj : j < 32
      · rw [hlow j (by omega), Bool.and_false]
      · rw [decide_eq_false hj, Bool.false_and]
    have hd : ∀ j, (a / 2 ^ 32).testBit j = a.testBit (32 + j) := fun j => by
      rw [Nat.testBit_div_two_pow, Nat.add_comm]
    rw [if_pos (nI_z.mpr hz), e, lN_i, ntz32 (k := k - 32) (by have := Nat.div_le_self a (2 ^ 32); have : a / 2 ^ 32 < 2 ^ 29 := Nat.div_lt_of_lt_mul (by omega); omega) (by rw [hd, show 32 + (k - 32) = k by omega]; exact hk) (fun j hj => by rw [hd]; exact hlow _ (by omega))]
    show some ((32 : Int32) + nI (k - 32)) = _
    rw [show (32 : Int32) = nI 32 from rfl, nI_add, show 32 + (k - 32) = k by omega]
theorem firstHour_val {L : SL} {p a b : Nat} (hp : p < 8) (h0 : L 0 p = lN a) (h1 : L 1 p = lN b) (ha : a < 2 ^ 61) (hb : b < 2 ^ 61) : x_X8_firstHour L (nI p) = some (nI (fh (a ||| b))) := by
  have hab : a ||| b < 2 ^ 61 := Nat.or_lt_two_pow ha hb
  have i2 : ¬ (nI p < 0 ∨ 8 ≤ p) := by have := nI_in (c := p) (N := 8) hp (by omega); rwa [cl (by omega)] at this
  unfold x_X8_firstHour xl
  rw [cl (by omega), if_neg i2, if_neg i2, h0, h1, lN_or]
  dsimp only
  rcases fh_FH hab with ⟨g1, g2⟩ | ⟨g1, g2, g3⟩
  · rw [if_pos ((cmp0 (by omega)).mpr g1), g2]
    rfl
  · rw [if_neg (fun h => by rw [(cmp0 (by omega)).mp h, Nat.zero_testBit] at g2; exact absurd g2 Bool.false_ne_true), ntz64 hab g2 g3]
    rfl
def hset (g : Nat → Nat) : Nat → Nat
  | 0 => 0
  | k + 1 => hset g k ||| (if g k = 0 then 0 else 2 ^ k)
theorem hset_lt (g : Nat → Nat) : ∀ k, hset g k < 2 ^ k
  | 0 => Nat.zero_lt_one
  | k + 1 => by
    have := hset_lt g k
    have e : 2 ^ (k + 1) = 2 ^ k * 2 := rfl
    refine Nat.or_lt_two_pow (by omega) ?_
    split <;> omega
theorem hset_bit (g : Nat → Nat) : ∀ k q, (hset g k).testBit q = true ↔ q < k ∧ ¬ g q = 0
  | 0, q => by
    show (0 : Nat).testBit q = true ↔ _
    rw [Nat.zero_testBit]
    exact ⟨fun h => absurd h Bool.false_ne_true, fun h => absurd h.1 (Nat.not_lt_zero q)⟩
  | k + 1, q => by
    show (hset g k ||| (if g k = 0 then 0 else 2 ^ k)).testBit q = true ↔ _
    rw [Nat.testBit_or, Bool.or_eq_true, hset_bit g k q]
    by_cases hk : g k = 0
    · rw [if_pos hk, Nat.zero_testBit]
      constructor
      · rintro (h | h)
        · exact ⟨by omega, h.2⟩
        · exact absurd h Bool.false_ne_true
      · rintro ⟨h1, h2⟩
        refine Or.inl ⟨?_, h2⟩
        have : ¬ q = k := fun h => h2 (by rw [h]; exact hk)
        omega
    · rw [if_neg hk, Nat.testBit_two_pow, decide_eq_true_eq]
      constructor
      · rintro (h | h)
        · exact ⟨by omega, h.2⟩
        · subst h; exact ⟨by omega, hk⟩
      · rintro ⟨h1, h2⟩
        by_cases h : q = k
        · exact Or.inr h.symm
        · exact Or.inl ⟨by omega, h2⟩
theorem heard_val {N : Nat} (hN : 4096 ≤ N) {L : SL} {a b : Nat → Nat} (h0 : ∀ p, p < 8 → L 0 p = lN (a p) ∧ L 1 p = lN (b p)) (ha : ∀ p, a p < 2 ^ 61) (hb : ∀ p, b p < 2 ^ 61) : x_X8_heardAtPlaces N L = some (nI (hset (fun p => a p ||| b p) 8)) := by
  unfold x_X8_heardAtPlaces
  obtain ⟨x, u1, u2⟩ := lpc_run (body := fun (q : Int32 × Int32) => x_X8_heardAtPlaces_b4 N L q.1 q.2) (I := fun k q => q = (nI (hset (fun p => a p ||| b p) k), nI k)) (Pst := fun x => x = nI (hset (fun p => a p ||| b p) 8)) 8 (fun k q hk hI => by
    subst hI
    unfold x_X8_heardAtPlaces_b4
    by_cases h : k = 8
    · subst h
      right
      exact ⟨_, by rw [if_pos (show (8 : Int32) ≤ nI 8 by decide)], rfl⟩
    · left
      have i2 : ¬ (nI k < 0 ∨ 8 ≤ k) := by have := nI_in (c := k) (N := 8) (by omega) (by omega); rwa [cl (by omega)] at this
      have e8 : nI k + (1 : Int32) = nI (k + 1) := by simp (disch := omega) only [li_0, li_1, li_2, li_3, li_4, li_5, li_6, li_7, li_8, li_9, li_10, li_11, li_15, li_16, li_20, li_30, li_32, li_48, li_57, li_58, li_59, li_60, li_61, li_63, li_64, li_80, li_85, li_88, li_99, li_100, li_112, li_115, li_152, li_162, li_172, li_173, li_174, li_240, li_255, li_348, li_1000, li_3306, nI_add]
      have hab : a k ||| b k < 2 ^ 61 := Nat.or_lt_two_pow (ha k) (hb k)
      rw [if_neg (show ¬ (8 : Int32) ≤ nI k from nI_ge (b := 8) (by omega) (by omega)), cl (by omega), if_neg i2, if_neg i2, (h0 k (by omega)).1, (h0 k (by omega)).2, lN_or, e8]
      refine ⟨(nI (hset (fun p => a p ||| b p) k ||| (if a k ||| b k = 0 then 0 else 2 ^ k)), nI (k + 1)), ?_, by omega, rfl⟩
      dsimp only
      by_cases hz : a k ||| b k = 0
      · rw [if_pos ((cmp0 (by omega)).mpr hz), if_pos hz, Nat.or_zero]
      · rw [if_neg (fun h => hz ((cmp0 (by omega)).mp h)), if_neg hz, s_l10 k (by omega), ← nI_or]
        rfl) (N := N) (z := ((0 : Int32), (0 : Int32))) (by omega) rfl
  rw [u1, u2]
  rfl
