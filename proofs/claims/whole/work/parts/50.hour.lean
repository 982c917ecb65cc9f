/-! what is heard at a place -/
theorem i_andnot (x y : Int32) : x &&& (y ^^^ (-1 : Int32)) = x ^^^ (x &&& y) := by
  apply Int32.toBitVec_inj.mp
  show x.toBitVec &&& (y.toBitVec ^^^ (-1 : Int32).toBitVec) = x.toBitVec ^^^ (x.toBitVec &&& y.toBitVec)
  have e : (-1 : Int32).toBitVec = BitVec.allOnes 32 := by decide
  rw [e]
  apply BitVec.eq_of_getLsbD_eq
  intro i hi
  simp only [BitVec.getLsbD_and, BitVec.getLsbD_xor, BitVec.getLsbD_allOnes, hi, decide_true]
  cases x.toBitVec.getLsbD i <;> cases y.toBitVec.getLsbD i <;> rfl
theorem nI_xor (a b : Nat) : nI a ^^^ nI b = nI (a ^^^ b) := by
  apply Int32.toBitVec_inj.mp
  show (nI a).toBitVec ^^^ (nI b).toBitVec = (nI (a ^^^ b)).toBitVec
  show BitVec.ofInt 32 a ^^^ BitVec.ofInt 32 b = BitVec.ofInt 32 ((a ^^^ b : Nat))
  rw [BitVec.ofInt_natCast, BitVec.ofInt_natCast, BitVec.ofInt_natCast, BitVec.ofNat_xor]
/-- what is new of s behind z -/
def fresh (s z : Nat) : Nat := s ^^^ (s &&& z)
theorem fresh_lt {s z : Nat} (hs : s < 256) : fresh s z < 256 := Nat.xor_lt_two_pow (n := 8) hs (Nat.lt_of_le_of_lt Nat.and_le_left hs)
theorem nleI {a k : Nat} (h : k < a) (ha : a < 2 ^ 31) : ¬ nI a ≤ nI k := fun h2 => by have := (nI_leI (by omega) (by omega)).mp h2; omega
theorem fresh_bit (s z t : Nat) : (fresh s z).testBit t = (s.testBit t && !z.testBit t) := by
  unfold fresh
  rw [Nat.testBit_xor, Nat.testBit_and]
  cases s.testBit t <;> cases z.testBit t <;> rfl
theorem fresh_eq (s z : Nat) : nI s &&& (nI z ^^^ (-1 : Int32)) = nI (fresh s z) := by
  rw [i_andnot, nI_and, nI_xor]; rfl
/-- what has been heard -/
def HR (f4 f5 A : Nat → Int32) : Prop := ∀ p, p < 8 → ∃ z, z < 256 ∧ f4 p = nI z ∧ A (80 + p) = nI z ∧ ∀ t, t < 8 → f5 (8 * p + t) = A (88 + 8 * p + t) ∧ (z.testBit t = true ↔ ¬ A (88 + 8 * p + t) = -1)
theorem hearC_step {N : Nat} {F : St} {q y k : Nat} (hq : q < 8) (hk : k < 8) (hy : y < 256) : x_X0_hearAt_b35 N F (nI q) (nI y) (nI k) = some (.inl (nI (k + 1), if y.testBit k = true then upd (F 5) (8 * q + k) (F 0 0) else F 5)) := by
  unfold x_X0_hearAt_b35
  rw [has_eq (by omega) (by omega), if_neg (show ¬ (8 : Int32) ≤ nI k from nleI (a := 8) (by omega) (by omega))]
  have e : (nI q * (8 : Int32)) + nI k = nI (8 * q + k) := by
    simp (disch := omega) only [li_0, li_1, li_2, li_3, li_4, li_5, li_6, li_7, li_8, li_9, li_10, li_11, li_15, li_16, li_20, li_30, li_32, li_48, li_57, li_58, li_59, li_60, li_61, li_63, li_64, li_80, li_85, li_88, li_99, li_100, li_112, li_115, li_152, li_162, li_172, li_173, li_174, li_240, li_255, li_348, li_1000, li_3306, nI_add, pk_mul]
    rw [Nat.mul_comm]
  have e1 : nI k + (1 : Int32) = nI (k + 1) := by simp (disch := omega) only [li_0, li_1, li_2, li_3, li_4, li_5, li_6, li_7, li_8, li_9, li_10, li_11, li_15, li_16, li_20, li_30, li_32, li_48, li_57, li_58, li_59, li_60, li_61, li_63, li_64, li_80, li_85, li_88, li_99, li_100, li_112, li_115, li_152, li_162, li_172, li_173, li_174, li_240, li_255, li_348, li_1000, li_3306, nI_add]
  simp only [Option.bind_some, e, e1]
  by_cases h : y.testBit k = true
  · rw [if_pos h, if_neg z10, if_neg (nI_in (by omega) (by omega)), cl (by omega), if_pos h]
    rfl
  · rw [if_neg h, if_pos rfl, if_neg h]
theorem hearM_step {N : Nat} {A : Nat → Int32} {q s k : Nat} (hq : q < 8) (hk : k < 8) (hs : s < 256) : x_X10_hearAt_b16 N A (nI q) (nI s) (nI k) = some (.inl (nI (k + 1), upd A (88 + 8 * q + k) (if s.testBit k = true ∧ A (88 + 8 * q + k) = -1 then A 173 else A (88 + 8 * q + k)))) := by
  have c173 : (173 : Int32).toNatClampNeg = 173 := cl (k := 173) (by omega)
  have e : ((88 : Int32) + ((8 : Int32) * nI q)) + nI k = nI (88 + 8 * q + k) := by
    simp (disch := omega) only [li_0, li_1, li_2, li_3, li_4, li_5, li_6, li_7, li_8, li_9, li_10, li_11, li_15, li_16, li_20, li_30, li_32, li_48, li_57, li_58, li_59, li_60, li_61, li_63, li_64, li_80, li_85, li_88, li_99, li_100, li_112, li_115, li_152, li_162, li_172, li_173, li_174, li_240, li_255, li_348, li_1000, li_3306, nI_add, pk_mul]
  have e1 : nI k + (1 : Int32) = nI (k + 1) := by simp (disch := omega) only [li_0, li_1, li_2, li_3, li_4, li_5, li_6, li_7, li_8, li_9, li_10, li_11, li_15, li_16, li_20, li_30, li_32, li_48, li_57, li_58, li_59, li_60, li_61, li_63, li_64, li_80, li_85, li_88, li_99, li_100, li_112, li_115, li_152, li_162, li_172, li_173, li_174, li_240, li_255, li_348, li_1000, li_3306, nI_add]
  have e2 : ¬ (nI (88 + 8 * q + k) < 0 ∨ 174 ≤ 88 + 8 * q + k) := by
    have := nI_in (c := 88 + 8 * q + k) (N := 174) (by omega) (by omega)
    rwa [cl (by omega)] at this
  unfold x_X10_hearAt_b16 x_X10_hearAt_b16_k49 x_X10_hearAt_b16_k50 x_X10_hearAt_b16_k86
  rw [has_10, has_eq (by omega) (by omega), if_neg (show ¬ (8 : Int32) ≤ nI k from nleI (a := 8) (by omega) (by omega))]
  simp only [Option.bind_some, e, e1, c173, cl (k := 88 + 8 * q + k) (by omega), if_neg e2, if_pos, if_neg z10]
  by_cases h : s.testBit k = true
  · rw [if_pos h, if_neg z10]
    by_cases h2 : A (88 + 8 * q + k) = -1
    · rw [if_pos h2, if_pos ⟨h, h2⟩]
    · rw [if_neg h2, if_neg (fun h3 => h2 h3.2)]
  · rw [if_neg h, if_pos rfl, if_neg (fun h3 => h h3.1)]
/-- both hear alike -/
theorem hear_eq {N : Nat} (hN : 4096 ≤ N) {F : St} {A : Nat → Int32} {h q s : Nat} (hq : q < 8) (hs : s < 256) (hh : h < 2 ^ 31) (g1 : F 0 0 = nI h) (g2 : A 173 = nI h) (hr : HR (F 4) (F 5) A) : ∃ f4 f5 r, x_X0_hearAt N F (nI q) (nI s) = some (f4, f5) ∧ x_X10_hearAt N A (nI q) (nI s) = some r ∧ HR f4 f5 r ∧ ∀ j, (j < 80 ∨ 152 ≤ j) → r j = A j := by
  obtain ⟨z, z1, z2, z3, z4⟩ := hr q hq
  have hm1 := nI_ne_m1 hh
  obtain ⟨x, x', e1, e2, e3⟩ := lpc_sim (b1 := fun (w : Int32 × (Nat → Int32)) => x_X0_hearAt_b35 N (va_up (va_up F 4 (upd (F 4) q (nI (z ||| s)))) 5 w.2) (nI q) (nI (fresh s z)) w.1) (b2 := fun (w : Int32 × (Nat → Int32)) => x_X10_hearAt_b16 N w.2 (nI q) (nI s) w.1)
    (I := fun k w w' => w.1 = nI k ∧ w'.1 = nI k ∧ (∀ p t, p < 8 → t < 8 → w.2 (8 * p + t) = w'.2 (88 + 8 * p + t)) ∧ (∀ p t, p < 8 → t < 8 → ¬ (p = q ∧ t < k) → w'.2 (88 + 8 * p + t) = A (88 + 8 * p + t)) ∧ (∀ t, t < k → t < 8 → (w'.2 (88 + 8 * q + t) = -1 ↔ ¬ (z ||| s).testBit t = true)) ∧ (∀ j, (j < 88 ∨ 152 ≤ j) → w'.2 j = upd A (80 + q) (nI (z ||| s)) j))
    (Pst := fun w w' => (∀ p t, p < 8 → t < 8 → w (8 * p + t) = w' (88 + 8 * p + t)) ∧ (∀ p t, p < 8 → t < 8 → ¬ p = q → w' (88 + 8 * p + t) = A (88 + 8 * p + t)) ∧ (∀ t, t < 8 → (w' (88 + 8 * q + t) = -1 ↔ ¬ (z ||| s).testBit t = true)) ∧ (∀ j, (j < 88 ∨ 152 ≤ j) → w' j = upd A (80 + q) (nI (z ||| s)) j)) 8 (fun k w w' hk hI => by
    obtain ⟨w1, f⟩ := w
    obtain ⟨w1', f'⟩ := w'
    obtain ⟨rfl, rfl, i1, i2, i3, i4⟩ := hI
    dsimp only at i1 i2 i3 i4
    by_cases hk8 : k = 8
    · subst hk8
      right
      refine ⟨f, f', ?_, ?_, i1, fun p t hp ht hpq => i2 p t hp ht (fun h => hpq h.1), fun t ht => i3 t ht ht, i4⟩
      · show x_X0_hearAt_b35 _ _ _ _ _ = _
        unfold x_X0_hearAt_b35
        rw [if_pos (show (8 : Int32) ≤ nI 8 from nI_le (a := 8) (Nat.le_refl _) (by omega))]
        rfl
      · show x_X10_hearAt_b16 _ _ _ _ _ = _
        unfold x_X10_hearAt_b16
        rw [if_pos (show (8 : Int32) ≤ nI 8 from nI_le (a := 8) (Nat.le_refl _) (by omega))]
    · left
      have hk' : k < 8 := by omega
      refine ⟨_, _, hearC_step hq hk' (fresh_lt hs), hearM_step hq hk' hs, hk', rfl, rfl, ?_⟩
      have hA : f' (88 + 8 * q + k) = A (88 + 8 * q + k) := i2 q k hq hk' (fun h => by omega)
      have hF : f (8 * q + k) = f' (88 + 8 * q + k) := i1 q k hq hk'
      have h173 : f' 173 = nI h := by rw [i4 173 (by omega), pk_un (by omega), g2]
      have g1' : (va_up (va_up F 4 (upd (F 4) q (nI (z ||| s)))) 5 f) 0 0 = nI h := g1
      have g5' : (va_up (va_up F 4 (upd (F 4) q (nI (z ||| s)))) 5 f) 5 = f := rfl
      dsimp only
      rw [g1', g5', h173]
      have hb := fresh_bit s z k
      have hz4 := (z4 k hk').2
      rw [← hA] at hz4
      by_cases hc : s.testBit k = true ∧ f' (88 + 8 * q + k) = -1
      · have hzk : z.testBit k = false := by
          cases hzz : z.testBit k
          · rfl
          · exact absurd hc.2 (hz4.mp hzz)
        rw [if_pos hc, if_pos (by rw [hb, hc.1, hzk]; rfl)]
        refine ⟨fun p t hp ht => ?_, fun p t hp ht hn => ?_, fun t ht ht8 => ?_, fun j hj => ?_⟩
        · by_cases hpt : p = q ∧ t = k
          · obtain ⟨rfl, rfl⟩ := hpt
            rw [pk_us, pk_us]
          · rw [pk_un (by omega), pk_un (by omega)]
            exact i1 p t hp ht
        · rw [pk_un (by omega)]
          exact i2 p t hp ht (fun h => hn ⟨h.1, by omega⟩)
        · by_cases htk : t = k
          · subst htk
            rw [pk_us]
            refine ⟨fun h => absurd h hm1, fun h => absurd ?_ h⟩
            rw [Nat.testBit_or, hc.1, Bool.or_true]
          · rw [pk_un (by omega)]
            exact i3 t (by omega) ht8
        · rw [pk_un (by omega)]
          exact i4 j hj
      · have hfr : ¬ (fresh s z).testBit k = true := by
          rw [hb]
          intro h
          apply hc
          rw [Bool.and_eq_true] at h
          refine ⟨h.1, ?_⟩
          have : ¬ z.testBit k = true := by cases hzz : z.testBit k <;> simp_all
          exact Decidable.byContradiction (fun h5 => this (hz4.mpr h5))
        rw [if_neg hc, if_neg hfr]
        refine ⟨fun p t hp ht => ?_, fun p t hp ht hn => ?_, fun t ht ht8 => ?_, fun j hj => ?_⟩
        · by_cases hpt : p = q ∧ t = k
          · obtain ⟨rfl, rfl⟩ := hpt
            rw [pk_us, hF]
          · rw [pk_un (by omega)]
            exact i1 p t hp ht
        · rw [pk_un (by omega)]
          exact i2 p t hp ht (fun h => hn ⟨h.1, by omega⟩)
        · by_cases htk : t = k
          · subst htk
            rw [pk_us, Nat.testBit_or]
            constructor
            · intro h5 h6
              have h7 : ¬ z.testBit t = true := fun h8 => hz4.mp h8 h5
              have h8 : ¬ s.testBit t = true := fun h9 => hc ⟨h9, h5⟩
              cases hzz : z.testBit t <;> cases hss : s.testBit t <;> simp_all
            · intro h5
              refine Decidable.byContradiction (fun h6 => h5 ?_)
              rw [hz4.mpr h6]
              rfl
          · rw [pk_un (by omega)]
            exact i3 t (by omega) ht8
        · rw [pk_un (by omega)]
          exact i4 j hj) (N := N) (z := ((0 : Int32), F 5)) (z' := ((0 : Int32), upd A (80 + q) (nI (z ||| s)))) (by omega) ⟨rfl, rfl, fun p t hp ht => by
        show F 5 _ = upd A _ _ _
        rw [pk_un (by omega)]
        obtain ⟨_, _, _, _, y4⟩ := hr p hp
        exact (y4 t ht).1, fun p t hp ht _ => pk_un (by omega), fun t ht => absurd ht (Nat.not_lt_zero t), fun j hj => rfl⟩
  obtain ⟨p1, p2, p3, p4⟩ := e3
  refine ⟨upd (F 4) q (nI (z ||| s)), x, x', ?_, ?_, fun p hp => ?_, fun j hj => ?_⟩
  · unfold x_X0_hearAt
    have a1 : ¬ nI q < 0 := fun h => by have := (nI_ltI (b := 0) (by omega) (by omega)).mp h; omega
    have a2 : nI q < 8 := (nI_ltI (b := 8) (by omega) (by omega)).mpr (by omega)
    rw [if_neg a1, if_pos a2, ix hq (by omega), cl (by omega), z2, fresh_eq]
    unfold xl
    dsimp only
    rw [if_neg (show ¬ (nI q < 0 ∨ 8 ≤ q) from fun h => h.elim a1 (fun h => by omega)), if_neg (show ¬ (nI q < 0 ∨ 8 ≤ q) from fun h => h.elim a1 (fun h => by omega)), nI_or, e1]
    rfl
  · unfold x_X10_hearAt
    have e : (80 : Int32) + nI q = nI (80 + q) := by simp (disch := omega) only [li_0, li_1, li_2, li_3, li_4, li_5, li_6, li_7, li_8, li_9, li_10, li_11, li_15, li_16, li_20, li_30, li_32, li_48, li_57, li_58, li_59, li_60, li_61, li_63, li_64, li_80, li_85, li_88, li_99, li_100, li_112, li_115, li_152, li_162, li_172, li_173, li_174, li_240, li_255, li_348, li_1000, li_3306, nI_add]
    rw [e, ix (by omega) (by omega), ix (by omega) (by omega), cl (by omega), z3, nI_or]
    unfold xl
    dsimp only
    rw [e2]
    rfl
  · by_cases hpq : p = q
    · subst hpq
      refine ⟨z ||| s, Nat.or_lt_two_pow (n := 8) z1 hs, pk_us, ?_, fun t ht => ⟨p1 p t hp ht, ?_⟩⟩
      · rw [p4 _ (by omega), pk_us]
      · have := p3 t ht
        constructor
        · intro h5 h6; exact this.mp h6 h5
        · intro h5; exact Decidable.byContradiction (fun h6 => h5 (this.mpr h6))
    · obtain ⟨y, y1, y2, y3, y4⟩ := hr p hp
      refine ⟨y, y1, (pk_un hpq).trans y2, ?_, fun t ht => ⟨p1 p t hp ht, ?_⟩⟩
      · rw [p4 _ (by omega), pk_un (by omega)]; exact y3
      · rw [p2 p t hp ht hpq]; exact (y4 t ht).2
  · rw [p4 j (by omega), pk_un (by omega)]
