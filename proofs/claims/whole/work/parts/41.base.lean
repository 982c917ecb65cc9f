/-! numbers -/
theorem li_0 : (0 : Int32) = nI 0 := rfl
theorem li_1 : (1 : Int32) = nI 1 := rfl
theorem li_2 : (2 : Int32) = nI 2 := rfl
theorem li_3 : (3 : Int32) = nI 3 := rfl
theorem li_4 : (4 : Int32) = nI 4 := rfl
theorem li_5 : (5 : Int32) = nI 5 := rfl
theorem li_6 : (6 : Int32) = nI 6 := rfl
theorem li_7 : (7 : Int32) = nI 7 := rfl
theorem li_8 : (8 : Int32) = nI 8 := rfl
theorem li_9 : (9 : Int32) = nI 9 := rfl
theorem li_10 : (10 : Int32) = nI 10 := rfl
theorem li_11 : (11 : Int32) = nI 11 := rfl
theorem li_15 : (15 : Int32) = nI 15 := rfl
theorem li_16 : (16 : Int32) = nI 16 := rfl
theorem li_20 : (20 : Int32) = nI 20 := rfl
theorem li_30 : (30 : Int32) = nI 30 := rfl
theorem li_32 : (32 : Int32) = nI 32 := rfl
theorem li_48 : (48 : Int32) = nI 48 := rfl
theorem li_57 : (57 : Int32) = nI 57 := rfl
theorem li_58 : (58 : Int32) = nI 58 := rfl
theorem li_59 : (59 : Int32) = nI 59 := rfl
theorem li_60 : (60 : Int32) = nI 60 := rfl
theorem li_61 : (61 : Int32) = nI 61 := rfl
theorem li_63 : (63 : Int32) = nI 63 := rfl
theorem li_64 : (64 : Int32) = nI 64 := rfl
theorem li_80 : (80 : Int32) = nI 80 := rfl
theorem li_85 : (85 : Int32) = nI 85 := rfl
theorem li_88 : (88 : Int32) = nI 88 := rfl
theorem li_99 : (99 : Int32) = nI 99 := rfl
theorem li_100 : (100 : Int32) = nI 100 := rfl
theorem li_112 : (112 : Int32) = nI 112 := rfl
theorem li_115 : (115 : Int32) = nI 115 := rfl
theorem li_152 : (152 : Int32) = nI 152 := rfl
theorem li_162 : (162 : Int32) = nI 162 := rfl
theorem li_172 : (172 : Int32) = nI 172 := rfl
theorem li_173 : (173 : Int32) = nI 173 := rfl
theorem li_174 : (174 : Int32) = nI 174 := rfl
theorem li_240 : (240 : Int32) = nI 240 := rfl
theorem li_255 : (255 : Int32) = nI 255 := rfl
theorem li_348 : (348 : Int32) = nI 348 := rfl
theorem li_1000 : (1000 : Int32) = nI 1000 := rfl
theorem li_3306 : (3306 : Int32) = nI 3306 := rfl
theorem lim1 : (-1 : Int32).toInt = -1 := by decide
theorem i32_cases (x : Int32) : x < 0 ∨ ∃ j, j < 2 ^ 31 ∧ x = nI j := by
  by_cases h : x < 0
  · exact Or.inl h
  · exact Or.inr (nI_of h)
theorem lt_I {x y : Int32} : x < y ↔ x.toInt < y.toInt := Int32.lt_iff_toInt_lt
theorem le_I {x y : Int32} : x ≤ y ↔ x.toInt ≤ y.toInt := Int32.le_iff_toInt_le
theorem eq_I {x y : Int32} : x = y ↔ x.toInt = y.toInt := Int32.toInt_inj.symm
theorem nI_ne_m1 {k : Nat} (h : k < 2 ^ 31) : ¬ nI k = -1 := by
  rw [eq_I, nI_toInt h, lim1]
  omega
theorem nI_inj {a b : Nat} (ha : a < 2 ^ 31) (hb : b < 2 ^ 31) (h : nI a = nI b) : a = b := (nI_eq ha hb).mp h
theorem in_eq (x a b : Int32) : x_X10_in x a b = some (if a.toInt ≤ x.toInt ∧ x.toInt ≤ b.toInt then 1 else 0) := by
  unfold x_X10_in
  by_cases h1 : x < a
  · rw [if_pos h1, if_neg (fun h => by have := lt_I.mp h1; omega)]
  · rw [if_neg h1]
    have h1' : ¬ x.toInt < a.toInt := fun h => h1 (lt_I.mpr h)
    by_cases h2 : b < x
    · rw [if_pos h2, if_neg (fun h => by have := lt_I.mp h2; omega)]
    · have h2' : ¬ b.toInt < x.toInt := fun h => h2 (lt_I.mpr h)
      rw [if_neg h2, if_pos ⟨by omega, by omega⟩]
theorem in_1 {x a b : Int32} (h1 : a.toInt ≤ x.toInt) (h2 : x.toInt ≤ b.toInt) : x_X10_in x a b = some 1 := by rw [in_eq, if_pos ⟨h1, h2⟩]
theorem in_0 {x a b : Int32} (h : x.toInt < a.toInt ∨ b.toInt < x.toInt) : x_X10_in x a b = some 0 := by rw [in_eq, if_neg (fun h2 => by omega)]
theorem z_toInt : (0 : Int32).toInt = 0 := by decide
theorem hp_place {pl : Nat} {P M : St} (hP : P 1 0 = nI pl) (hM : M 16 0 = nI pl) (hpl : pl ≤ 8) (x : Int32) :
    (∃ j, j < pl ∧ x = nI j ∧ x_X4_hasPlace P x = some 1 ∧ x_X10_isPlace M x = some 1) ∨ (x_X4_hasPlace P x = some 0 ∧ x_X10_isPlace M x = some 0) := by
  have e : (nI pl - 1).toInt = (pl : Int) - 1 := by
    have := pk_sub_toInt (a := pl) (b := 1) (by omega) (by omega)
    exact this
  unfold x_X4_hasPlace x_X10_isPlace
  rw [hP, hM]
  rcases i32_cases x with h | ⟨j, hj, rfl⟩
  · right
    have h' := lt_I.mp h
    rw [if_pos h, in_0 (Or.inl h')]
    exact ⟨rfl, rfl⟩
  · rw [if_neg (nI_pos hj)]
    by_cases hjp : j < pl
    · left
      refine ⟨j, hjp, rfl, ?_, ?_⟩
      · rw [if_neg (nI_ge hjp (by omega))]
      · rw [in_1 (by rw [z_toInt, nI_toInt hj]; omega) (by rw [e, nI_toInt hj]; omega)]
        rfl
    · right
      refine ⟨?_, ?_⟩
      · rw [if_pos (nI_le (by omega) hj)]
      · rw [in_0 (Or.inr (by rw [e, nI_toInt hj]; omega))]
        rfl
theorem hp_chan {ch : Nat} {P M : St} (hP : P 2 0 = nI ch) (hM : M 17 0 = nI ch) (hch : ch ≤ 10) (x : Int32) :
    (∃ j, j < ch ∧ x = nI j ∧ x_X4_hasChannel P x = some 1 ∧ x_X10_isChannel M x = some 1) ∨ (x_X4_hasChannel P x = some 0 ∧ x_X10_isChannel M x = some 0) := by
  have e : (nI ch - 1).toInt = (ch : Int) - 1 := by
    have := pk_sub_toInt (a := ch) (b := 1) (by omega) (by omega)
    exact this
  unfold x_X4_hasChannel x_X10_isChannel
  rw [hP, hM]
  rcases i32_cases x with h | ⟨j, hj, rfl⟩
  · right
    have h' := lt_I.mp h
    rw [if_pos h, in_0 (Or.inl h')]
    exact ⟨rfl, rfl⟩
  · rw [if_neg (nI_pos hj)]
    by_cases hjp : j < ch
    · left
      refine ⟨j, hjp, rfl, ?_, ?_⟩
      · rw [if_neg (nI_ge hjp (by omega))]
      · rw [in_1 (by rw [z_toInt, nI_toInt hj]; omega) (by rw [e, nI_toInt hj]; omega)]
        rfl
    · right
      refine ⟨?_, ?_⟩
      · rw [if_pos (nI_le (by omega) hj)]
      · rw [in_0 (Or.inr (by rw [e, nI_toInt hj]; omega))]
        rfl
theorem hp_say (x : Int32) : (∃ j, j < 8 ∧ x = nI j ∧ x_X9_isSaying x = some 1 ∧ x_X10_isSaying x = some 1) ∨ (x_X9_isSaying x = some 0 ∧ x_X10_isSaying x = some 0) := by
  unfold x_X9_isSaying x_X10_isSaying
  rcases i32_cases x with h | ⟨j, hj, rfl⟩
  · right
    have h' := lt_I.mp h
    rw [if_pos h, in_0 (Or.inl h')]
    exact ⟨rfl, rfl⟩
  · rw [if_neg (nI_pos hj)]
    by_cases hjp : j < 8
    · left
      refine ⟨j, hjp, rfl, ?_, ?_⟩
      · rw [if_neg (show ¬ (8 : Int32) ≤ nI j from nI_ge (b := 8) hjp (by omega))]
      · rw [in_1 (by rw [z_toInt, nI_toInt hj]; omega) (by rw [li_7, nI_toInt hj, nI_toInt (by omega)]; omega)]
        rfl
    · right
      refine ⟨?_, ?_⟩
      · rw [if_pos (show (8 : Int32) ≤ nI j from nI_le (a := 8) (by omega) hj)]
      · rw [in_0 (Or.inr (by rw [li_7, nI_toInt hj, nI_toInt (by omega)]; omega))]
        rfl
/-- a number in bounds, or not: class and reference ask alike -/
theorem in_cases (x : Int32) (a b : Nat) (ha : a < 2 ^ 31) (hb : b < 2 ^ 31) : (∃ j, a ≤ j ∧ j ≤ b ∧ x = nI j ∧ x_X10_in x (nI a) (nI b) = some 1) ∨ ((x < nI a ∨ nI b < x) ∧ x_X10_in x (nI a) (nI b) = some 0) := by
  by_cases h : a ≤ x.toInt ∧ x.toInt ≤ b
  · left
    have hx : ¬ x < 0 := fun h9 => by have := lt_I.mp h9; rw [z_toInt] at this; omega
    obtain ⟨j, hj, rfl⟩ := nI_of hx
    rw [nI_toInt hj] at h
    exact ⟨j, by omega, by omega, rfl, in_1 (by rw [nI_toInt hj, nI_toInt ha]; omega) (by rw [nI_toInt hj, nI_toInt hb]; omega)⟩
  · right
    have h2 : x.toInt < (nI a).toInt ∨ (nI b).toInt < x.toInt := by rw [nI_toInt ha, nI_toInt hb]; omega
    exact ⟨h2.elim (fun h => Or.inl (lt_I.mpr h)) (fun h => Or.inr (lt_I.mpr h)), in_0 h2⟩
/-- an index in its row -/
theorem ix {α : Type} {k n : Nat} (h : k < n) (hn : n < 2 ^ 31) {a : Option α} : (if nI k < 0 ∨ n ≤ (nI k).toNatClampNeg then none else a) = a := if_neg (nI_in h hn)
theorem cl {k : Nat} (h : k < 2 ^ 31) : (nI k).toNatClampNeg = k := nI_clamp h
theorem z10 : ¬ (1 : Int32) = 0 := by decide
theorem z01 : ¬ (0 : Int32) = 1 := by decide
/-- a loop that goes on at most K times -/
theorem lpc_run {σ ε : Type} {body : σ → Option (σ ⊕ ε)} (I : Nat → σ → Prop) (Pst : ε → Prop) (K : Nat) (hstep : ∀ k z, k ≤ K → I k z → (∃ z', body z = some (.inl z') ∧ k < K ∧ I (k + 1) z') ∨ (∃ x, body z = some (.inr x) ∧ Pst x)) {N : Nat} {z : σ} (hN : K < N) (h0 : I 0 z) : ∃ x, lpc body N z = some x ∧ Pst x := by
  have key : ∀ (n k : Nat) (z : σ) (N : Nat), k + n = K → n < N → I k z → ∃ x, lpc body N z = some x ∧ Pst x := by
    intro n
    induction n with
    | zero =>
      intro k z N hk hN hI
      obtain ⟨N, rfl⟩ : ∃ N', N = N' + 1 := ⟨N - 1, by omega⟩
      rcases hstep k z (by omega) hI with ⟨z', h1, h2, h3⟩ | ⟨x, h1, h2⟩
      · omega
      · exact ⟨x, by simp only [lpc, h1, Option.bind_some], h2⟩
    | succ n ih =>
      intro k z N hk hN hI
      obtain ⟨N, rfl⟩ : ∃ N', N = N' + 1 := ⟨N - 1, by omega⟩
      rcases hstep k z (by omega) hI with ⟨z', h1, h2, h3⟩ | ⟨x, h1, h2⟩
      · obtain ⟨x, h4, h5⟩ := ih (k + 1) z' N (by omega) (by omega) h3
        exact ⟨x, by simp only [lpc, h1, Option.bind_some]; exact h4, h5⟩
      · exact ⟨x, by simp only [lpc, h1, Option.bind_some], h2⟩
  exact key K 0 z N (by omega) hN h0
/-- how many bits -/
def bcN (z : Nat) : Nat → Nat
  | 0 => 0
  | k + 1 => bcN z k + z / 2 ^ k % 2
def bc (z : Nat) : Nat := bcN z 11
theorem bcN_le (z k : Nat) : bcN z k ≤ k := by
  induction k with
  | zero => exact Nat.le_refl 0
  | succ k ih => have := Nat.mod_lt (z / 2 ^ k) (show 0 < 2 by omega); unfold bcN; omega
theorem s_l9 : ∀ n, n < 32 → ((nI n &&& 31).toBitVec.smod 32).toNat = n := by decide +kernel
theorem shr1 {z k : Nat} (hz : z < 2 ^ 31) (hk : k < 32) : (nI z >>> (nI k &&& 31)) &&& (1 : Int32) = nI (z / 2 ^ k % 2) := by
  rw [pk_shrN hz _ k (s_l9 k hk)]
  have h2 : z / 2 ^ k < 2 ^ 32 := Nat.lt_of_le_of_lt (Nat.div_le_self _ _) (by omega)
  have := pk_andN h2 (m := 1) 1 (by decide)
  exact this
theorem has_eq {z k : Nat} (hz : z < 2 ^ 31) (hk : k < 32) : x_X9_has (nI z) (nI k) = some (if z.testBit k = true then 1 else 0) := by
  unfold x_X9_has
  rw [shr1 hz hk]
  have h2 := Nat.mod_two_eq_zero_or_one (z / 2 ^ k)
  have h3 : z.testBit k = decide (z / 2 ^ k % 2 = 1) := Nat.testBit_eq_decide_div_mod_eq
  rcases h2 with h | h
  · rw [h, h3, h, if_neg (show ¬ nI 0 = 1 by decide)]
    rfl
  · rw [h, h3, h, if_pos (show nI 1 = 1 from rfl)]
    rfl
theorem has_10 (x y : Int32) : x_X10_has x y = x_X9_has x y := rfl
theorem bitCount_eq : ∀ z, z < 2048 → x_J6_bitCount_0f7a4 (nI z) = some (nI (bc z)) := by decide +kernel
theorem bits_eq {N : Nat} (hN : 4096 ≤ N) {z : Nat} (hz : z < 2 ^ 31) : x_X10_bits N (nI z) = some (nI (bc z)) := by
  unfold x_X10_bits
  obtain ⟨x, h1, h2⟩ := lpc_run (body := fun (q : Int32 × Int32) => x_X10_bits_b4 N (nI z) q.1 q.2) (I := fun k q => q = (nI (bcN z k), nI k)) (Pst := fun x => x = nI (bc z)) 11 (fun k q hk hI => by
    subst hI
    unfold x_X10_bits_b4
    have hb := bcN_le z k
    by_cases h : k = 11
    · subst h
      right
      exact ⟨nI (bc z), by simp (disch := omega) only [li_0, li_1, li_2, li_3, li_4, li_5, li_6, li_7, li_8, li_9, li_10, li_11, li_15, li_16, li_20, li_30, li_32, li_48, li_57, li_58, li_59, li_60, li_61, li_63, li_64, li_80, li_85, li_88, li_99, li_100, li_112, li_115, li_152, li_162, li_172, li_173, li_174, li_240, li_255, li_348, li_1000, li_3306, nI_leI, if_pos]; rfl, rfl⟩
    · left
      have hs := shr1 hz (show k < 32 by omega)
      refine ⟨(nI (bcN z (k + 1)), nI (k + 1)), ?_, by omega, rfl⟩
      simp only [hs, xl]
      simp (disch := omega) only [li_0, li_1, li_2, li_3, li_4, li_5, li_6, li_7, li_8, li_9, li_10, li_11, li_15, li_16, li_20, li_30, li_32, li_48, li_57, li_58, li_59, li_60, li_61, li_63, li_64, li_80, li_85, li_88, li_99, li_100, li_112, li_115, li_152, li_162, li_172, li_173, li_174, li_240, li_255, li_348, li_1000, li_3306, nI_leI, nI_add, if_neg]
      rfl) (N := N) (z := ((0 : Int32), (0 : Int32))) (by omega) rfl
  rw [h1, h2]
  rfl
