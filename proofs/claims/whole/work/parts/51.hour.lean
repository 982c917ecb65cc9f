/-! an hour, in the midst of it -/
def FM (pl h p0 : Nat) (F : St) (A : Nat → Int32) : Prop :=
  F 0 0 = nI h ∧ A 173 = nI h ∧ (∀ p k, p < 8 → k < 10 → ∃ z, z < 256 ∧ A (10 * p + k) = nI z ∧ (k = 0 ∧ p < p0 → F 6 (10 * p + (h + k) % 10) = nI 0) ∧ (¬ (k = 0 ∧ p < p0) → F 6 (10 * p + (h + k) % 10) = nI z) ∧ (pl ≤ p → z = 0)) ∧
  (∃ z, z < 1024 ∧ F 1 0 = nI z ∧ A 172 = nI z) ∧
  (∀ c, c < 10 → F 2 c = A (152 + c)) ∧
  (∀ c, c < 10 → F 3 c = A (162 + c) ∧ (A (162 + c) = -1 ∨ ∃ q, q < pl ∧ A (162 + c) = nI q)) ∧
  HR (F 4) (F 5) A
theorem FM.of {pl h p0 : Nat} {F F' : St} {A : Nat → Int32} (g : FM pl h p0 F A) (h0 : F' 0 0 = F 0 0) (h1 : F' 1 0 = F 1 0) (h2 : F' 2 = F 2) (h3 : F' 3 = F 3) (h4 : F' 4 = F 4) (h5 : F' 5 = F 5) (h6 : F' 6 = F 6) : FM pl h p0 F' A := by
  unfold FM
  rw [h0, h1, h2, h3, h4, h5, h6]
  exact g
theorem HR.far {f4 f5 A A' : Nat → Int32} (g : HR f4 f5 A) (hA : ∀ j, 80 ≤ j → j < 152 → A' j = A j) : HR f4 f5 A' := fun p hp => by
  obtain ⟨z, z1, z2, z3, z4⟩ := g p hp
  refine ⟨z, z1, z2, (hA _ (by omega) (by omega)).trans z3, fun t ht => ?_⟩
  rw [hA _ (by omega) (by omega)]
  exact z4 t ht
theorem FM.silt {pl h p0 : Nat} {F : St} {A : Nat → Int32} (g : FM pl h p0 F A) {c : Nat} (hc : c < 10) (x : Int32) : FM pl h p0 (va_up F 2 (upd (F 2) c x)) (upd A (152 + c) x) := by
  obtain ⟨a1, a2, a3, ⟨w, w1, w2, w3⟩, a5, a6, a7⟩ := g
  refine ⟨a1, (pk_un (by omega)).trans a2, fun p k hp hk => ?_, ⟨w, w1, w2, (pk_un (by omega)).trans w3⟩, fun d hd => ?_, fun d hd => ?_, a7.far (fun j _ _ => pk_un (by omega))⟩
  · obtain ⟨z, z1, z2, z3⟩ := a3 p k hp hk
    exact ⟨z, z1, (pk_un (by omega)).trans z2, z3⟩
  · show upd (F 2) c x d = _
    by_cases h : d = c
    · subst h; rw [pk_us, pk_us]
    · rw [pk_un h, pk_un (by omega)]; exact a5 d hd
  · rw [pk_un (by omega)]; exact a6 d hd
theorem FM.put {pl h p0 : Nat} {F : St} {A : Nat → Int32} (g : FM pl h p0 F A) {q t s : Nat} (hq : q < 8) (hql : q < pl) (ht : 1 ≤ t) (ht9 : t ≤ 9) (hs : s < 256) : ∃ z, z < 256 ∧ A (10 * q + t) = nI z ∧ F 6 (10 * q + (h + t) % 10) = nI z ∧ FM pl h p0 (va_up F 6 (upd (F 6) (10 * q + (h + t) % 10) (nI (z ||| s)))) (upd A (10 * q + t) (nI (z ||| s))) := by
  obtain ⟨a1, a2, a3, ⟨w, w1, w2, w3⟩, a5, a6, a7⟩ := g
  obtain ⟨z, z1, z2, z3, z4, z5⟩ := a3 q t hq (by omega)
  refine ⟨z, z1, z2, z4 (fun h => by omega), a1, (pk_un (by omega)).trans a2, fun p k hp hk => ?_, ⟨w, w1, w2, (pk_un (by omega)).trans w3⟩, fun d hd => ?_, fun d hd => ?_, a7.far (fun j _ _ => pk_un (by omega))⟩
  · by_cases hpk : p = q ∧ k = t
    · obtain ⟨rfl, rfl⟩ := hpk
      exact ⟨z ||| s, Nat.or_lt_two_pow (n := 8) z1 hs, pk_us, fun h => by omega, fun _ => pk_us, fun h => by omega⟩
    · obtain ⟨y, y1, y2, y3, y4, y5⟩ := a3 p k hp hk
      have hn : ¬ 10 * p + (h + k) % 10 = 10 * q + (h + t) % 10 := by omega
      exact ⟨y, y1, (pk_un (by omega)).trans y2, fun hh => (pk_un hn).trans (y3 hh), fun hh => (pk_un hn).trans (y4 hh), y5⟩
  · rw [pk_un (by omega)]; exact a5 d hd
  · rw [pk_un (by omega)]; exact a6 d hd
theorem FM.hear {N : Nat} (hN : 4096 ≤ N) {pl h p0 : Nat} {F : St} {A : Nat → Int32} (g : FM pl h p0 F A) (hh : h < 2 ^ 20) {q s : Nat} (hq : q < 8) (hs : s < 256) : ∃ f4 f5 r, x_X0_hearAt N F (nI q) (nI s) = some (f4, f5) ∧ x_X10_hearAt N A (nI q) (nI s) = some r ∧ FM pl h p0 (va_up (va_up F 4 f4) 5 f5) r := by
  obtain ⟨a1, a2, a3, ⟨w, w1, w2, w3⟩, a5, a6, a7⟩ := g
  obtain ⟨f4, f5, r, e1, e2, e3, e4⟩ := hear_eq hN hq hs (show h < 2 ^ 31 by omega) a1 a2 a7
  refine ⟨f4, f5, r, e1, e2, a1, (e4 _ (by omega)).trans a2, fun p k hp hk => ?_, ⟨w, w1, w2, (e4 _ (by omega)).trans w3⟩, fun d hd => ?_, fun d hd => ?_, e3⟩
  · obtain ⟨z, z1, z2, z3⟩ := a3 p k hp hk
    exact ⟨z, z1, (e4 _ (by omega)).trans z2, z3⟩
  · rw [e4 _ (by omega)]; exact a5 d hd
  · rw [e4 _ (by omega)]; exact a6 d hd
/-- the class sends down one channel -/
theorem sendC {N : Nat} {F P : St} {p s c q t h : Nat} {z : Nat} (hc : c < 10) (hs : s < 256) (hp : P 5 c = nI p) (hF : F 1 0 = nI z) (hz : z < 1024) (hb : z.testBit c = false) (hsi : ¬ P 0 0 ≤ F 2 c) (hq : P 6 c = nI q) (hql : q < 8) (ht : P 7 c = nI t) (ht9 : t ≤ 9) (hh : F 0 0 = nI h) (hh2 : h < 2 ^ 19) {f4 f5 : Nat → Int32} {w : Nat} (hw : F 6 (10 * q + (h + t) % 10) = nI w) (e1 : x_X0_hearAt N (va_up (va_up F 2 (upd (F 2) c (F 2 c + nI (bc s)))) 6 (upd (F 6) (10 * q + (h + t) % 10) (nI (w ||| s)))) (F 3 c) (nI s) = some (f4, f5)) {ch : Nat} (h2 : P 2 0 = nI ch) (hch : ch ≤ 10) (hcc : c < ch) : x_X0_sendOn_b8 N F P (nI p) (nI s) (nI c) = some (.inl (nI (c + 1), upd (F 2) c (F 2 c + nI (bc s)), f4, f5, upd (F 6) (10 * q + (h + t) % 10) (nI (w ||| s)))) := by
  have e : ((nI q * (10 : Int32)) + ((nI h + nI t) - (nI h + nI t) / (10 : Int32) * (10 : Int32))) = nI (10 * q + (h + t) % 10) := by
    rw [show nI h + nI t = nI (h + t) from nI_add h t, rem10 (by omega)]
    simp (disch := omega) only [li_0, li_1, li_2, li_3, li_4, li_5, li_6, li_7, li_8, li_9, li_10, li_11, li_15, li_16, li_20, li_30, li_32, li_48, li_57, li_58, li_59, li_60, li_61, li_63, li_64, li_80, li_85, li_88, li_99, li_100, li_112, li_115, li_152, li_162, li_172, li_173, li_174, li_240, li_255, li_348, li_1000, li_3306, nI_add, pk_mul]
    rw [Nat.mul_comm]
  unfold x_X0_sendOn_b8
  rw [h2, if_neg (nleI hcc (by omega)), ix hc (by omega), cl (by omega), if_pos hp, hF, has_eq (by omega) (by omega), hb]
  simp only [Option.bind_some, if_pos, Bool.false_eq_true, if_false, ix hc (show 10 < 2 ^ 31 by omega), hq, ht, hh, e, bitCount_eq s (by omega), xl]
  have i1 : ¬ (nI c < 0 ∨ 10 ≤ c) := by have := nI_in (c := c) (N := 10) hc (by omega); rwa [cl (by omega)] at this
  have i2 : ¬ (nI (10 * q + (h + t) % 10) < 0 ∨ 80 ≤ 10 * q + (h + t) % 10) := by have := nI_in (c := 10 * q + (h + t) % 10) (N := 80) (by omega) (by omega); rwa [cl (by omega)] at this
  simp only [if_neg i1, if_neg hsi, cl (show 10 * q + (h + t) % 10 < 2 ^ 31 by omega), if_neg i2, hw, nI_or, e1, Option.bind_some]
  simp (disch := omega) only [li_0, li_1, li_2, li_3, li_4, li_5, li_6, li_7, li_8, li_9, li_10, li_11, li_15, li_16, li_20, li_30, li_32, li_48, li_57, li_58, li_59, li_60, li_61, li_63, li_64, li_80, li_85, li_88, li_99, li_100, li_112, li_115, li_152, li_162, li_172, li_173, li_174, li_240, li_255, li_348, li_1000, li_3306, nI_add]
/-- the reference sends down one channel -/
theorem sendM {N : Nat} (hN : 4096 ≤ N) {M : St} {A : Nat → Int32} {p s c q t : Nat} {z : Nat} (hc : c < 10) (hs : s < 256) (hs0 : ¬ s = 0) (hp : M 19 (3 * c) = nI p) (hF : A 172 = nI z) (hz : z < 1024) (hb : z.testBit c = false) (hsi : ¬ M 15 0 ≤ A (152 + c)) (hq : M 19 (3 * c + 1) = nI q) (hql : q < 8) (ht : M 19 (3 * c + 2) = nI t) (ht9 : t ≤ 9) {w : Nat} (hw : A (10 * q + t) = nI w) {r : Nat → Int32} (e1 : ¬ A (162 + c) = -1 → x_X10_hearAt N (upd (upd A (10 * q + t) (nI (w ||| s))) (152 + c) (A (152 + c) + nI (bc s))) (A (162 + c)) (nI s) = some r) (e0 : A (162 + c) = -1 → r = upd (upd A (10 * q + t) (nI (w ||| s))) (152 + c) (A (152 + c) + nI (bc s))) {ch : Nat} (h2 : M 17 0 = nI ch) (hch : ch ≤ 10) (hcc : c < ch) : x_X10_passHour_b34 N M A (nI p) (nI s) (nI c) = some (.inl (nI (c + 1), r)) := by
  have c172 : (172 : Int32).toNatClampNeg = 172 := cl (k := 172) (by omega)
  have s0 : ¬ nI s = 0 := fun h => hs0 (nI_inj (b := 0) (by omega) (by omega) h)
  have e3 : (3 : Int32) * nI c = nI (3 * c) := by simp (disch := omega) only [li_0, li_1, li_2, li_3, li_4, li_5, li_6, li_7, li_8, li_9, li_10, li_11, li_15, li_16, li_20, li_30, li_32, li_48, li_57, li_58, li_59, li_60, li_61, li_63, li_64, li_80, li_85, li_88, li_99, li_100, li_112, li_115, li_152, li_162, li_172, li_173, li_174, li_240, li_255, li_348, li_1000, li_3306, pk_mul]
  have e31 : nI (3 * c) + (1 : Int32) = nI (3 * c + 1) := by simp (disch := omega) only [li_0, li_1, li_2, li_3, li_4, li_5, li_6, li_7, li_8, li_9, li_10, li_11, li_15, li_16, li_20, li_30, li_32, li_48, li_57, li_58, li_59, li_60, li_61, li_63, li_64, li_80, li_85, li_88, li_99, li_100, li_112, li_115, li_152, li_162, li_172, li_173, li_174, li_240, li_255, li_348, li_1000, li_3306, nI_add]
  have e32 : nI (3 * c) + (2 : Int32) = nI (3 * c + 2) := by simp (disch := omega) only [li_0, li_1, li_2, li_3, li_4, li_5, li_6, li_7, li_8, li_9, li_10, li_11, li_15, li_16, li_20, li_30, li_32, li_48, li_57, li_58, li_59, li_60, li_61, li_63, li_64, li_80, li_85, li_88, li_99, li_100, li_112, li_115, li_152, li_162, li_172, li_173, li_174, li_240, li_255, li_348, li_1000, li_3306, nI_add]
  have e5 : (152 : Int32) + nI c = nI (152 + c) := by simp (disch := omega) only [li_0, li_1, li_2, li_3, li_4, li_5, li_6, li_7, li_8, li_9, li_10, li_11, li_15, li_16, li_20, li_30, li_32, li_48, li_57, li_58, li_59, li_60, li_61, li_63, li_64, li_80, li_85, li_88, li_99, li_100, li_112, li_115, li_152, li_162, li_172, li_173, li_174, li_240, li_255, li_348, li_1000, li_3306, nI_add]
  have e6 : (162 : Int32) + nI c = nI (162 + c) := by simp (disch := omega) only [li_0, li_1, li_2, li_3, li_4, li_5, li_6, li_7, li_8, li_9, li_10, li_11, li_15, li_16, li_20, li_30, li_32, li_48, li_57, li_58, li_59, li_60, li_61, li_63, li_64, li_80, li_85, li_88, li_99, li_100, li_112, li_115, li_152, li_162, li_172, li_173, li_174, li_240, li_255, li_348, li_1000, li_3306, nI_add]
  have e7 : (10 : Int32) * nI q + nI t = nI (10 * q + t) := by simp (disch := omega) only [li_0, li_1, li_2, li_3, li_4, li_5, li_6, li_7, li_8, li_9, li_10, li_11, li_15, li_16, li_20, li_30, li_32, li_48, li_57, li_58, li_59, li_60, li_61, li_63, li_64, li_80, li_85, li_88, li_99, li_100, li_112, li_115, li_152, li_162, li_172, li_173, li_174, li_240, li_255, li_348, li_1000, li_3306, nI_add, pk_mul]
  have e8 : nI c + (1 : Int32) = nI (c + 1) := by simp (disch := omega) only [li_0, li_1, li_2, li_3, li_4, li_5, li_6, li_7, li_8, li_9, li_10, li_11, li_15, li_16, li_20, li_30, li_32, li_48, li_57, li_58, li_59, li_60, li_61, li_63, li_64, li_80, li_85, li_88, li_99, li_100, li_112, li_115, li_152, li_162, li_172, li_173, li_174, li_240, li_255, li_348, li_1000, li_3306, nI_add]
  have i3 : ∀ j, j < 30 → ¬ (nI j < 0 ∨ 30 ≤ j) := fun j hj => by have := nI_in (c := j) (N := 30) hj (by omega); rwa [cl (by omega)] at this
  have i4 : ∀ j, j < 174 → ¬ (nI j < 0 ∨ 174 ≤ j) := fun j hj => by have := nI_in (c := j) (N := 174) hj (by omega); rwa [cl (by omega)] at this
  unfold x_X10_passHour_b34
  rw [h2, if_neg (nleI hcc (by omega)), if_neg s0, e3, e31, e32, e5, e6, c172, hF, has_10, has_eq (by omega) (by omega), hb]
  simp only [cl (show 3 * c < 2 ^ 31 by omega), cl (show 3 * c + 1 < 2 ^ 31 by omega), cl (show 3 * c + 2 < 2 ^ 31 by omega), cl (show 152 + c < 2 ^ 31 by omega), cl (show 162 + c < 2 ^ 31 by omega), if_neg (i3 (3 * c) (by omega)), if_neg (i3 (3 * c + 1) (by omega)), if_neg (i3 (3 * c + 2) (by omega)), if_neg (i4 (152 + c) (by omega)), if_neg (i4 (162 + c) (by omega)), hp, hq, ht, if_pos, Option.bind_some, Bool.false_eq_true, if_false, if_neg hsi, xl, e7, cl (show 10 * q + t < 2 ^ 31 by omega), if_neg (i4 (10 * q + t) (by omega)), hw, nI_or, bits_eq hN (show s < 2 ^ 31 by omega), e8]
  rw [pk_un (show ¬ 152 + c = 10 * q + t by omega), pk_un (show ¬ 162 + c = 152 + c by omega), pk_un (show ¬ 162 + c = 10 * q + t by omega)]
  by_cases h : A (162 + c) = -1
  · rw [if_pos h, e0 h]
  · rw [if_neg h, e1 h]
    rfl
theorem skipC {N : Nat} {F P : St} {p s c ch : Nat} (h2 : P 2 0 = nI ch) (hch : ch ≤ 10) (hcc : c < ch) {z : Nat} (hF : F 1 0 = nI z) (hz : z < 1024) (h : ¬ P 5 c = nI p ∨ z.testBit c = true ∨ P 0 0 ≤ F 2 c) : x_X0_sendOn_b8 N F P (nI p) (nI s) (nI c) = some (.inl (nI (c + 1), F 2, F 4, F 5, F 6)) := by
  have e8 : nI c + (1 : Int32) = nI (c + 1) := by simp (disch := omega) only [li_0, li_1, li_2, li_3, li_4, li_5, li_6, li_7, li_8, li_9, li_10, li_11, li_15, li_16, li_20, li_30, li_32, li_48, li_57, li_58, li_59, li_60, li_61, li_63, li_64, li_80, li_85, li_88, li_99, li_100, li_112, li_115, li_152, li_162, li_172, li_173, li_174, li_240, li_255, li_348, li_1000, li_3306, nI_add]
  unfold x_X0_sendOn_b8
  rw [h2, if_neg (nleI hcc (by omega)), ix (by omega) (by omega), cl (by omega), hF, has_eq (by omega) (by omega), e8]
  by_cases h1 : P 5 c = nI p
  · rw [if_pos h1]
    by_cases h3 : z.testBit c = true
    · rw [if_pos h3]; rfl
    · rw [if_neg h3]
      have h4 : P 0 0 ≤ F 2 c := (h.resolve_left (fun k => k h1)).resolve_left h3
      have i1 : ¬ (nI c < 0 ∨ 10 ≤ c) := by have := nI_in (c := c) (N := 10) (by omega) (by omega); rwa [cl (by omega)] at this
      simp only [Option.bind_some, if_pos, if_neg i1, if_pos h4]
  · rw [if_neg h1]
theorem skipM {N : Nat} {M : St} {A : Nat → Int32} {p s c ch : Nat} (h2 : M 17 0 = nI ch) (hch : ch ≤ 10) (hcc : c < ch) (hs : s < 256) (hs0 : ¬ s = 0) {z : Nat} (hF : A 172 = nI z) (hz : z < 1024) (h : ¬ M 19 (3 * c) = nI p ∨ z.testBit c = true ∨ M 15 0 ≤ A (152 + c)) : x_X10_passHour_b34 N M A (nI p) (nI s) (nI c) = some (.inl (nI (c + 1), A)) := by
  have c172 : (172 : Int32).toNatClampNeg = 172 := cl (k := 172) (by omega)
  have s0 : ¬ nI s = 0 := fun h => hs0 (nI_inj (b := 0) (by omega) (by omega) h)
  have e3 : (3 : Int32) * nI c = nI (3 * c) := by simp (disch := omega) only [li_0, li_1, li_2, li_3, li_4, li_5, li_6, li_7, li_8, li_9, li_10, li_11, li_15, li_16, li_20, li_30, li_32, li_48, li_57, li_58, li_59, li_60, li_61, li_63, li_64, li_80, li_85, li_88, li_99, li_100, li_112, li_115, li_152, li_162, li_172, li_173, li_174, li_240, li_255, li_348, li_1000, li_3306, pk_mul]
  have e5 : (152 : Int32) + nI c = nI (152 + c) := by simp (disch := omega) only [li_0, li_1, li_2, li_3, li_4, li_5, li_6, li_7, li_8, li_9, li_10, li_11, li_15, li_16, li_20, li_30, li_32, li_48, li_57, li_58, li_59, li_60, li_61, li_63, li_64, li_80, li_85, li_88, li_99, li_100, li_112, li_115, li_152, li_162, li_172, li_173, li_174, li_240, li_255, li_348, li_1000, li_3306, nI_add]
  have e8 : nI c + (1 : Int32) = nI (c + 1) := by simp (disch := omega) only [li_0, li_1, li_2, li_3, li_4, li_5, li_6, li_7, li_8, li_9, li_10, li_11, li_15, li_16, li_20, li_30, li_32, li_48, li_57, li_58, li_59, li_60, li_61, li_63, li_64, li_80, li_85, li_88, li_99, li_100, li_112, li_115, li_152, li_162, li_172, li_173, li_174, li_240, li_255, li_348, li_1000, li_3306, nI_add]
  unfold x_X10_passHour_b34
  rw [h2, if_neg (nleI hcc (by omega)), if_neg s0, e3, ix (by omega) (by omega), cl (by omega), c172, hF, has_10, has_eq (by omega) (by omega), e8, e5]
  by_cases h1 : M 19 (3 * c) = nI p
  · rw [if_pos h1]
    by_cases h3 : z.testBit c = true
    · rw [if_pos h3]; rfl
    · rw [if_neg h3]
      have h4 : M 15 0 ≤ A (152 + c) := (h.resolve_left (fun k => k h1)).resolve_left h3
      rw [cl (show 152 + c < 2 ^ 31 by omega)]
      have i1 : ¬ (nI (152 + c) < 0 ∨ 174 ≤ 152 + c) := by have := nI_in (c := 152 + c) (N := 174) (by omega) (by omega); rwa [cl (by omega)] at this
      simp only [Option.bind_some, if_pos, if_neg i1, if_pos h4]
  · rw [if_neg h1]
theorem send_step {N : Nat} (hN : 4096 ≤ N) {pl ch p0 h : Nat} {D : Nat → Nat → Nat} {P M F : St} {A : Nat → Int32} (hPR : PR pl ch D P (M 15 0) (M 16 0) (M 17 0) (M 18) (M 19)) (g : FM pl h p0 F A) (hh : h < 2 ^ 19) {p s c : Nat} (hs : s < 256) (hs0 : ¬ s = 0) (hc : c < ch) : ∃ f2 f4 f5 f6 r, x_X0_sendOn_b8 N F P (nI p) (nI s) (nI c) = some (.inl (nI (c + 1), f2, f4, f5, f6)) ∧ x_X10_passHour_b34 N M A (nI p) (nI s) (nI c) = some (.inl (nI (c + 1), r)) ∧ FM pl h p0 (va_up (va_up (va_up (va_up F 2 f2) 4 f4) 5 f5) 6 f6) r := by
  obtain ⟨r1, r2, r3, r4, r5, r6, r7, r8, r9, _⟩ := hPR
  obtain ⟨b1, b2, b3, b4, b5, b6, b7, b8, b9, b10, b11⟩ := r9 c hc
  have g' := g
  obtain ⟨a1, a2, a3, ⟨z, w1, w2, w3⟩, a5, a6, a7⟩ := g
  by_cases hsk : ¬ P 5 c = nI p ∨ z.testBit c = true ∨ P 0 0 ≤ F 2 c
  · refine ⟨F 2, F 4, F 5, F 6, A, skipC r6 r2 hc w2 w1 hsk, skipM r7 r2 hc hs hs0 w3 w1 ?_, g'.of rfl rfl rfl rfl rfl rfl rfl⟩
    rw [b7, ← b6, ← r3, ← a5 c (by omega)]
    exact hsk
  · have k1 : P 5 c = nI p := Decidable.byContradiction (fun h => hsk (Or.inl h))
    have k2 : z.testBit c = false := by
      cases hz : z.testBit c
      · rfl
      · exact absurd (Or.inr (Or.inl hz)) hsk
    have k3 : ¬ P 0 0 ≤ F 2 c := fun h => hsk (Or.inr (Or.inr h))
    obtain ⟨w, y1, y2, y3, y4⟩ := g'.put (q := D 3 c) (t := D 4 c) (s := s) (by omega) b2 b3 b4 hs
    have y5 := y4.silt (c := c) (by omega) (F 2 c + nI (bc s))
    have y6 : FM pl h p0 (va_up (va_up F 2 (upd (F 2) c (F 2 c + nI (bc s)))) 6 (upd (F 6) (10 * D 3 c + (h + D 4 c) % 10) (nI (w ||| s)))) _ := y5.of rfl rfl rfl rfl rfl rfl rfl
    have k3' : ¬ M 15 0 ≤ A (152 + c) := by rw [← r3, ← a5 c (by omega)]; exact k3
    have k1' : M 19 (3 * c) = nI p := by rw [b7, ← b6]; exact k1
    rcases (a6 c (by omega)).2 with hcr | ⟨q, hq, hcr⟩
    · have e1 : x_X0_hearAt N (va_up (va_up F 2 (upd (F 2) c (F 2 c + nI (bc s)))) 6 (upd (F 6) (10 * D 3 c + (h + D 4 c) % 10) (nI (w ||| s)))) (F 3 c) (nI s) = some (F 4, F 5) := by
        rw [(a6 c (by omega)).1, hcr]
        unfold x_X0_hearAt
        rw [if_pos (by decide)]
        rfl
      refine ⟨_, _, _, _, _, sendC (by omega) hs k1 w2 w1 k2 k3 b8 (by omega) b10 b4 a1 hh y3 e1 r6 r2 hc, sendM hN (by omega) hs hs0 k1' w3 w1 k2 k3' b9 (by omega) b11 b4 y2 (fun h => absurd hcr h) (fun _ => rfl) r7 r2 hc, ?_⟩
      rw [← a5 c (by omega)]
      exact y6.of rfl rfl rfl rfl rfl rfl rfl
    · obtain ⟨f4, f5, r, z1, z2, z3⟩ := y6.hear hN (show h < 2 ^ 20 by omega) (q := q) (by omega) hs
      rw [a5 c (by omega)] at z2
      refine ⟨_, _, _, _, _, sendC (by omega) hs k1 w2 w1 k2 k3 b8 (by omega) b10 b4 a1 hh y3 (by rw [(a6 c (by omega)).1, hcr]; exact z1) r6 r2 hc, sendM hN (by omega) hs hs0 k1' w3 w1 k2 k3' b9 (by omega) b11 b4 y2 (fun _ => by rw [hcr]; exact z2) (fun h => absurd (hcr.symm.trans h) (nI_ne_m1 (by omega))) r7 r2 hc, ?_⟩
      exact z3.of rfl rfl rfl rfl rfl rfl rfl
theorem send_eq {N : Nat} (hN : 4096 ≤ N) {pl ch p0 h : Nat} {D : Nat → Nat → Nat} {P M F : St} {A : Nat → Int32} (hPR : PR pl ch D P (M 15 0) (M 16 0) (M 17 0) (M 18) (M 19)) (g : FM pl h p0 F A) (hh : h < 2 ^ 19) {p s : Nat} (hs : s < 256) : ∃ f2 f4 f5 f6 r, x_X0_sendOn N F P (nI p) (nI s) = some (f2, f4, f5, f6) ∧ lpc (fun (z : Int32 × (Nat → Int32)) => x_X10_passHour_b34 N M z.2 (nI p) (nI s) z.1) N ((0 : Int32), A) = some r ∧ FM pl h p0 (va_up (va_up (va_up (va_up F 2 f2) 4 f4) 5 f5) 6 f6) r := by
  have r6 := hPR.2.2.2.2.2.1
  have r7 := hPR.2.2.2.2.2.2.1
  have hch := hPR.2.1
  by_cases hs0 : s = 0
  · subst hs0
    refine ⟨F 2, F 4, F 5, F 6, A, by unfold x_X0_sendOn; rw [if_pos (show nI 0 = 0 from rfl)], ?_, g.of rfl rfl rfl rfl rfl rfl rfl⟩
    obtain ⟨x, e1, e2⟩ := lpc_run (body := fun (z : Int32 × (Nat → Int32)) => x_X10_passHour_b34 N M z.2 (nI p) (nI 0) z.1) (I := fun k z => z = ((0 : Int32), A)) (Pst := fun x => x = A) 0 (fun k z hk hI => by
      subst hI
      right
      refine ⟨A, ?_, rfl⟩
      show x_X10_passHour_b34 N M A (nI p) (nI 0) 0 = _
      unfold x_X10_passHour_b34
      by_cases h : M 17 0 ≤ 0
      · rw [if_pos h]
      · rw [if_neg h, if_pos (show nI 0 = 0 from rfl)]) (N := N) (z := ((0 : Int32), A)) (by omega) rfl
    rw [e1, e2]
  · have s0 : ¬ nI s = 0 := fun h => hs0 (nI_inj (b := 0) (by omega) (by omega) h)
    obtain ⟨x, x', e1, e2, e3⟩ := lpc_sim (b1 := fun (z : Int32 × (Nat → Int32) × (Nat → Int32) × (Nat → Int32) × (Nat → Int32)) => x_X0_sendOn_b8 N (va_up (va_up (va_up (va_up F 2 z.2.1) 4 z.2.2.1) 5 z.2.2.2.1) 6 z.2.2.2.2) P (nI p) (nI s) z.1) (b2 := fun (z : Int32 × (Nat → Int32)) => x_X10_passHour_b34 N M z.2 (nI p) (nI s) z.1)
      (I := fun k z z' => z.1 = nI k ∧ z'.1 = nI k ∧ FM pl h p0 (va_up (va_up (va_up (va_up F 2 z.2.1) 4 z.2.2.1) 5 z.2.2.2.1) 6 z.2.2.2.2) z'.2) (Pst := fun z z' => FM pl h p0 (va_up (va_up (va_up (va_up F 2 z.1) 4 z.2.1) 5 z.2.2.1) 6 z.2.2.2) z') ch (fun k z z' hk hI => by
      obtain ⟨z1, f2, f4, f5, f6⟩ := z
      obtain ⟨z1', A'⟩ := z'
      obtain ⟨rfl, rfl, hI⟩ := hI
      dsimp only at hI
      by_cases hk8 : k = ch
      · subst hk8
        right
        refine ⟨(f2, f4, f5, f6), A', ?_, ?_, hI⟩
        · show x_X0_sendOn_b8 _ _ _ _ _ _ = _
          unfold x_X0_sendOn_b8
          rw [r6, if_pos (nI_le (Nat.le_refl _) (by omega))]
          rfl
        · show x_X10_passHour_b34 _ _ _ _ _ _ = _
          unfold x_X10_passHour_b34
          rw [r7, if_pos (nI_le (Nat.le_refl _) (by omega))]
      · left
        obtain ⟨g2, g4, g5, g6, r, q1, q2, q3⟩ := send_step hN hPR hI hh hs hs0 (p := p) (show k < ch by omega)
        exact ⟨_, _, q1, q2, by omega, rfl, rfl, q3.of rfl rfl rfl rfl rfl rfl rfl⟩) (N := N) (z := ((0 : Int32), F 2, F 4, F 5, F 6)) (z' := ((0 : Int32), A)) (by omega) ⟨rfl, rfl, g.of rfl rfl rfl rfl rfl rfl rfl⟩
    obtain ⟨f2, f4, f5, f6⟩ := x
    refine ⟨f2, f4, f5, f6, x', ?_, e2, e3⟩
    unfold x_X0_sendOn
    rw [if_neg s0, e1]
    rfl
