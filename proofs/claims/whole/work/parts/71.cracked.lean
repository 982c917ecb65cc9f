/-! where a crack is -/
def crk (k to c : Nat) : Nat := if c = k then to else 9
theorem RDr.fn {pl : Nat} {c0 : Int32} {c2 c3 c4 : Nat → Int32} {m28 : Int32} {m29 : Nat → Int32} (h : RDr pl c0 c2 c3 c4 m28 m29) (hpl : pl ≤ 8) : ∃ (d : Nat) (dp dt dh : Nat → Nat), d ≤ 6 ∧ c0 = nI d ∧ m28 = nI d ∧ ∀ i, i < d → dp i < pl ∧ dt i < 8 ∧ dh i ≤ 99 ∧ c2 i = nI (dp i) ∧ m29 (3 * i) = nI (dp i) ∧ c3 i = nI (dt i) ∧ m29 (3 * i + 1) = nI (dt i) ∧ c4 i = nI (dh i) ∧ m29 (3 * i + 2) = nI (dh i) := by
  obtain ⟨d, h1, h2, h3, h4⟩ := h
  refine ⟨d, fun i => (c2 i).toNatClampNeg, fun i => (c3 i).toNatClampNeg, fun i => (c4 i).toNatClampNeg, h1, h2, h3, fun i hi => ?_⟩
  obtain ⟨p, t, hh, a1, a2, a3, a4, a5, a6, a7, a8, a9⟩ := h4 i hi
  dsimp only
  rw [a4, a6, a8, cl (by omega), cl (by omega), cl (by omega)]
  exact ⟨a1, a2, by omega, rfl, a5, rfl, a7, rfl, a9⟩
theorem crackAlone_val {N : Nat} (hN : 4096 ≤ N) {F : St} {k to : Nat} (hk : k ≤ 10) (hto : to < 8) : ∃ v, x_X7_crackAlone N F (nI k) (nI to) = some v ∧ CR 10 v (crk k to) := by
  obtain ⟨v, v1, v2⟩ := fill_eq hN (n := 10) (by omega) (a := F 2) (x := -1)
  have v3 : ∀ c, c < 10 → v c = -1 := fun c hc => by rw [v2 c, if_pos hc]
  unfold x_X7_crackAlone
  rw [v1]
  simp only [Option.bind_some]
  rw [if_neg (nI_pos (by omega))]
  by_cases h10 : k = 10
  · rw [if_pos (show (10 : Int32) ≤ nI k by rw [h10]; decide)]
    refine ⟨v, rfl, fun c hc => Or.inr ⟨?_, v3 c hc⟩⟩
    unfold crk
    rw [if_neg (by omega)]
  · rw [if_neg (show ¬ (10 : Int32) ≤ nI k from nI_ge (b := 10) (by omega) (by omega)), ix (show k < 10 by omega) (by omega), cl (by omega)]
    refine ⟨_, rfl, fun c hc => ?_⟩
    unfold crk
    by_cases hck : c = k
    · rw [if_pos hck, hck, pk_us]; exact Or.inl ⟨hto, rfl⟩
    · rw [if_neg hck, pk_un hck]; exact Or.inr ⟨rfl, v3 c hc⟩
def drF (D : Nat → Nat → Nat) (z ch : Nat) (dp dt dh : Nat → Nat) (to k n : Nat) : Prop := ∀ i, i < n → fh (gg D z (dt i) (crk k to) ch (dp i)) = dh i
def DRS (pl d : Nat) (dp dt dh : Nat → Nat) (c2 c3 c4 m29 : Nat → Int32) : Prop := ∀ i, i < d → dp i < pl ∧ dt i < 8 ∧ dh i ≤ 99 ∧ c2 i = nI (dp i) ∧ m29 (3 * i) = nI (dp i) ∧ c3 i = nI (dt i) ∧ m29 (3 * i + 1) = nI (dt i) ∧ c4 i = nI (dh i) ∧ m29 (3 * i + 2) = nI (dh i)
theorem fits_val {N pl ch z d k to : Nat} (hN : 4096 ≤ N) {D : Nat → Nat → Nat} {L : SL} {T P F Q M : St} {dp dt dh : Nat → Nat} {m29 : Nat → Int32} (hPR : PR pl ch D P (M 15 0) (M 16 0) (M 17 0) (M 18) (M 19)) (hpl : 0 < pl) (hz : z < 1024) (hF : F 1 0 = nI z) (hd : d ≤ 6) (hQ : Q 0 0 = nI d) (hdr : DRS pl d dp dt dh (Q 2) (Q 3) (Q 4) m29) (hk : k ≤ 10) (hto : to < 8) : ∃ r v f0 f1, x_X7_fits N T L P F Q (nI k) (nI to) = some (r, v, f0, f1) ∧ ((r = 1 ∧ drF D z ch dp dt dh to k d) ∨ (r = 0 ∧ ¬ drF D z ch dp dt dh to k d)) := by
  have r1 := hPR.1
  have r2 := hPR.2.1
  have hpd := hPR.pd
  obtain ⟨v, v1, v2⟩ := crackAlone_val hN (F := T) hk hto
  obtain ⟨x, u1, u2⟩ := lpc_run (body := fun (q : Int32 × (Nat → Int64) × (Nat → Int64)) => x_X7_fits_b11 N (va_up T 2 v) (va_up (va_up L 0 q.2.1) 1 q.2.2) P F Q q.1) (I := fun i q => q.1 = nI i ∧ drF D z ch dp dt dh to k i) (Pst := fun x => (∃ y, x = .inr y ∧ drF D z ch dp dt dh to k d) ∨ (∃ y, x = .inl y ∧ ¬ drF D z ch dp dt dh to k d)) d (fun i q hi hI => by
    obtain ⟨q1, g0, g1⟩ := q
    obtain ⟨rfl, h1⟩ := hI
    show (∃ z', x_X7_fits_b11 N (va_up T 2 v) (va_up (va_up L 0 g0) 1 g1) P F Q (nI i) = _ ∧ _) ∨ (∃ x, x_X7_fits_b11 N (va_up T 2 v) (va_up (va_up L 0 g0) 1 g1) P F Q (nI i) = _ ∧ _)
    have t2 : (va_up T 2 v) 2 = v := rfl
    unfold x_X7_fits_b11
    rw [hQ, hF, t2]
    by_cases hi8 : i = d
    · subst hi8
      right
      rw [if_pos (nI_le (Nat.le_refl _) (by omega))]
      exact ⟨_, rfl, Or.inl ⟨_, rfl, h1⟩⟩
    · obtain ⟨a1, a2, a3, a4, a5, a6, a7, a8, a9⟩ := hdr i (by omega)
      have i6 : ¬ (nI i < 0 ∨ 6 ≤ i) := by have := nI_in (c := i) (N := 6) (by omega) (by omega); rwa [cl (by omega)] at this
      have e8 : nI i + (1 : Int32) = nI (i + 1) := by simp (disch := omega) only [li_0, li_1, li_2, li_3, li_4, li_5, li_6, li_7, li_8, li_9, li_10, li_11, li_15, li_16, li_20, li_30, li_32, li_48, li_57, li_58, li_59, li_60, li_61, li_63, li_64, li_80, li_85, li_88, li_99, li_100, li_112, li_115, li_152, li_162, li_172, li_173, li_174, li_240, li_255, li_348, li_1000, li_3306, nI_add]
      obtain ⟨f0, f1, y1, y2⟩ := run_val hN (L := va_up (va_up L 0 g0) 1 g1) (M := M) (f := v) hPR hz a2 (v2.le r2)
      have y3 := y2 hpl (dp i) (by omega)
      have y4 := firstHour_val (L := va_up (va_up (va_up (va_up L 0 g0) 1 g1) 0 f0) 1 f1) (show dp i < 8 by omega) y3.1 y3.2 (Hf_lt hpd _ (Nat.le_refl ch) _) (Gf_lt hpd _ _ (Nat.le_refl ch) _)
      rw [if_neg (nleI (show i < d by omega) (by omega)), cl (by omega), if_neg i6, a4, a6, a8, y1]
      simp only [Option.bind_some]
      rw [if_neg i6, y4]
      simp only [Option.bind_some]
      rw [if_neg i6, e8]
      by_cases hfh : fh (gg D z (dt i) (crk k to) ch (dp i)) = dh i
      · left
        rw [if_pos (show nI (fh (Hf D (okf D z (dt i)) ch (dp i) ||| Gf D (okf D z (dt i)) (crk k to) ch (dp i))) = nI (dh i) from congrArg nI hfh)]
        refine ⟨_, rfl, by omega, rfl, fun j hj => ?_⟩
        by_cases hji : j = i
        · rw [hji]; exact hfh
        · exact h1 j (by omega)
      · right
        rw [if_neg (show ¬ nI (fh (Hf D (okf D z (dt i)) ch (dp i) ||| Gf D (okf D z (dt i)) (crk k to) ch (dp i))) = nI (dh i) from fun h => hfh (nI_inj (by have := fh_le (gg_lt hpd z (dt i) (crk k to) (dp i)); omega) (by omega) h))]
        exact ⟨_, rfl, Or.inr ⟨_, rfl, fun h => hfh (h i (by omega))⟩⟩) (N := N) (z := ((0 : Int32), L 0, L 1)) (by omega) ⟨rfl, fun i hi => absurd hi (Nat.not_lt_zero i)⟩
  unfold x_X7_fits
  rw [v1]
  simp only [Option.bind_some]
  rw [u1]
  rcases u2 with ⟨y, y1, y2⟩ | ⟨y, y1, y2⟩
  · rw [y1]; exact ⟨_, _, _, _, rfl, Or.inl ⟨rfl, y2⟩⟩
  · rw [y1]; exact ⟨_, _, _, _, rfl, Or.inr ⟨rfl, y2⟩⟩
/-- a set of cases, up to K -/
def CS (Q : Nat → Prop) (K : Nat) (x : Int32) : Prop := ∃ s, s < 2 ^ K ∧ x = nI s ∧ ∀ k, s.testBit k = true ↔ k < K ∧ Q k
theorem CS.uniq {Q : Nat → Prop} {K : Nat} {x y : Int32} (h : CS Q K x) (g : CS Q K y) : x = y := by
  obtain ⟨s, s1, s2, s3⟩ := h
  obtain ⟨t, t1, t2, t3⟩ := g
  rw [s2, t2]
  refine congrArg nI (Nat.eq_of_testBit_eq (fun i => ?_))
  have : s.testBit i = true ↔ t.testBit i = true := (s3 i).trans (t3 i).symm
  cases hs : s.testBit i
  · cases ht : t.testBit i
    · rfl
    · rw [hs, ht] at this; exact absurd (this.mpr rfl) Bool.false_ne_true
  · exact (this.mp hs).symm
theorem CS.no {Q : Nat → Prop} {k : Nat} {x : Int32} (h : CS Q k x) (hq : ¬ Q k) : CS Q (k + 1) x := by
  obtain ⟨s, s1, s2, s3⟩ := h
  refine ⟨s, by have e : 2 ^ (k + 1) = 2 ^ k * 2 := rfl; omega, s2, fun j => ?_⟩
  rw [s3]
  constructor
  · rintro ⟨h1, h2⟩; exact ⟨by omega, h2⟩
  · rintro ⟨h1, h2⟩
    refine ⟨?_, h2⟩
    have : ¬ j = k := fun h => hq (h ▸ h2)
    omega
theorem CS.yes {Q : Nat → Prop} {k : Nat} {x : Int32} (h : CS Q k x) (hq : Q k) : CS Q (k + 1) (x ||| nI (2 ^ k)) := by
  obtain ⟨s, s1, s2, s3⟩ := h
  have e : 2 ^ (k + 1) = 2 ^ k * 2 := rfl
  refine ⟨s ||| 2 ^ k, Nat.or_lt_two_pow (by omega) (by have := Nat.two_pow_pos k; omega), by rw [s2, nI_or], fun j => ?_⟩
  rw [Nat.testBit_or, Bool.or_eq_true, s3, Nat.testBit_two_pow, decide_eq_true_eq]
  constructor
  · rintro (⟨h1, h2⟩ | h1)
    · exact ⟨by omega, h2⟩
    · subst h1; exact ⟨by omega, hq⟩
  · rintro ⟨h1, h2⟩
    by_cases hj : k = j
    · exact Or.inr hj
    · exact Or.inl ⟨by omega, h2⟩
def QF (D : Nat → Nat → Nat) (z ch d : Nat) (dp dt dh : Nat → Nat) (to k : Nat) : Prop := (k < ch ∨ k = 10) ∧ drF D z ch dp dt dh to k d
theorem fitting_val {N pl ch z d to : Nat} (hN : 4096 ≤ N) {D : Nat → Nat → Nat} {L : SL} {T P F Q M : St} {dp dt dh : Nat → Nat} {m29 : Nat → Int32} (hPR : PR pl ch D P (M 15 0) (M 16 0) (M 17 0) (M 18) (M 19)) (hpl : 0 < pl) (hz : z < 1024) (hF : F 1 0 = nI z) (hd : d ≤ 6) (hQ : Q 0 0 = nI d) (hdr : DRS pl d dp dt dh (Q 2) (Q 3) (Q 4) m29) (hto : to < 8) : ∃ x v f0 f1, x_X7_fittingCracks N T L P F Q (nI to) = some (x, v, f0, f1) ∧ CS (QF D z ch d dp dt dh to) 11 x := by
  have r2 := hPR.2.1
  have r6 := hPR.2.2.2.2.2.1
  obtain ⟨x, u1, u2⟩ := lpc_run (body := fun (q : Int32 × Int32 × (Nat → Int32) × (Nat → Int64) × (Nat → Int64)) => x_X7_fittingCracks_b6 N (va_up T 2 q.2.2.1) (va_up (va_up L 0 q.2.2.2.1) 1 q.2.2.2.2) P F Q (nI to) q.1 q.2.1) (I := fun k q => q.2.1 = nI k ∧ CS (QF D z ch d dp dt dh to) k q.1) (Pst := fun x => CS (QF D z ch d dp dt dh to) 11 x.1) 11 (fun k q hk hI => by
    obtain ⟨q1, q2, g, g0, g1⟩ := q
    obtain ⟨rfl, h1⟩ := hI
    dsimp only at h1
    show (∃ z', x_X7_fittingCracks_b6 N (va_up T 2 g) (va_up (va_up L 0 g0) 1 g1) P F Q (nI to) q1 (nI k) = _ ∧ _) ∨ (∃ x, x_X7_fittingCracks_b6 N (va_up T 2 g) (va_up (va_up L 0 g0) 1 g1) P F Q (nI to) q1 (nI k) = _ ∧ _)
    unfold x_X7_fittingCracks_b6
    rw [r6]
    by_cases hk8 : k = 11
    · subst hk8
      right
      rw [if_pos (show (11 : Int32) ≤ nI 11 by decide)]
      exact ⟨_, rfl, h1⟩
    · left
      have e8 : nI k + (1 : Int32) = nI (k + 1) := by simp (disch := omega) only [li_0, li_1, li_2, li_3, li_4, li_5, li_6, li_7, li_8, li_9, li_10, li_11, li_15, li_16, li_20, li_30, li_32, li_48, li_57, li_58, li_59, li_60, li_61, li_63, li_64, li_80, li_85, li_88, li_99, li_100, li_112, li_115, li_152, li_162, li_172, li_173, li_174, li_240, li_255, li_348, li_1000, li_3306, nI_add]
      rw [if_neg (show ¬ (11 : Int32) ≤ nI k from nI_ge (b := 11) (by omega) (by omega))]
      have go : (k < ch ∨ k = 10) → ∃ z', x_X7_fittingCracks_b6_k29 N (va_up T 2 g) (va_up (va_up L 0 g0) 1 g1) P F Q (nI to) q1 (nI k) = some (.inl z') ∧ k < 11 ∧ z'.2.1 = nI (k + 1) ∧ CS (QF D z ch d dp dt dh to) (k + 1) z'.1 := fun hkc => by
        obtain ⟨r, v, f0, f1, y1, y2⟩ := fits_val hN (T := va_up T 2 g) (L := va_up (va_up L 0 g0) 1 g1) (M := M) (F := F) (Q := Q) (m29 := m29) hPR hpl hz hF hd hQ hdr (show k ≤ 10 by omega) hto
        unfold x_X7_fittingCracks_b6_k29
        rw [y1]
        simp only [Option.bind_some]
        rw [e8, s_l10 k (by omega)]
        rcases y2 with ⟨y2, y3⟩ | ⟨y2, y3⟩
        · rw [y2, if_neg z10]
          exact ⟨_, rfl, by omega, rfl, h1.yes ⟨hkc, y3⟩⟩
        · rw [y2, if_pos rfl]
          exact ⟨_, rfl, by omega, rfl, h1.no (fun h => y3 h.2)⟩
      by_cases hkc : k < ch
      · rw [if_pos (nI_lt hkc (by omega))]
        exact go (Or.inl hkc)
      · rw [if_neg (nI_nlt (by omega) (by omega))]
        by_cases hk10 : k = 10
        · rw [if_pos (show nI k = 10 by rw [hk10]; rfl)]
          exact go (Or.inr hk10)
        · rw [if_neg (show ¬ nI k = 10 from fun h => hk10 (nI_inj (b := 10) (by omega) (by omega) h)), e8]
          exact ⟨_, rfl, by omega, rfl, h1.no (fun h => h.1.elim hkc hk10)⟩) (N := N) (z := ((0 : Int32), (0 : Int32), T 2, L 0, L 1)) (by omega) ⟨rfl, 0, by omega, rfl, fun k => by
      rw [Nat.zero_testBit]
      exact ⟨fun h => absurd h Bool.false_ne_true, fun h => absurd h.1 (Nat.not_lt_zero k)⟩⟩
  obtain ⟨x, v, f0, f1⟩ := x
  refine ⟨x, v, f0, f1, ?_, u2⟩
  unfold x_X7_fittingCracks
  rw [u1]
  rfl
/-! the same in the reference -/
theorem rfits_val {N pl ch z d k to : Nat} (hN : 4096 ≤ N) {D : Nat → Nat → Nat} {P M : St} {x2 s0 : Int32} {dp dt dh : Nat → Nat} {c2 c3 c4 : Nat → Int32} (hPR : PR pl ch D P (M 15 0) (M 16 0) (M 17 0) (M 18) (M 19)) (hz : z < 1024) (hF : M 20 172 = nI z) (hd : d ≤ 6) (hM : M 28 0 = nI d) (hdr : DRS pl d dp dt dh c2 c3 c4 (M 29)) (hk : k ≤ 10) (hto : to < pl) (hs : s0 = 0 ∨ s0 = 1) : ∃ r w w', lpc (fun (q : Int32 × Int32 × (Nat → Int32) × (Nat → Int32)) => x_X10_crackedBy_b34 N (va_up (va_up M 32 q.2.2.1) 33 q.2.2.2) (nI to) x2 (nI k) q.1 q.2.1) N (s0, (0 : Int32), M 32, M 33) = some (r, w, w') ∧ ((r = 1 ∧ (s0 = 1 ∧ drF D z ch dp dt dh to k d)) ∨ (r = 0 ∧ ¬ (s0 = 1 ∧ drF D z ch dp dt dh to k d))) := by
  have r1 := hPR.1
  have hpd := hPR.pd
  obtain ⟨x, u1, u2⟩ := lpc_run (body := fun (q : Int32 × Int32 × (Nat → Int32) × (Nat → Int32)) => x_X10_crackedBy_b34 N (va_up (va_up M 32 q.2.2.1) 33 q.2.2.2) (nI to) x2 (nI k) q.1 q.2.1) (I := fun i q => q.2.1 = nI i ∧ ((q.1 = 1 ∧ (s0 = 1 ∧ drF D z ch dp dt dh to k i)) ∨ (q.1 = 0 ∧ ¬ (s0 = 1 ∧ drF D z ch dp dt dh to k i)))) (Pst := fun x => ((x.1 = 1 ∧ (s0 = 1 ∧ drF D z ch dp dt dh to k d)) ∨ (x.1 = 0 ∧ ¬ (s0 = 1 ∧ drF D z ch dp dt dh to k d)))) d (fun i q hi hI => by
    obtain ⟨q1, q2, g0, g1⟩ := q
    obtain ⟨rfl, h1⟩ := hI
    dsimp only at h1
    show (∃ z', x_X10_crackedBy_b34 N (va_up (va_up M 32 g0) 33 g1) (nI to) x2 (nI k) q1 (nI i) = _ ∧ _) ∨ (∃ x, x_X10_crackedBy_b34 N (va_up (va_up M 32 g0) 33 g1) (nI to) x2 (nI k) q1 (nI i) = _ ∧ _)
    have t28 : (va_up (va_up M 32 g0) 33 g1) 28 0 = nI d := hM
    have t29 : (va_up (va_up M 32 g0) 33 g1) 29 = M 29 := rfl
    have t20 : (va_up (va_up M 32 g0) 33 g1) 20 = M 20 := rfl
    have c172 : (172 : Int32).toNatClampNeg = 172 := rfl
    unfold x_X10_crackedBy_b34
    rw [t28, t29, t20, c172, hF]
    by_cases hi8 : i = d
    · subst hi8
      right
      rw [if_pos (nI_le (Nat.le_refl _) (by omega))]
      exact ⟨_, rfl, h1⟩
    · rw [if_neg (nleI (show i < d by omega) (by omega))]
      rcases h1 with ⟨h1, h2, h3⟩ | ⟨h1, h2⟩
      · left
        obtain ⟨a1, a2, a3, a4, a5, a6, a7, a8, a9⟩ := hdr i (by omega)
        obtain ⟨e1, e2, e3⟩ := chan3 i
        have i18 : ∀ j, j < 18 → ¬ (nI j < 0 ∨ 18 ≤ j) := fun j hj => by have := nI_in (c := j) (N := 18) hj (by omega); rwa [cl (by omega)] at this
        have i2 : ¬ (nI (dp i) < 0 ∨ 8 ≤ dp i) := by have := nI_in (c := dp i) (N := 8) (by omega) (by omega); rwa [cl (by omega)] at this
        have e8 : nI i + (1 : Int32) = nI (i + 1) := by simp (disch := omega) only [li_0, li_1, li_2, li_3, li_4, li_5, li_6, li_7, li_8, li_9, li_10, li_11, li_15, li_16, li_20, li_30, li_32, li_48, li_57, li_58, li_59, li_60, li_61, li_63, li_64, li_80, li_85, li_88, li_99, li_100, li_112, li_115, li_152, li_162, li_172, li_173, li_174, li_240, li_255, li_348, li_1000, li_3306, nI_add]
        obtain ⟨w, w', y1, y2⟩ := layComes_val hN (M := va_up (va_up M 32 g0) 33 g1) (x3 := nI k) (x4 := nI to) (cr := crk k to) hPR hz a2 (Or.inr ⟨k, to, hk, hto, rfl, rfl, fun c _ => rfl⟩)
        have hle := fh_le (gg_lt hpd z (dt i) (crk k to) (dp i))
        have y3 : w' (dp i) = nI (fh (gg D z (dt i) (crk k to) ch (dp i))) := y2 _ a1
        rw [h1, if_neg z10, e1, e2, e3, cl (show 3 * i + 1 < 2 ^ 31 by omega), if_neg (i18 _ (by omega)), a7, y1]
        simp only [Option.bind_some]
        rw [cl (show 3 * i < 2 ^ 31 by omega), cl (show 3 * i + 2 < 2 ^ 31 by omega), if_neg (i18 _ (by omega)), a5, cl (show dp i < 2 ^ 31 by omega), if_neg i2, if_neg (i18 _ (by omega)), a9, y3]
        unfold x_X10_crackedBy_b34_k106
        rw [e8]
        by_cases hfh : fh (gg D z (dt i) (crk k to) ch (dp i)) = dh i
        · rw [if_pos (congrArg nI hfh)]
          refine ⟨_, rfl, by omega, rfl, Or.inl ⟨rfl, h2, fun j hj => ?_⟩⟩
          by_cases hji : j = i
          · rw [hji]; exact hfh
          · exact h3 j (by omega)
        · rw [if_neg (fun h => hfh (nI_inj (by omega) (by omega) h))]
          exact ⟨_, rfl, by omega, rfl, Or.inr ⟨rfl, fun h => hfh (h.2 i (by omega))⟩⟩
      · right
        rw [h1, if_pos rfl]
        exact ⟨_, rfl, Or.inr ⟨rfl, fun h => h2 ⟨h.1, fun j hj => h.2 j (by omega)⟩⟩⟩) (N := N) (z := (s0, (0 : Int32), M 32, M 33)) (by omega) ⟨rfl, by
      rcases hs with hs | hs
      · exact Or.inr ⟨hs, fun h => by rw [hs] at h; exact absurd h.1 z01⟩
      · exact Or.inl ⟨hs, hs, fun q hq => absurd hq (Nat.not_lt_zero q)⟩⟩
  obtain ⟨r, w, w'⟩ := x
  exact ⟨r, w, w', u1, u2⟩
theorem crackedBy_val {N pl ch z d to : Nat} (hN : 4096 ≤ N) {D : Nat → Nat → Nat} {P M : St} {dp dt dh : Nat → Nat} {c2 c3 c4 : Nat → Int32} (hPR : PR pl ch D P (M 15 0) (M 16 0) (M 17 0) (M 18) (M 19)) (hz : z < 1024) (hF : M 20 172 = nI z) (hd : d ≤ 6) (hM : M 28 0 = nI d) (hdr : DRS pl d dp dt dh c2 c3 c4 (M 29)) (hto : to < pl) : ∃ x w w', x_X10_crackedBy N M (nI to) = some (x, w, w') ∧ CS (QF D z ch d dp dt dh to) 11 x := by
  have r2 := hPR.2.1
  have r7 := hPR.2.2.2.2.2.2.1
  obtain ⟨x, u1, u2⟩ := lpc_run (body := fun (q : Int32 × Int32 × (Nat → Int32) × (Nat → Int32)) => x_X10_crackedBy_b4 N (va_up (va_up M 32 q.2.2.1) 33 q.2.2.2) (nI to) q.1 q.2.1) (I := fun k q => q.2.1 = nI k ∧ CS (QF D z ch d dp dt dh to) k q.1) (Pst := fun x => CS (QF D z ch d dp dt dh to) 11 x.1) 11 (fun k q hk hI => by
    obtain ⟨q1, q2, g0, g1⟩ := q
    obtain ⟨rfl, h1⟩ := hI
    dsimp only at h1
    show (∃ z', x_X10_crackedBy_b4 N (va_up (va_up M 32 g0) 33 g1) (nI to) q1 (nI k) = _ ∧ _) ∨ (∃ x, x_X10_crackedBy_b4 N (va_up (va_up M 32 g0) 33 g1) (nI to) q1 (nI k) = _ ∧ _)
    have t17 : (va_up (va_up M 32 g0) 33 g1) 17 0 = nI ch := r7
    unfold x_X10_crackedBy_b4
    rw [t17]
    by_cases hk8 : k = 11
    · subst hk8
      right
      rw [if_pos (show (11 : Int32) ≤ nI 11 by decide)]
      exact ⟨_, rfl, h1⟩
    · left
      have e8 : nI k + (1 : Int32) = nI (k + 1) := by simp (disch := omega) only [li_0, li_1, li_2, li_3, li_4, li_5, li_6, li_7, li_8, li_9, li_10, li_11, li_15, li_16, li_20, li_30, li_32, li_48, li_57, li_58, li_59, li_60, li_61, li_63, li_64, li_80, li_85, li_88, li_99, li_100, li_112, li_115, li_152, li_162, li_172, li_173, li_174, li_240, li_255, li_348, li_1000, li_3306, nI_add]
      rw [if_neg (show ¬ (11 : Int32) ≤ nI k from nI_ge (b := 11) (by omega) (by omega))]
      have go : ∀ s0 : Int32, ((s0 = 1 ∧ (k < ch ∨ k = 10)) ∨ (s0 = 0 ∧ ¬ (k < ch ∨ k = 10))) → ∃ z', x_X10_crackedBy_b4_k29 N (va_up (va_up M 32 g0) 33 g1) (nI to) q1 (nI k) s0 = some (.inl z') ∧ k < 11 ∧ z'.2.1 = nI (k + 1) ∧ CS (QF D z ch d dp dt dh to) (k + 1) z'.1 := fun s0 hs0 => by
        obtain ⟨r, w, w', y1, y2⟩ := rfits_val hN (M := va_up (va_up M 32 g0) 33 g1) (x2 := q1) (s0 := s0) hPR hz hF hd hM hdr (show k ≤ 10 by omega) hto (hs0.elim (fun h => Or.inr h.1) (fun h => Or.inl h.1))
        unfold x_X10_crackedBy_b4_k29
        rw [y1]
        simp only [Option.bind_some]
        unfold x_X10_crackedBy_b4_k127
        rw [e8, s_l10 k (by omega)]
        have hiff : (s0 = 1 ∧ drF D z ch dp dt dh to k d) ↔ QF D z ch d dp dt dh to k := by
          unfold QF
          rcases hs0 with ⟨g1, g2⟩ | ⟨g1, g2⟩
          · exact ⟨fun h => ⟨g2, h.2⟩, fun h => ⟨g1, h.2⟩⟩
          · exact ⟨fun h => by rw [g1] at h; exact absurd h.1 z01, fun h => absurd h.1 g2⟩
        rw [hiff] at y2
        rcases y2 with ⟨y2, y3⟩ | ⟨y2, y3⟩
        · rw [y2, if_neg z10]
          exact ⟨_, rfl, by omega, rfl, h1.yes y3⟩
        · rw [y2, if_pos rfl]
          refine ⟨_, rfl, by omega, rfl, ?_⟩
          show CS (QF D z ch d dp dt dh to) (k + 1) (q1 ||| 0)
          obtain ⟨s, s1, s2, s3⟩ := h1
          rw [show q1 ||| 0 = q1 by rw [s2, show (0 : Int32) = nI 0 from rfl, nI_or, Nat.or_zero]]
          exact CS.no ⟨s, s1, s2, s3⟩ y3
      by_cases hk10 : k = 10
      · rw [if_pos (show nI k = 10 by rw [hk10]; rfl)]
        unfold x_X10_crackedBy_b4_k24
        exact go 1 (Or.inl ⟨rfl, Or.inr hk10⟩)
      · rw [if_neg (show ¬ nI k = 10 from fun h => hk10 (nI_inj (b := 10) (by omega) (by omega) h))]
        by_cases hkc : k < ch
        · rw [if_neg (nleI hkc (by omega))]
          unfold x_X10_crackedBy_b4_k24
          exact go 1 (Or.inl ⟨rfl, Or.inl hkc⟩)
        · rw [if_pos (nI_le (by omega) (by omega))]
          exact go 0 (Or.inr ⟨rfl, fun h => h.elim hkc hk10⟩)) (N := N) (z := ((0 : Int32), (0 : Int32), M 32, M 33)) (by omega) ⟨rfl, 0, by omega, rfl, fun k => by
      rw [Nat.zero_testBit]
      exact ⟨fun h => absurd h Bool.false_ne_true, fun h => absurd h.1 (Nat.not_lt_zero k)⟩⟩
  obtain ⟨x, w, w'⟩ := x
  refine ⟨x, w, w', ?_, u2⟩
  unfold x_X10_crackedBy
  rw [u1]
  rfl
theorem Rel_8 {n : Nat} (hn : n < 64) {C RF : Nat → St} {M : St} (h : Rel n C RF M) (X : St) (a b : Nat → Int32) : Rel (n + 1) (va_up C 8 X) RF (va_up (va_up M 32 a) 33 b) := Rel_step hn h
theorem P_cracked {N n : Nat} (hN : 4096 ≤ N) (hn : n < 64) {C RF : Nat → St} {M : St} (h : Rel n C RF M) (CL : Nat → SL) (x1 : Int32) : ∃ (v : Int32 × (Nat → Int32) × (Nat → Int64) × (Nat → Int64)) (w : Int32 × (Nat → Int32) × (Nat → Int32)), x_X9_cracked N (C 0) (C 4) (C 7) (C 2) (C 8) (CL 9) x1 = some v ∧ x_X10_cracked N M x1 = some w ∧ v.1 = w.1 ∧ Rel (n + 1) (va_up C 8 (va_up (C 8) 2 v.2.1)) RF (va_up (va_up M 32 w.2.1) 33 w.2.2) := by
  have hrel := h
  obtain ⟨h1, h2, h3, h4, pl, ch, D, hPR, h6, h7, h8, h9, hdr, h11⟩ := h
  have r1 := hPR.1
  have r4 := hPR.2.2.2.1
  have r5 := hPR.2.2.2.2.1
  obtain ⟨z, hz, z1, z2⟩ := h6.2.1
  obtain ⟨d, dp, dt, dh, d1, d2, d3, d4⟩ := hdr.fn r1
  unfold x_X9_cracked x_X10_cracked
  rcases hp_place r4 r5 r1 x1 with ⟨to, hto, rfl, e1, e2⟩ | ⟨e1, e2⟩
  · rw [e1, e2]
    simp only [Option.bind_some, if_neg z10]
    obtain ⟨x, v, f0, f1, y1, y2⟩ := fitting_val hN (T := C 8) (L := CL 9) (F := C 4) (M := M) hPR (by omega) hz z1 d1 d2 d4 (show to < 8 by omega)
    obtain ⟨x', w, w', y3, y4⟩ := crackedBy_val hN (M := M) hPR hz z2 d1 d3 d4 hto
    rw [y1, y3]
    exact ⟨_, _, rfl, rfl, y2.uniq y4, Rel_8 hn hrel _ _ _⟩
  · rw [e1, e2]
    exact ⟨_, _, rfl, rfl, rfl, Rel_8 hn hrel _ _ _⟩
