/-! what must not meet -/
theorem FR.cr {pl hb : Nat} {F : St} {A : Nat → Int32} (h : FR pl hb F A) (hpl : pl ≤ 8) : ∃ cr, CR 10 (F 3) cr ∧ ∀ c, c < 10 → (cr c < pl ∧ A (162 + c) = nI (cr c)) ∨ (cr c = 9 ∧ A (162 + c) = -1) := by
  obtain ⟨_, _, _, h4, _⟩ := h
  refine ⟨fun c => if A (162 + c) = -1 then 9 else (A (162 + c)).toNatClampNeg, fun c hc => ?_, fun c hc => ?_⟩
  · obtain ⟨e1, e2 | ⟨q, q1, q2⟩⟩ := h4 c hc
    · right; dsimp only; rw [if_pos e2, e1, e2]; exact ⟨rfl, rfl⟩
    · left; dsimp only; rw [e1, q2, if_neg (nI_ne_m1 (by omega)), cl (by omega)]; exact ⟨by omega, rfl⟩
  · obtain ⟨e1, e2 | ⟨q, q1, q2⟩⟩ := h4 c hc
    · right; dsimp only; rw [if_pos e2]; exact ⟨rfl, e2⟩
    · left; dsimp only; rw [q2, if_neg (nI_ne_m1 (by omega)), cl (by omega)]; exact ⟨q1, rfl⟩
theorem CR.le {n m : Nat} {f : Nat → Int32} {cr : Nat → Nat} (h : CR n f cr) (hm : m ≤ n) : CR m f cr := fun c hc => h c (by omega)
def orN (f : Nat → Nat) : Nat → Nat
  | 0 => 0
  | k + 1 => orN f k ||| f k
theorem orN_lt {f : Nat → Nat} {n : Nat} (h : ∀ p, f p < 2 ^ n) : ∀ k, orN f k < 2 ^ n
  | 0 => Nat.two_pow_pos n
  | k + 1 => Nat.or_lt_two_pow (orN_lt h k) (h k)
theorem orN_bit (f : Nat → Nat) : ∀ k x, (orN f k).testBit x = true ↔ ∃ p, p < k ∧ (f p).testBit x = true
  | 0, x => by
    show (0 : Nat).testBit x = true ↔ _
    rw [Nat.zero_testBit]
    exact ⟨fun h => absurd h Bool.false_ne_true, fun ⟨p, h, _⟩ => absurd h (Nat.not_lt_zero p)⟩
  | k + 1, x => by
    show (orN f k ||| f k).testBit x = true ↔ _
    rw [Nat.testBit_or, Bool.or_eq_true, orN_bit f k x]
    constructor
    · rintro (⟨p, p1, p2⟩ | h)
      · exact ⟨p, by omega, p2⟩
      · exact ⟨k, by omega, h⟩
    · rintro ⟨p, p1, p2⟩
      by_cases h : p = k
      · subst h; exact Or.inr p2
      · exact Or.inl ⟨p, by omega, p2⟩
theorem l_bit {a h : Nat} (ha : a < 2 ^ 61) (hh : h ≤ 60) : lg_cmp ((lN a >>> ((nI h).toInt64 &&& 63)) &&& (1 : Int64)) (1 : Int64) = 0 ↔ a.testBit h = true := by
  have e : lN a >>> ((nI h).toInt64 &&& 63) = lN (a / 2 ^ h) := by
    have hs : ((lN h &&& 63).toBitVec.smod 64).toNat = h := by
      rw [s_l64 h (by omega)]
      show h % 2 ^ 64 = h
      exact Nat.mod_eq_of_lt (by omega)
    have e1 : (lN a >>> (lN h &&& 63)).toInt = (lN a).toInt >>> h := by
      show ((lN a).toBitVec.sshiftRight ((lN h &&& 63).toBitVec.smod 64).toNat).toInt = _
      rw [hs, BitVec.toInt_sshiftRight]
      rfl
    apply Int64.toInt_inj.mp
    rw [nI_l (by omega), e1, pk_lT (by omega), pk_lT (by have := Nat.div_le_self a (2 ^ h); omega), Int.shiftRight_eq_div_pow]
    rfl
  rw [lg_cmp_eq, e, show (1 : Int64) = lN 1 from rfl, lN_and, Nat.and_one_is_mod, pk_lEQ (by have := Nat.mod_lt (a / 2 ^ h) (show 0 < 2 by omega); omega) (by omega), Nat.testBit_eq_decide_div_mod_eq, decide_eq_true_eq]
/-- the least of a set, or none -/
def LE1 (S : Nat → Prop) (b : Int32) : Prop := (b = -1 ∧ ∀ x, ¬ S x) ∨ ∃ j, j ≤ 60 ∧ b = nI j ∧ S j ∧ ∀ i, i < j → ¬ S i
theorem LE1.congr {S T : Nat → Prop} {b : Int32} (h : LE1 S b) (g : ∀ x, S x ↔ T x) : LE1 T b := by
  rcases h with ⟨h1, h2⟩ | ⟨j, h1, h2, h3, h4⟩
  · exact Or.inl ⟨h1, fun x hx => h2 x ((g x).mpr hx)⟩
  · exact Or.inr ⟨j, h1, h2, (g j).mp h3, fun i hi hx => h4 i hi ((g i).mpr hx)⟩
theorem m1_lt : (-1 : Int32) < 0 := by decide
theorem meet_inner {N : Nat} (hN : 4096 ≤ N) {M : St} {ML : SL} {x3 x5 b : Int32} {a : Nat} (ha : a < 2 ^ 61) {S : Nat → Prop} (hS : LE1 S b) : ∃ b', lpc (fun (q : Int32 × Int32) => x_X10_meet_b91 N M ML x3 q.1 x5 (lN a) q.2) N (b, (60 : Int32)) = some b' ∧ LE1 (fun x => S x ∨ a.testBit x = true) b' := by
  obtain ⟨x, u1, u2⟩ := lpc_run (body := fun (q : Int32 × Int32) => x_X10_meet_b91 N M ML x3 q.1 x5 (lN a) q.2)
    (I := fun i q => q.2 = (if i ≤ 60 then nI (60 - i) else -1) ∧ LE1 (fun x => S x ∨ (60 < x + i ∧ a.testBit x = true)) q.1) (Pst := fun b' => LE1 (fun x => S x ∨ (60 < x + 61 ∧ a.testBit x = true)) b') 61 (fun i q hk hI => by
      obtain ⟨q1, q2⟩ := q
      obtain ⟨h1, h2⟩ := hI
      dsimp only at h1 h2
      show (∃ z', x_X10_meet_b91 N M ML x3 q1 x5 (lN a) q2 = _ ∧ _) ∨ (∃ x, x_X10_meet_b91 N M ML x3 q1 x5 (lN a) q2 = _ ∧ _)
      unfold x_X10_meet_b91
      by_cases h60 : i ≤ 60
      · rw [if_pos h60] at h1
        subst h1
        left
        rw [if_neg (nI_pos (by omega))]
        have hnext : nI (60 - i) + (-1 : Int32) = (if i + 1 ≤ 60 then nI (60 - (i + 1)) else -1) := by
          by_cases h : i + 1 ≤ 60
          · rw [if_pos h]
            obtain ⟨m, hm⟩ : ∃ m, 60 - i = m + 1 := ⟨60 - i - 1, by omega⟩
            rw [hm, pk_m1, show 60 - (i + 1) = m by omega]
          · rw [if_neg h, show 60 - i = 0 by omega]; rfl
        have keep : ¬ a.testBit (60 - i) = true ∨ (∃ j, j ≤ 60 ∧ q1 = nI j ∧ (S j ∨ (60 < j + i ∧ a.testBit j = true)) ∧ (∀ i', i' < j → ¬ (S i' ∨ (60 < i' + i ∧ a.testBit i' = true))) ∧ j ≤ 60 - i) → LE1 (fun x => S x ∨ (60 < x + (i + 1) ∧ a.testBit x = true)) q1 := fun h => by
          rcases h with h | ⟨j, j1, j2, j3, j4, j5⟩
          · refine h2.congr (fun x => ?_)
            constructor
            · rintro (h3 | ⟨h3, h4⟩)
              · exact Or.inl h3
              · exact Or.inr ⟨by omega, h4⟩
            · rintro (h3 | ⟨h3, h4⟩)
              · exact Or.inl h3
              · by_cases hx : x = 60 - i
                · subst hx; exact absurd h4 h
                · exact Or.inr ⟨by omega, h4⟩
          · refine Or.inr ⟨j, j1, j2, ?_, fun i' hi' hx => ?_⟩
            · rcases j3 with j3 | ⟨j3, j6⟩
              · exact Or.inl j3
              · exact Or.inr ⟨by omega, j6⟩
            · rcases hx with hx | ⟨hx, hx2⟩
              · exact j4 i' hi' (Or.inl hx)
              · exact absurd hx (by omega)
        have take : a.testBit (60 - i) = true → (∀ i', i' < 60 - i → ¬ S i') → LE1 (fun x => S x ∨ (60 < x + (i + 1) ∧ a.testBit x = true)) (nI (60 - i)) := fun h3 h4 => Or.inr ⟨60 - i, by omega, rfl, Or.inr ⟨by omega, h3⟩, fun i' hi' hx => by
          rcases hx with hx | ⟨hx, _⟩
          · exact h4 i' hi' hx
          · omega⟩
        by_cases hb : a.testBit (60 - i) = true
        · rw [if_pos ((l_bit ha (by omega)).mpr hb)]
          unfold x_X10_meet_b91_k120 x_X10_meet_b91_k125 x_X10_meet_b91_k127
          rw [hnext]
          rcases h2 with ⟨g1, g2⟩ | ⟨j, g1, g2, g3, g4⟩
          · rw [g1, if_pos m1_lt]
            exact ⟨_, rfl, by omega, rfl, take hb (fun i' _ hx => g2 i' (Or.inl hx))⟩
          · rw [g2, if_neg (nI_pos (by omega))]
            by_cases hle : j ≤ 60 - i
            · rw [if_pos (nI_le hle (by omega)), ← g2]
              exact ⟨_, rfl, by omega, rfl, keep (Or.inr ⟨j, g1, g2, g3, g4, hle⟩)⟩
            · rw [if_neg (nleI (by omega) (by omega))]
              exact ⟨_, rfl, by omega, rfl, take hb (fun i' hi' hx => g4 i' (by omega) (Or.inl hx))⟩
        · rw [if_neg (fun h => hb ((l_bit ha (by omega)).mp h))]
          unfold x_X10_meet_b91_k125 x_X10_meet_b91_k127
          rw [hnext]
          exact ⟨_, rfl, by omega, rfl, keep (Or.inl hb)⟩
      · rw [if_neg h60] at h1
        subst h1
        right
        rw [if_pos m1_lt]
        exact ⟨_, rfl, by rw [show i = 61 by omega] at h2; exact h2⟩) (N := N) (z := (b, (60 : Int32))) (by omega) ⟨rfl, hS.congr (fun x => ⟨fun h => Or.inl h, fun h => h.elim id (fun h2 => by
        have hx := h2.2
        rw [Nat.testBit_lt_two_pow (Nat.lt_of_lt_of_le ha (Nat.pow_le_pow_right (by omega) (by omega)))] at hx
        exact absurd hx Bool.false_ne_true)⟩)⟩
  exact ⟨x, u1, u2.congr (fun y => by
    constructor
    · rintro (h | h)
      · exact Or.inl h
      · exact Or.inr h.2
    · rintro (h | h)
      · exact Or.inl h
      · exact Or.inr ⟨by omega, h⟩)⟩
def mtB (H1 H2 : Nat → Nat) (d p : Nat) : Nat := H1 p &&& (H2 p <<< d)
theorem meetHour_val {N pl d : Nat} (hN : 4096 ≤ N) {L1 L2 : SL} {P F : St} {H1 H2 : Nat → Nat} (r1 : pl ≤ 8) (r4 : P 1 0 = nI pl) (hd : d ≤ 30) (h1 : ∀ p, p < pl → L1 0 p = lN (H1 p)) (h2 : ∀ p, p < pl → L2 0 p = lN (H2 p)) : lpc (fun (q : Int64 × Int32) => x_X7_meetingHour_b41 N L1 L2 P F (nI d) q.1 q.2) N ((0 : Int64), (0 : Int32)) = some (lN (orN (mtB H1 H2 d) pl)) := by
  obtain ⟨x, u1, u2⟩ := lpc_run (body := fun (q : Int64 × Int32) => x_X7_meetingHour_b41 N L1 L2 P F (nI d) q.1 q.2) (I := fun k q => q = (lN (orN (mtB H1 H2 d) k), nI k)) (Pst := fun x => x = lN (orN (mtB H1 H2 d) pl)) pl (fun k q hk hI => by
    subst hI
    unfold x_X7_meetingHour_b41
    rw [r4]
    by_cases hk8 : k = pl
    · subst hk8
      right
      rw [if_pos (nI_le (Nat.le_refl _) (by omega))]
      exact ⟨_, rfl, rfl⟩
    · left
      have e8 : nI k + (1 : Int32) = nI (k + 1) := by simp (disch := omega) only [li_0, li_1, li_2, li_3, li_4, li_5, li_6, li_7, li_8, li_9, li_10, li_11, li_15, li_16, li_20, li_30, li_32, li_48, li_57, li_58, li_59, li_60, li_61, li_63, li_64, li_80, li_85, li_88, li_99, li_100, li_112, li_115, li_152, li_162, li_172, li_173, li_174, li_240, li_255, li_348, li_1000, li_3306, nI_add]
      have i2 : ¬ (nI k < 0 ∨ 8 ≤ k) := by have := nI_in (c := k) (N := 8) (by omega) (by omega); rwa [cl (by omega)] at this
      dsimp only
      rw [if_neg (nleI (show k < pl by omega) (by omega)), cl (by omega), if_neg i2, if_neg i2, h1 k (by omega), h2 k (by omega), nI_l (by omega), lN_shl _ (by omega), lN_and, lN_or, e8]
      exact ⟨_, rfl, by omega, rfl⟩) (N := N) (z := ((0 : Int64), (0 : Int32))) (by omega) rfl
  rw [u1, u2]
theorem meetRef_val {N pl d : Nat} (hN : 4096 ≤ N) {M : St} {ML : SL} {H1 H2 : Nat → Nat} (r1 : pl ≤ 8) (r5 : M 16 0 = nI pl) (hd : d ≤ 30) (hH : ∀ p, H1 p < 2 ^ 61) (h1 : ∀ p, p < pl → ML 34 p = lN (H1 p)) (h2 : ∀ p, p < pl → ML 35 p = lN (H2 p)) : ∃ b, lpc (fun (q : Int32 × Int32) => x_X10_meet_b59 N M ML (nI d) q.1 q.2) N ((-1 : Int32), (0 : Int32)) = some b ∧ LE1 (fun x => (orN (mtB H1 H2 d) pl).testBit x = true) b := by
  have hB : ∀ p, mtB H1 H2 d p < 2 ^ 61 := fun p => Nat.lt_of_le_of_lt Nat.and_le_left (hH p)
  obtain ⟨x, u1, u2⟩ := lpc_run (body := fun (q : Int32 × Int32) => x_X10_meet_b59 N M ML (nI d) q.1 q.2) (I := fun k q => q.2 = nI k ∧ LE1 (fun x => (orN (mtB H1 H2 d) k).testBit x = true) q.1) (Pst := fun b => LE1 (fun x => (orN (mtB H1 H2 d) pl).testBit x = true) b) pl (fun k q hk hI => by
    obtain ⟨q1, q2⟩ := q
    obtain ⟨rfl, g2⟩ := hI
    dsimp only at g2
    show (∃ z', x_X10_meet_b59 N M ML (nI d) q1 (nI k) = _ ∧ _) ∨ (∃ x, x_X10_meet_b59 N M ML (nI d) q1 (nI k) = _ ∧ _)
    unfold x_X10_meet_b59
    rw [r5]
    by_cases hk8 : k = pl
    · subst hk8
      right
      rw [if_pos (nI_le (Nat.le_refl _) (by omega))]
      exact ⟨_, rfl, g2⟩
    · left
      have e8 : nI k + (1 : Int32) = nI (k + 1) := by simp (disch := omega) only [li_0, li_1, li_2, li_3, li_4, li_5, li_6, li_7, li_8, li_9, li_10, li_11, li_15, li_16, li_20, li_30, li_32, li_48, li_57, li_58, li_59, li_60, li_61, li_63, li_64, li_80, li_85, li_88, li_99, li_100, li_112, li_115, li_152, li_162, li_172, li_173, li_174, li_240, li_255, li_348, li_1000, li_3306, nI_add]
      have i2 : ¬ (nI k < 0 ∨ 8 ≤ k) := by have := nI_in (c := k) (N := 8) (by omega) (by omega); rwa [cl (by omega)] at this
      rw [if_neg (nleI (show k < pl by omega) (by omega)), cl (by omega), if_neg i2, if_neg i2, h1 k (by omega), h2 k (by omega), nI_l (by omega), lN_shl _ (by omega), lN_and, e8]
      unfold xl
      obtain ⟨b', y1, y2⟩ := meet_inner hN (M := M) (ML := ML) (x3 := nI d) (x5 := nI k) (hB k) g2
      have y1' : lpc (fun (q : Int32 × Int32) => x_X10_meet_b91 N M ML (nI d) q.1 (nI k) (lN (H1 k &&& (H2 k <<< d))) q.2) N (q1, (60 : Int32)) = some b' := y1
      dsimp only
      rw [y1']
      exact ⟨_, rfl, by omega, rfl, y2.congr (fun x => by
        show _ ↔ (orN (mtB H1 H2 d) k ||| mtB H1 H2 d k).testBit x = true
        rw [Nat.testBit_or, Bool.or_eq_true])⟩) (N := N) (z := ((-1 : Int32), (0 : Int32))) (by omega) ⟨rfl, Or.inl ⟨rfl, fun x hx => by
      have hx' : (0 : Nat).testBit x = true := hx
      rw [Nat.zero_testBit] at hx'
      exact Bool.false_ne_true hx'⟩⟩
  exact ⟨x, u1, u2⟩
theorem P_meet {N n : Nat} (hN : 4096 ≤ N) (hn : n < 64) {C RF : Nat → St} {M : St} (h : Rel n C RF M) (CL : Nat → SL) (ML : SL) (x1 : Int32) (x2 : Int32) (x3 : Int32) : ∃ (v : Int32 × (Nat → Int64) × (Nat → Int64) × (Nat → Int64) × (Nat → Int64)) (w : Int32 × (Nat → Int64) × (Nat → Int64)), x_X9_meet N (C 0) (C 4) (C 2) (CL 9) (CL 10) x1 x2 x3 = some v ∧ x_X10_meet N M ML x1 x2 x3 = some w ∧ v.1 = w.1 ∧ Rel (n + 1) C RF M := by
  have hR := Rel_step hn h
  obtain ⟨h1, h2, h3, h4, pl, ch, D, hPR, h6, h7⟩ := h
  have hpd := hPR.pd
  have r1 := hPR.1
  have r2 := hPR.2.1
  have r4 := hPR.2.2.2.1
  have r5 := hPR.2.2.2.2.1
  obtain ⟨z, hz, z1, z2⟩ := h6.2.1
  obtain ⟨cr, hcr, _⟩ := h6.cr r1
  have hcr := hcr.le r2
  unfold x_X9_meet x_X10_meet
  rcases hp_say x1 with ⟨t, ht, rfl, e3, e4⟩ | ⟨e3, e4⟩
  · rw [e3, e4]
    rcases hp_say x2 with ⟨u, hu, rfl, e5, e6⟩ | ⟨e5, e6⟩
    · rw [e5, e6]
      simp only [Option.bind_some, if_neg z10]
      by_cases htu : nI t = nI u
      · rw [if_pos htu, if_pos htu]
        exact ⟨_, _, rfl, rfl, rfl, hR⟩
      · rw [if_neg htu, if_neg htu]
        rcases in_cases x3 0 30 (by omega) (by omega) with ⟨d, d0, d1, rfl, hd⟩ | ⟨hd, hd2⟩
        · have hd : x_X10_in (nI d) 0 30 = some 1 := hd
          rw [hd, if_neg (nI_pos (by omega)), if_pos (show nI d ≤ (30 : Int32) from nI_le (b := 30) d1 (by omega))]
          simp only [Option.bind_some, if_neg z10]
          unfold x_X7_meetingHour
          rw [z1]
          obtain ⟨f0, f1, y1, y2⟩ := run_val hN (L := CL 9) (M := M) hPR hz ht hcr
          obtain ⟨g0, g1, y3, y4⟩ := run_val hN (L := CL 10) (M := M) hPR hz hu hcr
          obtain ⟨v8, y5, y6⟩ := layHours_val hN (a := ML 34) hPR hz ht z2
          obtain ⟨v9, y7, y8⟩ := layHours_val hN (a := ML 35) hPR hz hu z2
          rw [y1, y3, y5, y7]
          simp only [Option.bind_some]
          obtain ⟨b, w1, w2⟩ := meetRef_val hN (M := M) (ML := va_up (va_up ML 34 v8) 35 v9) r1 r5 d1 (fun p => Hf_lt hpd (okf D z t) (Nat.le_refl ch) p) y6 y8
          have w3 := meetHour_val hN (L1 := va_up (va_up (CL 9) 0 f0) 1 f1) (L2 := va_up (va_up (CL 10) 0 g0) 1 g1) (P := C 2) (F := C 4) (H1 := Hf D (okf D z t) ch) (H2 := Hf D (okf D z u) ch) r1 r4 d1 (fun p hp => (y2 (by omega) p (by omega)).1) (fun p hp => (y4 (by omega) p (by omega)).1)
          rw [w1, w3]
          simp only [Option.bind_some]
          have hB : orN (mtB (Hf D (okf D z t) ch) (Hf D (okf D z u) ch) d) pl < 2 ^ 61 := orN_lt (fun p => Nat.lt_of_le_of_lt Nat.and_le_left (Hf_lt hpd (okf D z t) (Nat.le_refl ch) p)) pl
          rcases w2 with ⟨w4, w5⟩ | ⟨j, w4, w5, w6, w7⟩
          · have hB0 : orN (mtB (Hf D (okf D z t) ch) (Hf D (okf D z u) ch) d) pl = 0 := Nat.eq_of_testBit_eq (fun x => by
              rw [Nat.zero_testBit]
              cases hh : (orN (mtB (Hf D (okf D z t) ch) (Hf D (okf D z u) ch) d) pl).testBit x
              · rfl
              · exact absurd hh (w5 x))
            rw [if_pos ((cmp0 (by omega)).mpr hB0), w4]
            exact ⟨_, _, rfl, rfl, rfl, hR⟩
          · rw [if_neg (fun hh => by rw [(cmp0 (by omega)).mp hh, Nat.zero_testBit] at w6; exact Bool.false_ne_true w6), ntz64 hB w6 (fun i hi => by
              cases hh : (orN (mtB (Hf D (okf D z t) ch) (Hf D (okf D z u) ch) d) pl).testBit i
              · rfl
              · exact absurd hh (w7 i hi)), w5]
            exact ⟨_, _, rfl, rfl, rfl, hR⟩
        · have hd2 : x_X10_in x3 0 30 = some 0 := hd2
          rw [hd2]
          simp only [Option.bind_some]
          by_cases hx : x3 < 0
          · rw [if_pos hx]
            exact ⟨_, _, rfl, rfl, rfl, hR⟩
          · rw [if_neg hx, if_neg (show ¬ x3 ≤ (30 : Int32) from Int32.not_le.mpr (hd.resolve_left hx))]
            exact ⟨_, _, rfl, rfl, rfl, hR⟩
    · rw [e5, e6]
      exact ⟨_, _, rfl, rfl, rfl, hR⟩
  · rw [e3, e4]
    exact ⟨_, _, rfl, rfl, rfl, hR⟩
