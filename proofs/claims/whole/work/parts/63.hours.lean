/-! the hours, by the falling order -/
def okf (D : Nat → Nat → Nat) (z t c : Nat) : Bool := !z.testBit c && decide (¬ goS (D 0 (D 2 c)) (2 ^ t) = 0)
def Hf (D : Nat → Nat → Nat) (ok : Nat → Bool) : Nat → Nat → Nat
  | 0 => b0
  | i + 1 => if ok (D 5 i) = true then up1 (Hf D ok i) (D 3 (D 5 i)) (Hf D ok i (D 3 (D 5 i)) ||| shf (Hf D ok i (D 2 (D 5 i))) (D 4 (D 5 i))) else Hf D ok i
def Gf (D : Nat → Nat → Nat) (ok : Nat → Bool) (cr : Nat → Nat) : Nat → Nat → Nat
  | 0 => fun _ => 0
  | i + 1 => if ok (D 5 i) = true then up1 (Gf D ok cr i) (cr (D 5 i)) (Gf D ok cr i (cr (D 5 i)) ||| Hf D ok i (D 2 (D 5 i))) else Gf D ok cr i
def dnf (D : Nat → Nat → Nat) : Nat → Nat → Bool
  | 0 => fun _ => false
  | i + 1 => mk1 (dnf D i) (D 5 i)
theorem dnf_iff (D : Nat → Nat → Nat) : ∀ i x, dnf D i x = true ↔ ∃ j, j < i ∧ D 5 j = x
  | 0, x => ⟨fun h => absurd h Bool.false_ne_true, fun ⟨j, h, _⟩ => absurd h (Nat.not_lt_zero j)⟩
  | i + 1, x => by
    show mk1 (dnf D i) (D 5 i) x = true ↔ _
    by_cases hx : x = D 5 i
    · subst hx
      exact ⟨fun _ => ⟨i, by omega, rfl⟩, fun _ => mk1_c _ _⟩
    · rw [mk1_n hx, dnf_iff D i]
      constructor
      · rintro ⟨j, j1, j2⟩; exact ⟨j, by omega, j2⟩
      · rintro ⟨j, j1, j2⟩
        refine ⟨j, ?_, j2⟩
        have : ¬ j = i := fun h => by subst h; exact hx j2.symm
        omega
def PD (pl ch : Nat) (D : Nat → Nat → Nat) : Prop :=
  pl ≤ 8 ∧ ch ≤ 10 ∧ (∀ j, j < ch → D 2 j < pl ∧ D 3 j < pl ∧ 1 ≤ D 4 j ∧ D 4 j ≤ 9 ∧ D 1 (D 3 j) < D 1 (D 2 j)) ∧ (∀ i, i < ch → D 5 i < ch) ∧ (∀ i j, i < j → j < ch → D 1 (D 2 (D 5 j)) ≤ D 1 (D 2 (D 5 i)) ∧ ¬ D 5 i = D 5 j) ∧ (∀ c, c < ch → ∃ i, i < ch ∧ D 5 i = c)
theorem PR.pd {pl ch : Nat} {D : Nat → Nat → Nat} {P : St} {m15 m16 m17 : Int32} {m18 m19 : Nat → Int32} (h : PR pl ch D P m15 m16 m17 m18 m19) : PD pl ch D := by
  obtain ⟨r1, r2, r3, r4, r5, r6, r7, r8, r9, r10, r11, r12⟩ := h
  exact ⟨r1, r2, fun j hj => by obtain ⟨a1, a2, a3, a4, a5, _⟩ := r9 j hj; exact ⟨a1, a2, a3, a4, a5⟩, fun i hi => (r10 i hi).1, r11, r12⟩
theorem PD.ord {pl ch : Nat} {D : Nat → Nat → Nat} (h : PD pl ch D) {i : Nat} (hi : i < ch) {x : Nat} (hx : dnf D i x = true) : D 1 (D 2 (D 5 i)) ≤ D 1 (D 2 x) := by
  obtain ⟨_, _, _, _, h5, _⟩ := h
  obtain ⟨j, j1, j2⟩ := (dnf_iff D i x).mp hx
  rw [← j2]
  exact (h5 j i j1 hi).1
theorem Hf_s {D : Nat → Nat → Nat} {ok : Nat → Bool} {i : Nat} (h : ok (D 5 i) = true) : Hf D ok (i + 1) = up1 (Hf D ok i) (D 3 (D 5 i)) (Hf D ok i (D 3 (D 5 i)) ||| shf (Hf D ok i (D 2 (D 5 i))) (D 4 (D 5 i))) := if_pos h
theorem Hf_n {D : Nat → Nat → Nat} {ok : Nat → Bool} {i : Nat} (h : ¬ ok (D 5 i) = true) : Hf D ok (i + 1) = Hf D ok i := if_neg h
theorem Gf_s {D : Nat → Nat → Nat} {ok : Nat → Bool} {cr : Nat → Nat} {i : Nat} (h : ok (D 5 i) = true) : Gf D ok cr (i + 1) = up1 (Gf D ok cr i) (cr (D 5 i)) (Gf D ok cr i (cr (D 5 i)) ||| Hf D ok i (D 2 (D 5 i))) := if_pos h
theorem Gf_n {D : Nat → Nat → Nat} {ok : Nat → Bool} {cr : Nat → Nat} {i : Nat} (h : ¬ ok (D 5 i) = true) : Gf D ok cr (i + 1) = Gf D ok cr i := if_neg h
theorem Hf_HS {pl ch : Nat} {D : Nat → Nat → Nat} (h : PD pl ch D) (ok : Nat → Bool) : ∀ i, i ≤ ch → HS D ok (dnf D i) ch (Hf D ok i)
  | 0, _ => HS.zero D ok ch
  | i + 1, hi => by
    have ih := Hf_HS h ok i (by omega)
    show HS D ok (mk1 (dnf D i) (D 5 i)) ch _
    by_cases hok : ok (D 5 i) = true
    · rw [Hf_s hok]
      have hc := h.2.2.2.1 i (by omega)
      exact ih.step hc hok (h.2.2.1 _ hc).2.2.2.2 (fun x hx => h.ord (by omega) hx)
    · rw [Hf_n hok]
      exact ih.skip (Or.inl (by cases hh : ok (D 5 i); rfl; exact absurd hh hok))
theorem Hf_lt {pl ch : Nat} {D : Nat → Nat → Nat} (h : PD pl ch D) (ok : Nat → Bool) {i : Nat} (hi : i ≤ ch) (p : Nat) : Hf D ok i p < 2 ^ 61 := (Hf_HS h ok i hi).lt p
/-- what the hours of a place are, in the end -/
theorem Hf_iff {pl ch : Nat} {D : Nat → Nat → Nat} (h : PD pl ch D) (ok : Nat → Bool) (p x : Nat) : (Hf D ok ch p).testBit x = true ↔ x ≤ 60 ∧ ((p = 0 ∧ x = 0) ∨ ∃ c, c < ch ∧ ok c = true ∧ D 3 c = p ∧ D 4 c ≤ x ∧ (Hf D ok ch (D 2 c)).testBit (x - D 4 c) = true) := by
  rw [Hf_HS h ok ch (Nat.le_refl _) p x]
  constructor
  · rintro ⟨h1, h2 | ⟨c, c1, c2, c3, c4⟩⟩
    · exact ⟨h1, Or.inl h2⟩
    · exact ⟨h1, Or.inr ⟨c, c1, c3, c4⟩⟩
  · rintro ⟨h1, h2 | ⟨c, c1, c3, c4⟩⟩
    · exact ⟨h1, Or.inl h2⟩
    · obtain ⟨i, i1, i2⟩ := h.2.2.2.2.2 c c1
      exact ⟨h1, Or.inr ⟨c, c1, (dnf_iff D ch c).mpr ⟨i, i1, i2⟩, c3, c4⟩⟩
theorem Hf_keep {pl ch : Nat} {D : Nat → Nat → Nat} (h : PD pl ch D) (ok : Nat → Bool) {i : Nat} (hi : i < ch) {x : Nat} (hx : dnf D (i + 1) x = true) : Hf D ok (i + 1) (D 2 x) = Hf D ok i (D 2 x) := by
  by_cases hok : ok (D 5 i) = true
  · have hc := h.2.2.2.1 i (by omega)
    have hl := (h.2.2.1 _ hc).2.2.2.2
    have hle : D 1 (D 2 (D 5 i)) ≤ D 1 (D 2 x) := by
      by_cases hxc : x = D 5 i
      · rw [hxc]; exact Nat.le_refl _
      · have : dnf D i x = true := by
          have hx' : mk1 (dnf D i) (D 5 i) x = true := hx
          rwa [mk1_n hxc] at hx'
        exact h.ord hi this
    rw [Hf_s hok, up1_n]
    intro hh
    rw [hh] at hle
    omega
  · rw [Hf_n hok]
theorem Gf_GS {pl ch : Nat} {D : Nat → Nat → Nat} (h : PD pl ch D) (ok : Nat → Bool) (cr : Nat → Nat) : ∀ i, i ≤ ch → ∀ q x, (Gf D ok cr i q).testBit x = true ↔ ∃ c, dnf D i c = true ∧ ok c = true ∧ cr c = q ∧ (Hf D ok i (D 2 c)).testBit x = true
  | 0, _, q, x => by
    constructor
    · intro h2
      have : (0 : Nat).testBit x = true := h2
      rw [Nat.zero_testBit] at this
      exact absurd this Bool.false_ne_true
    · rintro ⟨c, h1, _⟩
      exact absurd h1 Bool.false_ne_true
  | i + 1, hi, q, x => by
    have ih := Gf_GS h ok cr i (by omega)
    have hk := fun y hy => Hf_keep h ok (i := i) (by omega) (x := y) hy
    have hm : ∀ y, dnf D (i + 1) y = true ↔ (dnf D i y = true ∨ y = D 5 i) := fun y => by
      show mk1 (dnf D i) (D 5 i) y = true ↔ _
      unfold mk1
      rw [Bool.or_eq_true, decide_eq_true_eq]
    have e : (∃ c, dnf D (i + 1) c = true ∧ ok c = true ∧ cr c = q ∧ (Hf D ok (i + 1) (D 2 c)).testBit x = true) ↔ ((∃ c, dnf D i c = true ∧ ok c = true ∧ cr c = q ∧ (Hf D ok i (D 2 c)).testBit x = true) ∨ (ok (D 5 i) = true ∧ cr (D 5 i) = q ∧ (Hf D ok i (D 2 (D 5 i))).testBit x = true)) := by
      constructor
      · rintro ⟨c, c1, c2, c3, c4⟩
        rw [hk c c1] at c4
        rcases (hm c).mp c1 with h1 | h1
        · exact Or.inl ⟨c, h1, c2, c3, c4⟩
        · subst h1; exact Or.inr ⟨c2, c3, c4⟩
      · rintro (⟨c, c1, c2, c3, c4⟩ | ⟨c2, c3, c4⟩)
        · exact ⟨c, (hm c).mpr (Or.inl c1), c2, c3, by rw [hk c ((hm c).mpr (Or.inl c1))]; exact c4⟩
        · exact ⟨D 5 i, (hm _).mpr (Or.inr rfl), c2, c3, by rw [hk _ ((hm _).mpr (Or.inr rfl))]; exact c4⟩
    rw [e]
    by_cases hok : ok (D 5 i) = true
    · rw [Gf_s hok]
      by_cases hq : q = cr (D 5 i)
      · subst hq
        rw [up1_s, Nat.testBit_or, Bool.or_eq_true, ih]
        exact or_congr Iff.rfl ⟨fun h1 => ⟨hok, rfl, h1⟩, fun h1 => h1.2.2⟩
      · rw [up1_n hq, ih]
        exact ⟨fun h1 => Or.inl h1, fun h1 => h1.elim id (fun h2 => absurd h2.2.1.symm hq)⟩
    · rw [Gf_n hok, ih]
      exact ⟨fun h1 => Or.inl h1, fun h1 => h1.elim id (fun h2 => absurd h2.1 hok)⟩
theorem Gf_lt {pl ch : Nat} {D : Nat → Nat → Nat} (h : PD pl ch D) (ok : Nat → Bool) (cr : Nat → Nat) {i : Nat} (hi : i ≤ ch) (q : Nat) : Gf D ok cr i q < 2 ^ 61 := by
  apply Nat.lt_pow_two_of_testBit
  intro j hj
  cases hh : (Gf D ok cr i q).testBit j
  · rfl
  · obtain ⟨c, _, _, _, c4⟩ := (Gf_GS h ok cr i hi q j).mp hh
    have := ((Hf_HS h ok i hi (D 2 c) j).mp c4).1
    omega
theorem Gf_iff {pl ch : Nat} {D : Nat → Nat → Nat} (h : PD pl ch D) (ok : Nat → Bool) (cr : Nat → Nat) (q x : Nat) : (Gf D ok cr ch q).testBit x = true ↔ ∃ c, c < ch ∧ ok c = true ∧ cr c = q ∧ (Hf D ok ch (D 2 c)).testBit x = true := by
  rw [Gf_GS h ok cr ch (Nat.le_refl _) q x]
  constructor
  · rintro ⟨c, c1, c2⟩
    obtain ⟨j, j1, j2⟩ := (dnf_iff D ch c).mp c1
    exact ⟨c, by rw [← j2]; exact h.2.2.2.1 j j1, c2⟩
  · rintro ⟨c, c1, c2⟩
    obtain ⟨i, i1, i2⟩ := h.2.2.2.2.2 c c1
    exact ⟨c, (dnf_iff D ch c).mpr ⟨i, i1, i2⟩, c2⟩
/-- the row of cracks -/
def CR (ch : Nat) (f : Nat → Int32) (cr : Nat → Nat) : Prop := ∀ c, c < ch → (cr c < 8 ∧ f c = nI (cr c)) ∨ (cr c = 9 ∧ f c = -1)
theorem go_lt (k : Nat) {s : Nat} (hs : s < 2 ^ 30) : goS k s < 2 ^ 30 := by
  unfold goS
  split
  · omega
  · split
    · exact Nat.lt_of_le_of_lt Nat.and_le_left hs
    · exact hs
theorem run_step {N pl ch z t i : Nat} {D : Nat → Nat → Nat} {L : SL} {P M : St} {f : Nat → Int32} {cr : Nat → Nat} (hPR : PR pl ch D P (M 15 0) (M 16 0) (M 17 0) (M 18) (M 19)) (hz : z < 1024) (ht : t < 8) (hi : i < ch) (hcr : CR ch f cr) (g : ∀ p, p < 8 → L 0 p = lN (Hf D (okf D z t) i p) ∧ L 1 p = lN (Gf D (okf D z t) cr i p)) : ∃ f0 f1, x_X8_run_b37 N L P f (nI t) (nI z) (nI i) = some (.inl (nI (i + 1), f0, f1)) ∧ ∀ p, p < 8 → f0 p = lN (Hf D (okf D z t) (i + 1) p) ∧ f1 p = lN (Gf D (okf D z t) cr (i + 1) p) := by
  have hpd := hPR.pd
  have hPR0 := hPR
  obtain ⟨r1, r2, r3, r4, r5, r6, r7, r8, r9, r10, r11, r12⟩ := hPR
  obtain ⟨d1, d2⟩ := r10 i hi
  have hlt := Hf_lt hpd (okf D z t) (i := i) (by omega)
  obtain ⟨c, hc⟩ : ∃ c, c = D 5 i := ⟨_, rfl⟩
  rw [← hc] at d1 d2
  obtain ⟨a1, a2, a3, a4, a5, a6, a7, a8, a9, a10, a11⟩ := r9 c d1
  have e8 : nI i + (1 : Int32) = nI (i + 1) := by simp (disch := omega) only [li_0, li_1, li_2, li_3, li_4, li_5, li_6, li_7, li_8, li_9, li_10, li_11, li_15, li_16, li_20, li_30, li_32, li_48, li_57, li_58, li_59, li_60, li_61, li_63, li_64, li_80, li_85, li_88, li_99, li_100, li_112, li_115, li_152, li_162, li_172, li_173, li_174, li_240, li_255, li_348, li_1000, li_3306, nI_add]
  have i1 : ∀ j, j < 10 → ¬ (nI j < 0 ∨ 10 ≤ j) := fun j hj => by have := nI_in (c := j) (N := 10) hj (by omega); rwa [cl (by omega)] at this
  have i2 : ∀ j, j < 8 → ¬ (nI j < 0 ∨ 8 ≤ j) := fun j hj => by have := nI_in (c := j) (N := 8) hj (by omega); rwa [cl (by omega)] at this
  obtain ⟨g1, g2⟩ := g (D 2 c) (by omega)
  obtain ⟨g3, g4⟩ := g (D 3 c) (by omega)
  have ego := (goes_val hPR0 (p := D 2 c) (s := 2 ^ t) a1).1
  have h2t : 2 ^ t < 2 ^ 30 := Nat.pow_lt_pow_right (by omega) (by omega)
  have hgl := go_lt (D 0 (D 2 c)) h2t
  have hne : ¬ D 2 c = D 3 c := fun h => by rw [h] at a5; omega
  unfold x_X8_run_b37
  rw [r6, if_neg (nleI hi (by omega)), cl (by omega), if_neg (i1 i (by omega)), d2]
  simp only [xl, cl (show c < 2 ^ 31 by omega), if_neg (i1 c (by omega)), a6, a8, a10, cl (show D 2 c < 2 ^ 31 by omega), cl (show D 3 c < 2 ^ 31 by omega), if_neg (i2 (D 2 c) (by omega)), if_neg (i2 (D 3 c) (by omega)), has_eq (show z < 2 ^ 31 by omega) (show c < 32 by omega), Option.bind_some, e8, s_l10 t (by omega), ego, g1, g3]
  have hskip : ¬ okf D z t c = true ∨ Hf D (okf D z t) i (D 2 c) = 0 → ∀ p, p < 8 → L 0 p = lN (Hf D (okf D z t) (i + 1) p) ∧ L 1 p = lN (Gf D (okf D z t) cr (i + 1) p) := fun h p hp => by
    by_cases hok : okf D z t c = true
    · have h0 := h.resolve_left (fun h => h hok)
      rw [hc] at hok h0
      rw [Hf_s hok, Gf_s hok]
      constructor
      · by_cases hq : p = D 3 (D 5 i)
        · rw [hq, up1_s, h0, show shf 0 (D 4 (D 5 i)) = 0 by unfold shf; rw [Nat.zero_shiftLeft], Nat.or_zero, ← hc]; exact g3
        · rw [up1_n hq]; exact (g p hp).1
      · by_cases hq : p = cr (D 5 i)
        · rw [← hq, up1_s, h0, Nat.or_zero]; exact (g p hp).2
        · rw [up1_n hq]; exact (g p hp).2
    · rw [hc] at hok
      rw [Hf_n hok, Gf_n hok]
      exact g p hp
  by_cases hw0 : Hf D (okf D z t) i (D 2 c) = 0
  · rw [if_pos ((cmp0 (by have := hlt (D 2 c); omega)).mpr hw0)]
    exact ⟨_, _, rfl, hskip (Or.inr hw0)⟩
  · rw [if_neg (fun h => hw0 ((cmp0 (by have := hlt (D 2 c); omega)).mp h))]
    by_cases hbit : z.testBit c = true
    · rw [if_pos hbit, if_neg z10]
      exact ⟨_, _, rfl, hskip (Or.inl (by unfold okf; rw [hbit]; exact Bool.false_ne_true))⟩
    · rw [if_neg hbit, if_pos rfl]
      by_cases hgo : goS (D 0 (D 2 c)) (2 ^ t) = 0
      · rw [if_pos (show nI (goS (D 0 (D 2 c)) (2 ^ t)) = 0 by rw [hgo]; rfl)]
        exact ⟨_, _, rfl, hskip (Or.inl (by unfold okf; rw [hgo, decide_eq_false (fun h => h rfl), Bool.and_false]; exact Bool.false_ne_true))⟩
      · rw [if_neg (show ¬ nI (goS (D 0 (D 2 c)) (2 ^ t)) = 0 from fun h => hgo (nI_inj (b := 0) (by omega) (by omega) h))]
        have hok : okf D z t c = true := by
          unfold okf
          rw [decide_eq_true hgo, Bool.and_true]
          cases hh : z.testBit c
          · rfl
          · exact absurd hh hbit
        rw [hc] at hok
        have h0 : ∀ p, p < 8 → vp_updL (L 0) (D 3 c) (lN (Hf D (okf D z t) i (D 3 c)) ||| (lN (Hf D (okf D z t) i (D 2 c)) <<< ((nI (D 4 c)).toInt64 &&& 63)) &&& (2305843009213693951 : Int64)) p = lN (Hf D (okf D z t) (i + 1) p) := fun p hp => by
          rw [lN_shf _ (show D 4 c < 64 by omega), lN_or, Hf_s hok, ← hc]
          by_cases hq : p = D 3 c
          · rw [hq, up1_s, pk_uLs]
          · rw [up1_n hq, pk_uLn hq]; exact (g p hp).1
        rcases hcr c d1 with ⟨k1, k2⟩ | ⟨k1, k2⟩
        · rw [k2, if_neg (nI_pos (by omega)), if_neg (show ¬ (8 : Int32) ≤ nI (cr c) from nI_ge (b := 8) k1 (by omega)), cl (by omega), if_neg (i2 _ k1), if_neg (i2 _ k1), (g _ k1).2, pk_uLn hne, g1, lN_or]
          refine ⟨_, _, rfl, fun p hp => ⟨h0 p hp, ?_⟩⟩
          rw [Gf_s hok, ← hc]
          by_cases hq : p = cr c
          · rw [hq, up1_s, pk_uLs]
          · rw [up1_n hq, pk_uLn hq]; exact (g p hp).2
        · rw [k2, if_pos (show (-1 : Int32) < 0 by decide)]
          refine ⟨_, _, rfl, fun p hp => ⟨h0 p hp, ?_⟩⟩
          rw [Gf_s hok, ← hc, up1_n (show ¬ p = cr c by omega)]
          exact (g p hp).2
theorem run_val {N pl ch z t : Nat} (hN : 4096 ≤ N) {D : Nat → Nat → Nat} {L : SL} {P M : St} {f : Nat → Int32} {cr : Nat → Nat} (hPR : PR pl ch D P (M 15 0) (M 16 0) (M 17 0) (M 18) (M 19)) (hz : z < 1024) (ht : t < 8) (hcr : CR ch f cr) : ∃ f0 f1, x_X8_run N L P f (nI t) (nI z) = some (f0, f1) ∧ (0 < pl → ∀ p, p < 8 → f0 p = lN (Hf D (okf D z t) ch p) ∧ f1 p = lN (Gf D (okf D z t) cr ch p)) := by
  have c0 : (0 : Int32).toNatClampNeg = 0 := rfl
  have r1 := hPR.1
  have r2 := hPR.2.1
  have r4 := hPR.2.2.2.1
  have r6 := hPR.2.2.2.2.2.1
  obtain ⟨v1, k1, k2⟩ := fillL_eq hN (n := 8) (by omega) (a := L 0) (x := 0)
  obtain ⟨v2, j1, j2⟩ := fillL_eq hN (n := 8) (by omega) (a := L 1) (x := 0)
  have i0 : ¬ ((0 : Int32) < 0 ∨ 8 ≤ (0 : Int32).toNatClampNeg) := by decide
  unfold x_X8_run
  rw [k1, j1]
  simp only [Option.bind_some]
  rw [r4]
  by_cases hpl : pl = 0
  · have hch : ch = 0 := by
      refine Nat.eq_zero_of_not_pos (fun h => ?_)
      have := (hPR.pd.2.2.1 0 h).1
      omega
    rw [if_pos (show nI pl = 0 by rw [hpl]; rfl)]
    unfold x_X8_run_k33
    rw [if_neg i0]
    obtain ⟨x, u1, _⟩ := lpc_run (body := fun (q : Int32 × (Nat → Int64) × (Nat → Int64)) => x_X8_run_b37 N (va_up (va_up (va_up (va_up L 0 v1) 1 v2) 0 q.2.1) 1 q.2.2) P f (nI t) (nI z) q.1) (I := fun k q => q.1 = nI k) (Pst := fun _ => True) 0 (fun k q hk hI => by
      obtain ⟨q1, q2⟩ := q
      dsimp only at hI
      subst hI
      right
      show ∃ x, x_X8_run_b37 _ _ _ _ _ _ _ = _ ∧ _
      unfold x_X8_run_b37
      rw [r6, hch, if_pos (nI_le (by omega) (by omega))]
      exact ⟨_, rfl, trivial⟩) (N := N) (z := ((0 : Int32), (vp_updL ((va_up (va_up L 0 v1) 1 v2) 0) (0 : Int32).toNatClampNeg (0 : Int64)), ((va_up (va_up L 0 v1) 1 v2) 1))) (by omega) rfl
    rw [u1]
    exact ⟨_, _, rfl, fun h => absurd h (by omega)⟩
  · rw [if_neg (show ¬ nI pl = 0 from fun h => hpl (nI_inj (b := 0) (by omega) (by omega) h))]
    unfold x_X8_run_k33
    rw [if_neg i0]
    obtain ⟨x, u1, u2⟩ := lpc_run (body := fun (q : Int32 × (Nat → Int64) × (Nat → Int64)) => x_X8_run_b37 N (va_up (va_up (va_up (va_up L 0 v1) 1 v2) 0 q.2.1) 1 q.2.2) P f (nI t) (nI z) q.1) (I := fun k q => k ≤ ch ∧ q.1 = nI k ∧ ∀ p, p < 8 → q.2.1 p = lN (Hf D (okf D z t) k p) ∧ q.2.2 p = lN (Gf D (okf D z t) cr k p)) (Pst := fun x => ∀ p, p < 8 → x.1 p = lN (Hf D (okf D z t) ch p) ∧ x.2 p = lN (Gf D (okf D z t) cr ch p)) ch (fun k q hk hI => by
      obtain ⟨q1, f0, f1⟩ := q
      obtain ⟨_, rfl, h2⟩ := hI
      dsimp only at h2
      by_cases hk8 : k = ch
      · subst hk8
        right
        refine ⟨(f0, f1), ?_, h2⟩
        show x_X8_run_b37 _ _ _ _ _ _ _ = _
        unfold x_X8_run_b37
        rw [r6, if_pos (nI_le (Nat.le_refl _) (by omega))]
        rfl
      · left
        obtain ⟨f0', f1', y1, y2⟩ := run_step (N := N) (L := va_up (va_up (va_up (va_up L 0 v1) 1 v2) 0 f0) 1 f1) hPR hz ht (show k < ch by omega) hcr h2
        exact ⟨_, y1, by omega, by omega, rfl, y2⟩) (N := N) (z := ((0 : Int32), (vp_updL ((va_up (va_up L 0 v1) 1 v2) 0) (0 : Int32).toNatClampNeg (1 : Int64)), ((va_up (va_up L 0 v1) 1 v2) 1))) (by omega) ⟨by omega, rfl, fun p hp => by
        show vp_updL v1 0 (1 : Int64) p = lN (b0 p) ∧ v2 p = lN 0
        refine ⟨?_, j2 p hp⟩
        by_cases hp0 : p = 0
        · subst hp0; rw [pk_uLs]; rfl
        · rw [pk_uLn hp0, k2 p hp, show b0 p = 0 from if_neg hp0]; rfl⟩
    obtain ⟨f0, f1⟩ := x
    rw [u1]
    exact ⟨f0, f1, rfl, fun _ => u2⟩
