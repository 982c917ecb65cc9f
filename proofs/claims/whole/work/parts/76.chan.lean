/-! 'c' -/
def jn (D : Nat → Nat → Nat) (ch a b : Nat) : Prop := ∃ c, c < ch ∧ D 2 c = a ∧ D 3 c = b
theorem joins_val {N pl ch : Nat} (hN : 4096 ≤ N) {D : Nat → Nat → Nat} {P : St} {m15 m16 m17 : Int32} {m18 m19 : Nat → Int32} (hPR : PR pl ch D P m15 m16 m17 m18 m19) {a b : Nat} (ha : a < pl) (hb : b < pl) : (jn D ch a b ∧ x_X4_joins N P (nI a) (nI b) = some 1) ∨ (¬ jn D ch a b ∧ x_X4_joins N P (nI a) (nI b) = some 0) := by
  obtain ⟨r1, r2, r3, r4, r5, r6, r7, r8, r9, r10, r11, r12⟩ := hPR
  obtain ⟨x, u1, u2⟩ := lpc_run (body := fun (z : Int32) => x_X4_joins_b2 N P (nI a) (nI b) z) (I := fun k z => z = nI k ∧ ∀ c, c < k → ¬ (D 2 c = a ∧ D 3 c = b)) (Pst := fun x => (x = .inl () ∧ jn D ch a b) ∨ (x = .inr () ∧ ¬ jn D ch a b)) ch (fun k z hk hI => by
    obtain ⟨rfl, h1⟩ := hI
    unfold x_X4_joins_b2
    rw [r6]
    by_cases hk8 : k = ch
    · subst hk8
      right
      rw [if_pos (nI_le (Nat.le_refl _) (by omega))]
      exact ⟨_, rfl, Or.inr ⟨rfl, fun ⟨c, c1, c2⟩ => h1 c c1 c2⟩⟩
    · obtain ⟨a1, a2, a3, a4, a5, a6, a7, a8, a9, a10, a11⟩ := r9 k (by omega)
      have e8 : nI k + (1 : Int32) = nI (k + 1) := nI_add k 1
      have i10 : ¬ (nI k < 0 ∨ 10 ≤ k) := by have := nI_in (c := k) (N := 10) (by omega) (by omega); rwa [cl (by omega)] at this
      rw [if_neg (nleI (show k < ch by omega) (by omega)), cl (by omega), if_neg i10, if_neg i10, a6, a8, e8]
      have next : ¬ (D 2 k = a ∧ D 3 k = b) → ∀ c, c < k + 1 → ¬ (D 2 c = a ∧ D 3 c = b) := fun h c hc => by
        by_cases hck : c = k
        · rw [hck]; exact h
        · exact h1 c (by omega)
      by_cases h2 : D 2 k = a
      · rw [if_pos (congrArg nI h2)]
        by_cases h3 : D 3 k = b
        · right
          rw [if_pos (congrArg nI h3)]
          exact ⟨_, rfl, Or.inl ⟨rfl, k, by omega, h2, h3⟩⟩
        · left
          rw [if_neg (fun h => h3 (nI_inj (by omega) (by omega) h))]
          exact ⟨_, rfl, by omega, rfl, next (fun h => h3 h.2)⟩
      · left
        rw [if_neg (fun h => h2 (nI_inj (by omega) (by omega) h))]
        exact ⟨_, rfl, by omega, rfl, next (fun h => h2 h.1)⟩) (N := N) (z := (0 : Int32)) (by omega) ⟨rfl, fun c hc => absurd hc (Nat.not_lt_zero c)⟩
  unfold x_X4_joins
  rw [u1]
  rcases u2 with ⟨h1, h2⟩ | ⟨h1, h2⟩
  · left; rw [h1]; exact ⟨h2, rfl⟩
  · right; rw [h1]; exact ⟨h2, rfl⟩
def mj (D : Nat → Nat → Nat) (ch a b : Nat) : Prop := D 1 b < D 1 a ∧ ¬ jn D ch a b
theorem mayJoin_val {N pl ch : Nat} (hN : 4096 ≤ N) {D : Nat → Nat → Nat} {P : St} {m15 m16 m17 : Int32} {m18 m19 : Nat → Int32} (hPR : PR pl ch D P m15 m16 m17 m18 m19) {a b : Nat} (ha : a < pl) (hb : b < pl) : (mj D ch a b ∧ x_X4_mayJoin N P (nI a) (nI b) = some 1) ∨ (¬ mj D ch a b ∧ x_X4_mayJoin N P (nI a) (nI b) = some 0) := by
  have hj := joins_val hN hPR ha hb
  obtain ⟨r1, r2, r3, r4, r5, r6, r7, r8, r9, r10, r11, r12⟩ := hPR
  obtain ⟨_, b2, _, _, b5, _⟩ := r8 a ha
  obtain ⟨_, c2, _, _, c5, _⟩ := r8 b hb
  have i2 : ∀ j, j < 8 → ¬ (nI j < 0 ∨ 8 ≤ j) := fun j hj => by have := nI_in (c := j) (N := 8) hj (by omega); rwa [cl (by omega)] at this
  unfold x_X4_mayJoin
  rw [place1 r4 r1 ha, place1 r4 r1 hb]
  simp only [Option.bind_some]
  rw [if_neg z10, if_neg z10, cl (show a < 2 ^ 31 by omega), cl (show b < 2 ^ 31 by omega), if_neg (i2 b (by omega)), if_neg (i2 a (by omega)), b5, c5]
  by_cases hab : a = b
  · right
    rw [if_pos (congrArg nI hab)]
    exact ⟨fun h => by have := h.1; rw [hab] at this; omega, rfl⟩
  · rw [if_neg (fun h => hab (nI_inj (by omega) (by omega) h))]
    by_cases hl : D 1 a ≤ D 1 b
    · right
      rw [if_pos (nI_le hl (by omega))]
      exact ⟨fun h => by have := h.1; omega, rfl⟩
    · rw [if_neg (nleI (by omega) (by omega))]
      rcases hj with ⟨h1, h2⟩ | ⟨h1, h2⟩
      · right
        rw [h2]
        simp only [Option.bind_some]
        rw [if_neg z10]
        exact ⟨fun h => h.2 h1, rfl⟩
      · left
        rw [h2]
        exact ⟨⟨by omega, h1⟩, rfl⟩
/-- the place for the next in the falling order -/
theorem chole {N pl ch a : Nat} (hN : 4096 ≤ N) {D : Nat → Nat → Nat} {P : St} {x2 x3 : Int32} {m15 m16 m17 : Int32} {m18 m19 : Nat → Int32} (hPR : PR pl ch D P m15 m16 m17 m18 m19) (ha : a < pl) (hch : ch < 10) : ∃ j A', lpc (fun (q : Int32 × (Nat → Int32)) => x_X4_addChannel_b25 N (va_up P 8 q.2) (nI a) x2 x3 q.1) N (nI ch, P 8) = some (nI j, A') ∧ j ≤ ch ∧ (∀ i, j ≤ i → i < ch → D 1 (D 2 (D 5 i)) < D 1 a) ∧ (j = 0 ∨ D 1 a ≤ D 1 (D 2 (D 5 (j - 1)))) ∧ (∀ i, i < j → A' i = P 8 i) ∧ (∀ i, j < i → i ≤ ch → A' i = P 8 (i - 1)) := by
  obtain ⟨r1, r2, r3, r4, r5, r6, r7, r8, r9, r10, r11, r12⟩ := hPR
  obtain ⟨x, u1, j, A', u2, u3⟩ := lpc_run (body := fun (q : Int32 × (Nat → Int32)) => x_X4_addChannel_b25 N (va_up P 8 q.2) (nI a) x2 x3 q.1)
    (I := fun t q => t ≤ ch ∧ q.1 = nI (ch - t) ∧ (∀ i, ch - t ≤ i → i < ch → D 1 (D 2 (D 5 i)) < D 1 a) ∧ (∀ i, i < ch - t → q.2 i = P 8 i) ∧ (∀ i, ch - t < i → i ≤ ch → q.2 i = P 8 (i - 1)))
    (Pst := fun q => ∃ j A', q = (nI j, A') ∧ j ≤ ch ∧ (∀ i, j ≤ i → i < ch → D 1 (D 2 (D 5 i)) < D 1 a) ∧ (j = 0 ∨ D 1 a ≤ D 1 (D 2 (D 5 (j - 1)))) ∧ (∀ i, i < j → A' i = P 8 i) ∧ (∀ i, j < i → i ≤ ch → A' i = P 8 (i - 1))) ch (fun t q ht hI => by
      obtain ⟨q1, f⟩ := q
      obtain ⟨h0, rfl, h1, h2, h3⟩ := hI
      dsimp only at h2 h3
      obtain ⟨j, hj⟩ : ∃ j, j = ch - t := ⟨_, rfl⟩
      rw [← hj] at h1 h2 h3
      rw [← hj]
      show (∃ z', x_X4_addChannel_b25 N (va_up P 8 f) (nI a) x2 x3 (nI j) = _ ∧ _) ∨ (∃ x, x_X4_addChannel_b25 N (va_up P 8 f) (nI a) x2 x3 (nI j) = _ ∧ _)
      unfold x_X4_addChannel_b25
      by_cases hj0 : j = 0
      · right
        rw [if_pos (show nI j ≤ 0 by rw [hj0]; decide)]
        exact ⟨_, rfl, j, f, rfl, by omega, h1, Or.inl hj0, h2, h3⟩
      · have e1 : nI j - (1 : Int32) = nI (j - 1) := pk_sub (a := j) (b := 1) (by omega)
        obtain ⟨o1, o2⟩ := r10 (j - 1) (by omega)
        have f1 : f (j - 1) = nI (D 5 (j - 1)) := (h2 _ (by omega)).trans o2
        obtain ⟨a1, _, _, _, _, a6, _⟩ := r9 (D 5 (j - 1)) o1
        obtain ⟨_, p1, _, _, p2, _⟩ := r8 (D 2 (D 5 (j - 1))) a1
        obtain ⟨_, p3, _, _, p4, _⟩ := r8 a ha
        have e3 : nI j + (-1 : Int32) = nI (j - 1) := by rw [← e1]; exact (Int32.sub_eq_add_neg _ _).symm
        have i8 : ∀ j, j < 8 → ¬ (nI j < 0 ∨ 8 ≤ j) := fun j hj => by have := nI_in (c := j) (N := 8) hj (by omega); rwa [cl (by omega)] at this
        have i10 : ∀ j, j < 10 → ¬ (nI j < 0 ∨ 10 ≤ j) := fun j hj => by have := nI_in (c := j) (N := 10) hj (by omega); rwa [cl (by omega)] at this
        have t8 : (va_up P 8 f) 8 = f := rfl
        have t5 : (va_up P 8 f) 5 = P 5 := rfl
        have t4 : (va_up P 8 f) 4 = P 4 := rfl
        rw [if_neg (show ¬ nI j ≤ 0 from fun h => by have := (nI_leI (b := 0) (by omega) (by omega)).mp h; omega), t8, t5, t4, e1, cl (show j - 1 < 2 ^ 31 by omega), f1, cl (show D 5 (j - 1) < 2 ^ 31 by omega), a6, cl (show D 2 (D 5 (j - 1)) < 2 ^ 31 by omega), cl (show a < 2 ^ 31 by omega), cl (show j < 2 ^ 31 by omega), p2, p4, if_neg (i10 (j - 1) (by omega)), if_neg (i10 (D 5 (j - 1)) (by omega)), if_neg (i8 _ (by omega)), if_neg (i8 a (by omega))]
        by_cases hl : D 1 a ≤ D 1 (D 2 (D 5 (j - 1)))
        · right
          rw [if_pos (nI_le hl (by omega))]
          exact ⟨_, rfl, j, f, rfl, by omega, h1, Or.inr hl, h2, h3⟩
        · left
          rw [if_neg (nleI (by omega) (by omega)), if_neg (i10 (j - 1) (by omega)), if_neg (i10 j (by omega)), e3]
          unfold xl
          refine ⟨_, rfl, by omega, by omega, by show nI (j - 1) = _; rw [show ch - (t + 1) = j - 1 by omega], ?_⟩
          rw [show ch - (t + 1) = j - 1 by omega]
          refine ⟨fun i hi1 hi2 => ?_, fun i hi => ?_, fun i hi1 hi2 => ?_⟩
          · by_cases h : i = j - 1
            · rw [h]; omega
            · exact h1 i (by omega) hi2
          · show upd f j _ i = _
            rw [pk_un (by omega)]; exact h2 i (by omega)
          · show upd f j (nI (D 5 (j - 1))) i = _
            by_cases h : i = j
            · subst h; rw [pk_us]; exact o2.symm
            · rw [pk_un h]; exact h3 i (by omega) hi2) (N := N) (z := (nI ch, P 8)) (by omega) ⟨Nat.zero_le ch, rfl, fun i h1 h2 => by omega, fun i _ => rfl, fun i h1 h2 => by omega⟩
  subst u2
  exact ⟨j, A', u1, u3⟩
def lvE (D : Nat → Nat → Nat) (ch a : Nat) : Nat → Nat → Nat := fun _ c => if c = ch then D 1 a else D 1 (D 2 c)
theorem addChannel_val {N pl ch a b : Nat} (hN : 4096 ≤ N) {D : Nat → Nat → Nat} {P : St} {x3 : Int32} {m15 m16 m17 : Int32} {m18 m19 : Nat → Int32} (hPR : PR pl ch D P m15 m16 m17 m18 m19) (ha : a < pl) (hb : b < pl) (hch : ch < 10) (hmj : mj D ch a b) : ∃ o A8, x_X4_addChannel N P (nI a) (nI b) x3 = some (nI (ch + 1), upd (P 5) ch (nI a), upd (P 6) ch (nI b), upd (P 7) ch x3, A8) ∧ OK' (lvE D ch a) (ch + 1) o ∧ ∀ i, i < ch + 1 → A8 i = nI (o i) := by
  obtain ⟨j, A', y1, y2, y3, y4, y5, y6⟩ := chole hN (x2 := nI b) (x3 := x3) hPR ha hch
  have hm : x_X4_mayJoin N P (nI a) (nI b) = some 1 := by
    rcases mayJoin_val hN hPR ha hb with ⟨_, h⟩ | ⟨h, _⟩
    · exact h
    · exact absurd hmj h
  obtain ⟨r1, r2, r3, r4, r5, r6, r7, r8, r9, r10, r11, r12⟩ := hPR
  have hlow : ∀ c, c < ch → lvE D ch a 1 c = D 1 (D 2 c) := fun c hc => if_neg (by omega)
  have htop : lvE D ch a 1 ch = D 1 a := if_pos rfl
  have hok : OK' (lvE D ch a) ch (D 5) := ⟨fun i hi => (r10 i hi).1, fun i i' h1 h2 => by
    rw [hlow _ (r10 i' h2).1, hlow _ (r10 i (by omega)).1]
    exact r11 i i' h1 h2, fun p hp => r12 p hp⟩
  refine ⟨ins (D 5) j ch, upd A' j (nI ch), ?_, hok.ins y2 (fun i h1 h2 => by rw [htop, hlow _ (r10 i h2).1]; exact y3 i h1 h2) (by
    rcases y4 with h | h
    · exact Or.inl h
    · by_cases hj0 : j = 0
      · exact Or.inl hj0
      · exact Or.inr (by rw [htop, hlow _ (r10 (j - 1) (by omega)).1]; exact h)), fun i hi => ?_⟩
  · have i10 : ∀ j, j < 10 → ¬ (nI j < 0 ∨ 10 ≤ j) := fun j hj => by have := nI_in (c := j) (N := 10) hj (by omega); rwa [cl (by omega)] at this
    have e8 : nI ch + (1 : Int32) = nI (ch + 1) := nI_add ch 1
    unfold x_X4_addChannel
    rw [r6, if_neg (show ¬ (10 : Int32) ≤ nI ch from nI_ge (b := 10) hch (by omega)), hm]
    simp only [Option.bind_some]
    rw [if_neg z10]
    unfold xl
    dsimp only
    rw [y1]
    simp only [Option.bind_some]
    rw [cl (show j < 2 ^ 31 by omega), cl (show ch < 2 ^ 31 by omega), if_neg (i10 j (by omega)), if_neg (i10 ch (by omega)), if_neg (i10 ch (by omega)), if_neg (i10 ch (by omega)), e8]
  · show upd A' j (nI ch) i = _
    rcases Nat.lt_trichotomy i j with h | h | h
    · rw [pk_un (by omega), ins_a h, y5 i h]; exact (r10 i (by omega)).2
    · subst h; rw [pk_us, ins_b]
    · rw [pk_un (by omega), ins_c h, y6 i h (by omega)]; exact (r10 (i - 1) (by omega)).2
/-- a place more -/
def Dp (D : Nat → Nat → Nat) (pl v1 v2 : Nat) : Nat → Nat → Nat := fun k i => if i = pl ∧ k = 0 then v1 else if i = pl ∧ k = 1 then v2 else D k i
theorem Dp_o {D : Nat → Nat → Nat} {pl v1 v2 k i : Nat} (h : ¬ i = pl ∨ 2 ≤ k) : Dp D pl v1 v2 k i = D k i := by
  unfold Dp
  rw [if_neg (by omega), if_neg (by omega)]
theorem Dp_0 {D : Nat → Nat → Nat} {pl v1 v2 : Nat} : Dp D pl v1 v2 0 pl = v1 := if_pos ⟨rfl, rfl⟩
theorem Dp_1 {D : Nat → Nat → Nat} {pl v1 v2 : Nat} : Dp D pl v1 v2 1 pl = v2 := by
  unfold Dp
  rw [if_neg (by omega), if_pos ⟨rfl, rfl⟩]
def PRt (pl ch : Nat) (D : Nat → Nat → Nat) (p0 p1 p2 : Int32) (p3 p4 p5 p6 p7 p8 : Nat → Int32) (m15 m16 m17 : Int32) (m18 m19 : Nat → Int32) : Prop := PR pl ch D (fun k => if k = 0 then (fun _ => p0) else if k = 1 then (fun _ => p1) else if k = 2 then (fun _ => p2) else if k = 3 then p3 else if k = 4 then p4 else if k = 5 then p5 else if k = 6 then p6 else if k = 7 then p7 else p8) m15 m16 m17 m18 m19
theorem PR.place {pl ch : Nat} {D : Nat → Nat → Nat} {P : St} {m15 m16 m17 : Int32} {m18 m19 : Nat → Int32} (h : PR pl ch D P m15 m16 m17 m18 m19) (hpl : pl < 8) {v1 v2 : Nat} (h1 : v1 ≤ 3) (h2 : v2 ≤ 99) : PRt (pl + 1) ch (Dp D pl v1 v2) (P 0 0) (nI (pl + 1)) (P 2 0) (upd (P 3) pl (nI v1)) (upd (P 4) pl (nI v2)) (P 5) (P 6) (P 7) (P 8) m15 (nI (pl + 1)) m17 (upd (upd m18 (2 * pl) (nI v1)) (2 * pl + 1) (nI v2)) m19 := by
  obtain ⟨r1, r2, r3, r4, r5, r6, r7, r8, r9, r10, r11, r12⟩ := h
  refine ⟨by omega, r2, r3, rfl, rfl, r6, r7, fun i hi => ?_, fun j hj => ?_, fun i hi => ?_, fun i j hij hj => ?_, fun c hc => ?_⟩
  · show Dp D pl v1 v2 0 i < 4 ∧ Dp D pl v1 v2 1 i < 100 ∧ upd (P 3) pl (nI v1) i = _ ∧ upd (upd m18 (2 * pl) (nI v1)) (2 * pl + 1) (nI v2) (2 * i) = _ ∧ upd (P 4) pl (nI v2) i = _ ∧ upd (upd m18 (2 * pl) (nI v1)) (2 * pl + 1) (nI v2) (2 * i + 1) = _
    by_cases hip : i = pl
    · subst hip
      rw [Dp_0, Dp_1, pk_us, pk_us, pk_us, pk_un (by omega), pk_us]
      exact ⟨by omega, by omega, rfl, rfl, rfl, rfl⟩
    · rw [Dp_o (Or.inl hip), Dp_o (Or.inl hip), pk_un hip, pk_un hip, pk_un (by omega), pk_un (by omega), pk_un (by omega), pk_un (by omega)]
      exact r8 i (by omega)
  · obtain ⟨a1, a2, a3, a4, a5, a6⟩ := r9 j hj
    rw [Dp_o (Or.inr (by omega)), Dp_o (Or.inr (by omega)), Dp_o (Or.inr (by omega)), Dp_o (Or.inl (by omega)), Dp_o (Or.inl (by omega))]
    exact ⟨by omega, by omega, a3, a4, a5, a6⟩
  · rw [Dp_o (Or.inr (by omega))]; exact r10 i hi
  · have c1 := (r10 i (by omega)).1
    have c2 := (r10 j hj).1
    have d1 := (r9 _ c1).1
    have d2 := (r9 _ c2).1
    rw [Dp_o (k := 5) (Or.inr (by omega)), Dp_o (k := 5) (Or.inr (by omega)), Dp_o (k := 2) (Or.inr (by omega)), Dp_o (k := 2) (Or.inr (by omega)), Dp_o (Or.inl (by omega)), Dp_o (Or.inl (by omega))]
    exact r11 i j hij hj
  · obtain ⟨i, i1, i2⟩ := r12 c hc
    exact ⟨i, i1, by rw [Dp_o (Or.inr (by omega))]; exact i2⟩
/-- a channel more -/
def Dc (D : Nat → Nat → Nat) (ch a b h : Nat) (o : Nat → Nat) : Nat → Nat → Nat := fun k i => if k = 5 then o i else if i = ch ∧ k = 2 then a else if i = ch ∧ k = 3 then b else if i = ch ∧ k = 4 then h else D k i
theorem Dc_5 {D : Nat → Nat → Nat} {ch a b h i : Nat} {o : Nat → Nat} : Dc D ch a b h o 5 i = o i := if_pos rfl
theorem Dc_o {D : Nat → Nat → Nat} {ch a b h k i : Nat} {o : Nat → Nat} (h5 : ¬ k = 5) (hh : ¬ i = ch ∨ k ≤ 1) : Dc D ch a b h o k i = D k i := by
  unfold Dc
  rw [if_neg h5, if_neg (by omega), if_neg (by omega), if_neg (by omega)]
theorem Dc_2 {D : Nat → Nat → Nat} {ch a b h : Nat} {o : Nat → Nat} : Dc D ch a b h o 2 ch = a := by
  unfold Dc
  rw [if_neg (by omega), if_pos ⟨rfl, rfl⟩]
theorem Dc_3 {D : Nat → Nat → Nat} {ch a b h : Nat} {o : Nat → Nat} : Dc D ch a b h o 3 ch = b := by
  unfold Dc
  rw [if_neg (by omega), if_neg (by omega), if_pos ⟨rfl, rfl⟩]
theorem Dc_4 {D : Nat → Nat → Nat} {ch a b h : Nat} {o : Nat → Nat} : Dc D ch a b h o 4 ch = h := by
  unfold Dc
  rw [if_neg (by omega), if_neg (by omega), if_neg (by omega), if_pos ⟨rfl, rfl⟩]
theorem PR.chan {pl ch : Nat} {D : Nat → Nat → Nat} {P : St} {m15 m16 m17 : Int32} {m18 m19 : Nat → Int32} (h : PR pl ch D P m15 m16 m17 m18 m19) (hch : ch < 10) {a b hh : Nat} (ha : a < pl) (hb : b < pl) (hl : D 1 b < D 1 a) (h1 : 1 ≤ hh) (h2 : hh ≤ 9) {o : Nat → Nat} {A8 : Nat → Int32} (ho : OK' (lvE D ch a) (ch + 1) o) (hA : ∀ i, i < ch + 1 → A8 i = nI (o i)) : PRt pl (ch + 1) (Dc D ch a b hh o) (P 0 0) (P 1 0) (nI (ch + 1)) (P 3) (P 4) (upd (P 5) ch (nI a)) (upd (P 6) ch (nI b)) (upd (P 7) ch (nI hh)) A8 m15 m16 (nI (ch + 1)) m18 (upd (upd (upd m19 (3 * ch) (nI a)) (3 * ch + 1) (nI b)) (3 * ch + 2) (nI hh)) := by
  obtain ⟨r1, r2, r3, r4, r5, r6, r7, r8, r9, r10, r11, r12⟩ := h
  obtain ⟨o1, o2, o3⟩ := ho
  refine ⟨r1, by omega, r3, r4, r5, rfl, rfl, fun i hi => ?_, fun j hj => ?_, fun i hi => ?_, fun i j hij hj => ?_, fun c hc => ?_⟩
  · rw [Dc_o (by omega) (Or.inr (by omega)), Dc_o (by omega) (Or.inr (by omega))]
    exact r8 i hi
  · show Dc D ch a b hh o 2 j < pl ∧ Dc D ch a b hh o 3 j < pl ∧ 1 ≤ Dc D ch a b hh o 4 j ∧ Dc D ch a b hh o 4 j ≤ 9 ∧ Dc D ch a b hh o 1 (Dc D ch a b hh o 3 j) < Dc D ch a b hh o 1 (Dc D ch a b hh o 2 j) ∧ upd (P 5) ch (nI a) j = _ ∧ upd (upd (upd m19 (3 * ch) (nI a)) (3 * ch + 1) (nI b)) (3 * ch + 2) (nI hh) (3 * j) = _ ∧ upd (P 6) ch (nI b) j = _ ∧ upd (upd (upd m19 (3 * ch) (nI a)) (3 * ch + 1) (nI b)) (3 * ch + 2) (nI hh) (3 * j + 1) = _ ∧ upd (P 7) ch (nI hh) j = _ ∧ upd (upd (upd m19 (3 * ch) (nI a)) (3 * ch + 1) (nI b)) (3 * ch + 2) (nI hh) (3 * j + 2) = _
    by_cases hjc : j = ch
    · subst hjc
      rw [Dc_2, Dc_3, Dc_4, Dc_o (k := 1) (by omega) (Or.inr (by omega)), Dc_o (k := 1) (by omega) (Or.inr (by omega)), pk_us, pk_us, pk_us, pk_us, pk_un (show ¬ 3 * j = 3 * j + 2 by omega), pk_un (show ¬ 3 * j = 3 * j + 1 by omega), pk_us, pk_un (show ¬ 3 * j + 1 = 3 * j + 2 by omega), pk_us]
      exact ⟨ha, hb, h1, h2, hl, rfl, rfl, rfl, rfl, rfl, rfl⟩
    · rw [Dc_o (k := 2) (by omega) (Or.inl hjc), Dc_o (k := 3) (by omega) (Or.inl hjc), Dc_o (k := 4) (by omega) (Or.inl hjc), Dc_o (k := 1) (by omega) (Or.inr (by omega)), Dc_o (k := 1) (by omega) (Or.inr (by omega)), pk_un hjc, pk_un hjc, pk_un hjc, pk_un (show ¬ 3 * j = 3 * ch + 2 by omega), pk_un (show ¬ 3 * j = 3 * ch + 1 by omega), pk_un (show ¬ 3 * j = 3 * ch by omega), pk_un (show ¬ 3 * j + 1 = 3 * ch + 2 by omega), pk_un (show ¬ 3 * j + 1 = 3 * ch + 1 by omega), pk_un (show ¬ 3 * j + 1 = 3 * ch by omega), pk_un (show ¬ 3 * j + 2 = 3 * ch + 2 by omega), pk_un (show ¬ 3 * j + 2 = 3 * ch + 1 by omega), pk_un (show ¬ 3 * j + 2 = 3 * ch by omega)]
      exact r9 j (by omega)
  · rw [Dc_5]; exact ⟨o1 i hi, hA i hi⟩
  · have key : ∀ c, c < ch + 1 → Dc D ch a b hh o 1 (Dc D ch a b hh o 2 c) = lvE D ch a 1 c := fun c hc => by
      rw [Dc_o (k := 1) (by omega) (Or.inr (by omega))]
      unfold lvE
      by_cases hcc : c = ch
      · rw [if_pos hcc, hcc, Dc_2]
      · rw [if_neg hcc, Dc_o (by omega) (Or.inl hcc)]
    rw [Dc_5, Dc_5, key _ (o1 j hj), key _ (o1 i (by omega))]
    exact o2 i j hij hj
  · obtain ⟨i, i1, i2⟩ := o3 c hc
    exact ⟨i, i1, by rw [Dc_5]; exact i2⟩
