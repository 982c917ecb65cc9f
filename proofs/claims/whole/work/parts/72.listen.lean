/-! which place to listen at next -/
def alk (s : Nat) (hh : Nat → Nat) (k n : Nat) : Nat := cnt (fun j => s.testBit k && s.testBit j && decide (hh k = hh j)) n
def grt (s : Nat) (hh : Nat → Nat) (n : Nat) : Nat := maxN (fun k => alk s hh k 11) n
theorem alk_le (s : Nat) (hh : Nat → Nat) (k n : Nat) : alk s hh k n ≤ n := cnt_le _ _
theorem grt_le (s : Nat) (hh : Nat → Nat) : ∀ n, grt s hh n ≤ 11
  | 0 => Nat.zero_le _
  | n + 1 => by
    have h1 := grt_le s hh n
    have h2 := alk_le s hh n 11
    show max (grt s hh n) (alk s hh n 11) ≤ 11
    omega
theorem alk_s (s : Nat) (hh : Nat → Nat) (k n : Nat) : alk s hh k (n + 1) = alk s hh k n + (if (s.testBit k && s.testBit n && decide (hh k = hh n)) = true then 1 else 0) := rfl
theorem alk_0 {s : Nat} {hh : Nat → Nat} {k n : Nat} (h : ¬ s.testBit k = true ∨ ¬ s.testBit n = true ∨ ¬ hh k = hh n) : alk s hh k (n + 1) = alk s hh k n := by
  rw [alk_s, if_neg, Nat.add_zero]
  rw [Bool.and_eq_true, Bool.and_eq_true, decide_eq_true_eq]
  rintro ⟨⟨h1, h2⟩, h3⟩
  rcases h with h | h | h
  · exact h h1
  · exact h h2
  · exact h h3
theorem alk_1 {s : Nat} {hh : Nat → Nat} {k n : Nat} (h1 : s.testBit k = true) (h2 : s.testBit n = true) (h3 : hh k = hh n) : alk s hh k (n + 1) = alk s hh k n + 1 := by
  rw [alk_s, if_pos]
  rw [Bool.and_eq_true, Bool.and_eq_true, decide_eq_true_eq]
  exact ⟨⟨h1, h2⟩, h3⟩
theorem part_in {N s p k : Nat} (hN : 4096 ≤ N) {T : St} {x3 : Int32} {hh : Nat → Nat} (hs : s < 2048) (hp : p < 8) (hk : k < 11) (hT : ∀ j, j < 11 → s.testBit j = true → T 3 (8 * j + p) = nI (hh j) ∧ hh j ≤ 99) : lpc (fun (q : Int32 × Int32) => x_X7_greatestPart_b18 N T (nI s) (nI p) x3 (nI k) q.1 q.2) N ((0 : Int32), (0 : Int32)) = some (nI (alk s hh k 11)) := by
  obtain ⟨x, u1, u2⟩ := lpc_run (body := fun (q : Int32 × Int32) => x_X7_greatestPart_b18 N T (nI s) (nI p) x3 (nI k) q.1 q.2) (I := fun j q => q = (nI (alk s hh k j), nI j)) (Pst := fun x => x = nI (alk s hh k 11)) 11 (fun j q hj hI => by
    subst hI
    unfold x_X7_greatestPart_b18
    by_cases hj8 : j = 11
    · subst hj8
      right
      exact ⟨_, by rw [if_pos (show (11 : Int32) ≤ nI 11 by decide)], rfl⟩
    · left
      have e8 : nI j + (1 : Int32) = nI (j + 1) := by simp (disch := omega) only [li_0, li_1, li_2, li_3, li_4, li_5, li_6, li_7, li_8, li_9, li_10, li_11, li_15, li_16, li_20, li_30, li_32, li_48, li_57, li_58, li_59, li_60, li_61, li_63, li_64, li_80, li_85, li_88, li_99, li_100, li_112, li_115, li_152, li_162, li_172, li_173, li_174, li_240, li_255, li_348, li_1000, li_3306, nI_add]
      have e9 : nI (alk s hh k j) + (1 : Int32) = nI (alk s hh k j + 1) := nI_add _ 1
      have ek : nI k * (8 : Int32) + nI p = nI (8 * k + p) := by rw [show (8 : Int32) = nI 8 from rfl, pk_mul, nI_add, Nat.mul_comm]
      have ej : nI j * (8 : Int32) + nI p = nI (8 * j + p) := by rw [show (8 : Int32) = nI 8 from rfl, pk_mul, nI_add, Nat.mul_comm]
      have i88 : ∀ j, j < 88 → ¬ (nI j < 0 ∨ 88 ≤ j) := fun j hj => by have := nI_in (c := j) (N := 88) hj (by omega); rwa [cl (by omega)] at this
      refine ⟨(nI (alk s hh k (j + 1)), nI (j + 1)), ?_, by omega, rfl⟩
      dsimp only
      rw [if_neg (show ¬ (11 : Int32) ≤ nI j from nI_ge (b := 11) (by omega) (by omega)), has_eq (show s < 2 ^ 31 by omega) (show k < 32 by omega), has_eq (show s < 2 ^ 31 by omega) (show j < 32 by omega), e8, e9, ek, ej, cl (show 8 * k + p < 2 ^ 31 by omega), cl (show 8 * j + p < 2 ^ 31 by omega), if_neg (i88 _ (by omega)), if_neg (i88 _ (by omega))]
      simp only [Option.bind_some]
      by_cases hsk : s.testBit k = true
      · rw [if_pos hsk, if_neg z10]
        by_cases hsj : s.testBit j = true
        · obtain ⟨a1, a2⟩ := hT k hk hsk
          obtain ⟨a3, a4⟩ := hT j (by omega) hsj
          rw [if_pos hsj, if_neg z10, a1, a3]
          by_cases heq : hh k = hh j
          · rw [if_pos (congrArg nI heq), alk_1 hsk hsj heq]
          · rw [if_neg (fun h => heq (nI_inj (by omega) (by omega) h)), alk_0 (Or.inr (Or.inr heq))]
        · rw [if_neg hsj, if_pos rfl, alk_0 (Or.inr (Or.inl hsj))]
      · rw [if_neg hsk, if_pos rfl, alk_0 (Or.inl hsk)]) (N := N) (z := ((0 : Int32), (0 : Int32))) (by omega) rfl
  rw [u1, u2]
theorem part_val {N s p : Nat} (hN : 4096 ≤ N) {T : St} {hh : Nat → Nat} (hs : s < 2048) (hp : p < 8) (hT : ∀ j, j < 11 → s.testBit j = true → T 3 (8 * j + p) = nI (hh j) ∧ hh j ≤ 99) : x_X7_greatestPart N T (nI s) (nI p) = some (nI (grt s hh 11)) := by
  obtain ⟨x, u1, u2⟩ := lpc_run (body := fun (q : Int32 × Int32) => x_X7_greatestPart_b5 N T (nI s) (nI p) q.1 q.2) (I := fun k q => q = (nI (grt s hh k), nI k)) (Pst := fun x => x = nI (grt s hh 11)) 11 (fun k q hk hI => by
    subst hI
    unfold x_X7_greatestPart_b5
    by_cases hk8 : k = 11
    · subst hk8
      right
      exact ⟨_, by rw [if_pos (show (11 : Int32) ≤ nI 11 by decide)], rfl⟩
    · left
      have e8 : nI k + (1 : Int32) = nI (k + 1) := by simp (disch := omega) only [li_0, li_1, li_2, li_3, li_4, li_5, li_6, li_7, li_8, li_9, li_10, li_11, li_15, li_16, li_20, li_30, li_32, li_48, li_57, li_58, li_59, li_60, li_61, li_63, li_64, li_80, li_85, li_88, li_99, li_100, li_112, li_115, li_152, li_162, li_172, li_173, li_174, li_240, li_255, li_348, li_1000, li_3306, nI_add]
      refine ⟨(nI (grt s hh (k + 1)), nI (k + 1)), ?_, by omega, rfl⟩
      dsimp only
      have h1 := grt_le s hh k
      have h2 := alk_le s hh k 11
      rw [if_neg (show ¬ (11 : Int32) ≤ nI k from nI_ge (b := 11) (by omega) (by omega)), part_in hN hs hp (by omega) hT, e8]
      simp only [Option.bind_some]
      unfold xl
      show some (Sum.inl (_, nI (k + 1))) = some (Sum.inl (nI (max (grt s hh k) (alk s hh k 11)), nI (k + 1)))
      by_cases hlt : grt s hh k < alk s hh k 11
      · rw [if_pos (nI_lt hlt (by omega)), Nat.max_eq_right (by omega)]
      · rw [if_neg (nI_nlt (by omega) (by omega)), Nat.max_eq_left (by omega)]) (N := N) (z := ((0 : Int32), (0 : Int32))) (by omega) rfl
  unfold x_X7_greatestPart
  rw [u1, u2]
  rfl
def blB (g : Nat → Nat) (n0 : Nat) : Nat → Int32 × Nat
  | 0 => (-1, n0)
  | p + 1 => if g p < (blB g n0 p).2 then (nI p, g p) else blB g n0 p
theorem blB_le {g : Nat → Nat} {n0 : Nat} : ∀ p, (blB g n0 p).2 ≤ n0
  | 0 => Nat.le_refl _
  | p + 1 => by
    have := blB_le (g := g) (n0 := n0) p
    show (if g p < (blB g n0 p).2 then (nI p, g p) else blB g n0 p).2 ≤ n0
    split
    · dsimp only; omega
    · exact this
noncomputable def hhP (D : Nat → Nat → Nat) (z ch to p k : Nat) : Nat := fh (gg D z 0 (crk k to) ch p)
/-- the hours of a case -/
theorem note_val {N pl ch z k to : Nat} (hN : 4096 ≤ N) {D : Nat → Nat → Nat} {L : SL} {T P F M : St} (hPR : PR pl ch D P (M 15 0) (M 16 0) (M 17 0) (M 18) (M 19)) (hpl : 0 < pl) (hz : z < 1024) (hF : F 1 0 = nI z) (hk : k ≤ 10) (hto : to < 8) : ∃ v t3 f0 f1, x_X7_noteHours N T L P F (nI k) (nI to) = some (v, t3, f0, f1) ∧ (∀ p, p < pl → t3 (8 * k + p) = nI (hhP D z ch to p k)) ∧ ∀ j p, ¬ j = k → p < 8 → t3 (8 * j + p) = T 3 (8 * j + p) := by
  have r1 := hPR.1
  have r2 := hPR.2.1
  have r4 := hPR.2.2.2.1
  have hpd := hPR.pd
  obtain ⟨v, v1, v2⟩ := crackAlone_val hN (F := T) hk hto
  obtain ⟨f0, f1, y1, y2⟩ := run_val hN (L := L) (M := M) (f := v) (t := 0) hPR hz (by omega) (v2.le r2)
  have y1' : x_X8_run N L P v (0 : Int32) (nI z) = some (f0, f1) := y1
  obtain ⟨x, u1, u2, u3⟩ := lpc_run (body := fun (q : Int32 × (Nat → Int32)) => x_X7_noteHours_b27 N (va_up (va_up T 2 v) 3 q.2) (va_up (va_up L 0 f0) 1 f1) P F (nI k) q.1) (I := fun i q => q.1 = nI i ∧ (∀ p, p < i → q.2 (8 * k + p) = nI (hhP D z ch to p k)) ∧ ∀ j p, ¬ j = k → p < 8 → q.2 (8 * j + p) = T 3 (8 * j + p)) (Pst := fun t3 => (∀ p, p < pl → t3 (8 * k + p) = nI (hhP D z ch to p k)) ∧ ∀ j p, ¬ j = k → p < 8 → t3 (8 * j + p) = T 3 (8 * j + p)) pl (fun i q hi hI => by
    obtain ⟨q1, g⟩ := q
    obtain ⟨rfl, h1, h2⟩ := hI
    dsimp only at h1 h2
    show (∃ z', x_X7_noteHours_b27 N (va_up (va_up T 2 v) 3 g) (va_up (va_up L 0 f0) 1 f1) P F (nI k) (nI i) = _ ∧ _) ∨ (∃ x, x_X7_noteHours_b27 N (va_up (va_up T 2 v) 3 g) (va_up (va_up L 0 f0) 1 f1) P F (nI k) (nI i) = _ ∧ _)
    unfold x_X7_noteHours_b27
    rw [r4]
    by_cases hi8 : i = pl
    · subst hi8
      right
      rw [if_pos (nI_le (Nat.le_refl _) (by omega))]
      exact ⟨_, rfl, h1, h2⟩
    · left
      have e8 : nI i + (1 : Int32) = nI (i + 1) := by simp (disch := omega) only [li_0, li_1, li_2, li_3, li_4, li_5, li_6, li_7, li_8, li_9, li_10, li_11, li_15, li_16, li_20, li_30, li_32, li_48, li_57, li_58, li_59, li_60, li_61, li_63, li_64, li_80, li_85, li_88, li_99, li_100, li_112, li_115, li_152, li_162, li_172, li_173, li_174, li_240, li_255, li_348, li_1000, li_3306, nI_add]
      have ek : nI k * (8 : Int32) + nI i = nI (8 * k + i) := by rw [show (8 : Int32) = nI 8 from rfl, pk_mul, nI_add, Nat.mul_comm]
      have t3 : (va_up (va_up T 2 v) 3 g) 3 = g := rfl
      have y3 := y2 hpl i (by omega)
      have y4 := firstHour_val (L := va_up (va_up L 0 f0) 1 f1) (show i < 8 by omega) y3.1 y3.2 (Hf_lt hpd _ (Nat.le_refl ch) _) (Gf_lt hpd _ _ (Nat.le_refl ch) _)
      rw [if_neg (nleI (show i < pl by omega) (by omega)), y4]
      simp only [Option.bind_some]
      rw [ek, ix (show 8 * k + i < 88 by omega) (by omega), cl (by omega), e8, t3]
      refine ⟨_, rfl, by omega, rfl, fun p hp => ?_, fun j p hj hp => ?_⟩
      · show upd g (8 * k + i) _ (8 * k + p) = _
        by_cases hpi : p = i
        · rw [hpi, pk_us]; rfl
        · rw [pk_un (by omega)]; exact h1 p (by omega)
      · show upd g (8 * k + i) _ (8 * j + p) = _
        rw [pk_un (by omega)]; exact h2 j p hj hp) (N := N) (z := ((0 : Int32), T 3)) (by omega) ⟨rfl, fun p hp => absurd hp (Nat.not_lt_zero p), fun _ _ _ _ => rfl⟩
  refine ⟨v, x, f0, f1, ?_, u2, u3⟩
  unfold x_X7_noteHours
  rw [v1, hF]
  simp only [Option.bind_some]
  rw [y1']
  simp only [Option.bind_some]
  rw [u1]
  rfl
theorem best_val {N pl ch z s to : Nat} (hN : 4096 ≤ N) {D : Nat → Nat → Nat} {L : SL} {T P F M : St} (hPR : PR pl ch D P (M 15 0) (M 16 0) (M 17 0) (M 18) (M 19)) (hpl : 0 < pl) (hz : z < 1024) (hF : F 1 0 = nI z) (hs : s < 2048) (hto : to < 8) : ∃ v t3 f0 f1, x_X7_bestListener N T L P F (nI s) (nI to) = some ((blB (fun p => grt s (hhP D z ch to p) 11) (bc s) pl).1, v, t3, f0, f1) := by
  have r1 := hPR.1
  have r2 := hPR.2.1
  have r4 := hPR.2.2.2.1
  have hpd := hPR.pd
  have hbs : bc s ≤ 11 := bcN_le s 11
  have hh99 : ∀ p k, hhP D z ch to p k ≤ 99 := fun p k => fh_le (gg_lt hpd z 0 (crk k to) p)
  obtain ⟨x, u1, u2⟩ := lpc_run (body := fun (q : Int32 × (Nat → Int32) × (Nat → Int32) × (Nat → Int64) × (Nat → Int64)) => x_X7_bestListener_b3 N (va_up (va_up T 2 q.2.1) 3 q.2.2.1) (va_up (va_up L 0 q.2.2.2.1) 1 q.2.2.2.2) P F (nI s) (nI to) q.1) (I := fun k q => q.1 = nI k ∧ ∀ j p, j < k → s.testBit j = true → p < pl → q.2.2.1 (8 * j + p) = nI (hhP D z ch to p j)) (Pst := fun x => ∀ j p, j < 11 → s.testBit j = true → p < pl → x.2.1 (8 * j + p) = nI (hhP D z ch to p j)) 11 (fun k q hk hI => by
    obtain ⟨q1, g2, g3, l0, l1⟩ := q
    obtain ⟨rfl, h1⟩ := hI
    dsimp only at h1
    show (∃ z', x_X7_bestListener_b3 N (va_up (va_up T 2 g2) 3 g3) (va_up (va_up L 0 l0) 1 l1) P F (nI s) (nI to) (nI k) = _ ∧ _) ∨ (∃ x, x_X7_bestListener_b3 N (va_up (va_up T 2 g2) 3 g3) (va_up (va_up L 0 l0) 1 l1) P F (nI s) (nI to) (nI k) = _ ∧ _)
    unfold x_X7_bestListener_b3
    by_cases hk8 : k = 11
    · subst hk8
      right
      rw [if_pos (show (11 : Int32) ≤ nI 11 by decide)]
      exact ⟨_, rfl, h1⟩
    · left
      have e8 : nI k + (1 : Int32) = nI (k + 1) := by simp (disch := omega) only [li_0, li_1, li_2, li_3, li_4, li_5, li_6, li_7, li_8, li_9, li_10, li_11, li_15, li_16, li_20, li_30, li_32, li_48, li_57, li_58, li_59, li_60, li_61, li_63, li_64, li_80, li_85, li_88, li_99, li_100, li_112, li_115, li_152, li_162, li_172, li_173, li_174, li_240, li_255, li_348, li_1000, li_3306, nI_add]
      rw [if_neg (show ¬ (11 : Int32) ≤ nI k from nI_ge (b := 11) (by omega) (by omega)), has_eq (show s < 2 ^ 31 by omega) (show k < 32 by omega), e8]
      simp only [Option.bind_some]
      by_cases hsk : s.testBit k = true
      · rw [if_pos hsk, if_neg z10]
        obtain ⟨v, t3, f0, f1, y1, y2, y3⟩ := note_val hN (L := va_up (va_up L 0 l0) 1 l1) (T := va_up (va_up T 2 g2) 3 g3) (F := F) (M := M) hPR hpl hz hF (show k ≤ 10 by omega) hto
        rw [y1]
        refine ⟨_, rfl, by omega, rfl, fun j p hj hsj hp => ?_⟩
        by_cases hjk : j = k
        · rw [hjk]; exact y2 p hp
        · exact (y3 j p hjk (by omega)).trans (h1 j p (by omega) hsj hp)
      · rw [if_neg hsk, if_pos rfl]
        refine ⟨_, rfl, by omega, rfl, fun j p hj hsj hp => ?_⟩
        have : ¬ j = k := fun h => hsk (h ▸ hsj)
        exact h1 j p (by omega) hsj hp) (N := N) (z := ((0 : Int32), T 2, T 3, L 0, L 1)) (by omega) ⟨rfl, fun j p hj => absurd hj (Nat.not_lt_zero j)⟩
  obtain ⟨v, t3, f0, f1⟩ := x
  dsimp only at u2
  obtain ⟨y, w1, w2⟩ := lpc_run (body := fun (q : Int32 × Int32 × Int32) => x_X7_bestListener_b47 N (va_up (va_up T 2 v) 3 t3) (va_up (va_up L 0 f0) 1 f1) P F (nI s) q.1 q.2.1 q.2.2) (I := fun p q => q = ((blB (fun p => grt s (hhP D z ch to p) 11) (bc s) p).1, nI (blB (fun p => grt s (hhP D z ch to p) 11) (bc s) p).2, nI p)) (Pst := fun y => y = (blB (fun p => grt s (hhP D z ch to p) 11) (bc s) pl).1) pl (fun p q hp hI => by
    subst hI
    unfold x_X7_bestListener_b47
    rw [r4]
    by_cases hp8 : p = pl
    · subst hp8
      right
      exact ⟨_, by rw [if_pos (nI_le (Nat.le_refl _) (by omega))], rfl⟩
    · left
      have e8 : nI p + (1 : Int32) = nI (p + 1) := by simp (disch := omega) only [li_0, li_1, li_2, li_3, li_4, li_5, li_6, li_7, li_8, li_9, li_10, li_11, li_15, li_16, li_20, li_30, li_32, li_48, li_57, li_58, li_59, li_60, li_61, li_63, li_64, li_80, li_85, li_88, li_99, li_100, li_112, li_115, li_152, li_162, li_172, li_173, li_174, li_240, li_255, li_348, li_1000, li_3306, nI_add]
      have h1 := grt_le s (hhP D z ch to p) 11
      have h2 := blB_le (g := fun p => grt s (hhP D z ch to p) 11) (n0 := bc s) p
      refine ⟨_, ?_, by omega, rfl⟩
      dsimp only
      rw [if_neg (nleI (show p < pl by omega) (by omega)), part_val hN (T := va_up (va_up T 2 v) 3 t3) (hh := hhP D z ch to p) hs (by omega) (fun j hj hsj => ⟨u2 j p hj hsj (by omega), hh99 p j⟩), e8]
      simp only [Option.bind_some]
      have hst : blB (fun p => grt s (hhP D z ch to p) 11) (bc s) (p + 1) = if grt s (hhP D z ch to p) 11 < (blB (fun p => grt s (hhP D z ch to p) 11) (bc s) p).2 then (nI p, grt s (hhP D z ch to p) 11) else blB (fun p => grt s (hhP D z ch to p) 11) (bc s) p := rfl
      rw [hst]
      by_cases hlt : grt s (hhP D z ch to p) 11 < (blB (fun p => grt s (hhP D z ch to p) 11) (bc s) p).2
      · rw [if_neg (nleI hlt (by omega)), if_pos hlt]
      · rw [if_pos (nI_le (by omega) (by omega)), if_neg hlt]) (N := N) (z := ((-1 : Int32), nI (bc s), (0 : Int32))) (by omega) rfl
  refine ⟨v, t3, f0, f1, ?_⟩
  unfold x_X7_bestListener
  rw [u1]
  simp only [Option.bind_some]
  rw [bitCount_eq s hs]
  simp only [Option.bind_some]
  rw [w1, w2]
  rfl
/-! the same in the reference -/
theorem rpart_in {N s k : Nat} (hN : 4096 ≤ N) {M : St} {x1 x3 x4 x5 x6 : Int32} {hh : Nat → Nat} (hs : s < 2048) (hk : k < 11) (hT : ∀ j, j < 11 → s.testBit j = true → M 36 j = nI (hh j) ∧ hh j ≤ 99) : lpc (fun (q : Int32 × Int32) => x_X10_listen_b111 N M x1 (nI s) x3 x4 x5 x6 (nI k) q.1 q.2) N ((0 : Int32), (0 : Int32)) = some (nI (alk s hh k 11)) := by
  obtain ⟨x, u1, u2⟩ := lpc_run (body := fun (q : Int32 × Int32) => x_X10_listen_b111 N M x1 (nI s) x3 x4 x5 x6 (nI k) q.1 q.2) (I := fun j q => q = (nI (alk s hh k j), nI j)) (Pst := fun x => x = nI (alk s hh k 11)) 11 (fun j q hj hI => by
    subst hI
    unfold x_X10_listen_b111
    by_cases hj8 : j = 11
    · subst hj8
      right
      exact ⟨_, by rw [if_pos (show (11 : Int32) ≤ nI 11 by decide)], rfl⟩
    · left
      have e8 : nI j + (1 : Int32) = nI (j + 1) := by simp (disch := omega) only [li_0, li_1, li_2, li_3, li_4, li_5, li_6, li_7, li_8, li_9, li_10, li_11, li_15, li_16, li_20, li_30, li_32, li_48, li_57, li_58, li_59, li_60, li_61, li_63, li_64, li_80, li_85, li_88, li_99, li_100, li_112, li_115, li_152, li_162, li_172, li_173, li_174, li_240, li_255, li_348, li_1000, li_3306, nI_add]
      have e9 : nI (alk s hh k j) + (1 : Int32) = nI (alk s hh k j + 1) := nI_add _ 1
      have e0 : nI (alk s hh k j) + (0 : Int32) = nI (alk s hh k j) := nI_add _ 0
      have i11 : ∀ j, j < 11 → ¬ (nI j < 0 ∨ 11 ≤ j) := fun j hj => by have := nI_in (c := j) (N := 11) hj (by omega); rwa [cl (by omega)] at this
      refine ⟨(nI (alk s hh k (j + 1)), nI (j + 1)), ?_, by omega, rfl⟩
      dsimp only
      unfold x_X10_listen_b111_k159 x_X10_listen_b111_k160 xl
      rw [if_neg (show ¬ (11 : Int32) ≤ nI j from nI_ge (b := 11) (by omega) (by omega)), has_10, has_10, has_eq (show s < 2 ^ 31 by omega) (show k < 32 by omega), has_eq (show s < 2 ^ 31 by omega) (show j < 32 by omega), e8, e9, e0, cl (show k < 2 ^ 31 by omega), cl (show j < 2 ^ 31 by omega), if_neg (i11 _ (by omega)), if_neg (i11 _ (by omega))]
      simp only [Option.bind_some]
      by_cases hsk : s.testBit k = true
      · rw [if_pos hsk, if_neg z10]
        by_cases hsj : s.testBit j = true
        · obtain ⟨a1, a2⟩ := hT k hk hsk
          obtain ⟨a3, a4⟩ := hT j (by omega) hsj
          rw [if_pos hsj, if_neg z10, a1, a3]
          by_cases heq : hh k = hh j
          · rw [if_pos (congrArg nI heq.symm), alk_1 hsk hsj heq]
          · rw [if_neg (fun h => heq (nI_inj (by omega) (by omega) h).symm), alk_0 (Or.inr (Or.inr heq))]
        · rw [if_neg hsj, if_pos rfl, alk_0 (Or.inr (Or.inl hsj))]
      · rw [if_neg hsk, if_pos rfl, alk_0 (Or.inl hsk)]) (N := N) (z := ((0 : Int32), (0 : Int32))) (by omega) rfl
  rw [u1, u2]
theorem rpart_val {N s : Nat} (hN : 4096 ≤ N) {M : St} {x1 x3 x4 x5 : Int32} {hh : Nat → Nat} (hs : s < 2048) (hT : ∀ j, j < 11 → s.testBit j = true → M 36 j = nI (hh j) ∧ hh j ≤ 99) : lpc (fun (q : Int32 × Int32) => x_X10_listen_b98 N M x1 (nI s) x3 x4 x5 q.1 q.2) N ((0 : Int32), (0 : Int32)) = some (nI (grt s hh 11)) := by
  obtain ⟨x, u1, u2⟩ := lpc_run (body := fun (q : Int32 × Int32) => x_X10_listen_b98 N M x1 (nI s) x3 x4 x5 q.1 q.2) (I := fun k q => q = (nI (grt s hh k), nI k)) (Pst := fun x => x = nI (grt s hh 11)) 11 (fun k q hk hI => by
    subst hI
    unfold x_X10_listen_b98
    by_cases hk8 : k = 11
    · subst hk8
      right
      exact ⟨_, by rw [if_pos (show (11 : Int32) ≤ nI 11 by decide)], rfl⟩
    · left
      have e8 : nI k + (1 : Int32) = nI (k + 1) := by simp (disch := omega) only [li_0, li_1, li_2, li_3, li_4, li_5, li_6, li_7, li_8, li_9, li_10, li_11, li_15, li_16, li_20, li_30, li_32, li_48, li_57, li_58, li_59, li_60, li_61, li_63, li_64, li_80, li_85, li_88, li_99, li_100, li_112, li_115, li_152, li_162, li_172, li_173, li_174, li_240, li_255, li_348, li_1000, li_3306, nI_add]
      refine ⟨(nI (grt s hh (k + 1)), nI (k + 1)), ?_, by omega, rfl⟩
      dsimp only
      have h1 := grt_le s hh k
      have h2 := alk_le s hh k 11
      rw [if_neg (show ¬ (11 : Int32) ≤ nI k from nI_ge (b := 11) (by omega) (by omega)), rpart_in hN hs (by omega) hT]
      simp only [Option.bind_some]
      unfold x_X10_listen_b98_k183
      rw [e8]
      show _ = some (Sum.inl (nI (max (grt s hh k) (alk s hh k 11)), nI (k + 1)))
      by_cases hlt : grt s hh k < alk s hh k 11
      · rw [if_neg (nleI hlt (by omega)), Nat.max_eq_right (by omega)]
      · rw [if_pos (nI_le (by omega) (by omega)), Nat.max_eq_left (by omega)]) (N := N) (z := ((0 : Int32), (0 : Int32))) (by omega) rfl
  rw [u1, u2]
theorem rnote_val {N pl ch z s to p : Nat} (hN : 4096 ≤ N) {D : Nat → Nat → Nat} {P M : St} {x3 x4 : Int32} (hPR : PR pl ch D P (M 15 0) (M 16 0) (M 17 0) (M 18) (M 19)) (hz : z < 1024) (hF : M 20 172 = nI z) (hs : s < 2048) (hto : to < pl) (hp : p < pl) : ∃ w w' t, lpc (fun (q : Int32 × (Nat → Int32) × (Nat → Int32) × (Nat → Int32)) => x_X10_listen_b40 N (va_up (va_up (va_up M 32 q.2.1) 33 q.2.2.1) 36 q.2.2.2) (nI to) (nI s) x3 x4 (nI p) q.1) N ((0 : Int32), M 32, M 33, M 36) = some (w, w', t) ∧ ∀ j, j < 11 → s.testBit j = true → t j = nI (hhP D z ch to p j) := by
  have r1 := hPR.1
  obtain ⟨x, u1, u2⟩ := lpc_run (body := fun (q : Int32 × (Nat → Int32) × (Nat → Int32) × (Nat → Int32)) => x_X10_listen_b40 N (va_up (va_up (va_up M 32 q.2.1) 33 q.2.2.1) 36 q.2.2.2) (nI to) (nI s) x3 x4 (nI p) q.1) (I := fun k q => q.1 = nI k ∧ ∀ j, j < k → s.testBit j = true → q.2.2.2 j = nI (hhP D z ch to p j)) (Pst := fun x => ∀ j, j < 11 → s.testBit j = true → x.2.2 j = nI (hhP D z ch to p j)) 11 (fun k q hk hI => by
    obtain ⟨q1, g0, g1, g2⟩ := q
    obtain ⟨rfl, h1⟩ := hI
    dsimp only at h1
    show (∃ z', x_X10_listen_b40 N (va_up (va_up (va_up M 32 g0) 33 g1) 36 g2) (nI to) (nI s) x3 x4 (nI p) (nI k) = _ ∧ _) ∨ (∃ x, x_X10_listen_b40 N (va_up (va_up (va_up M 32 g0) 33 g1) 36 g2) (nI to) (nI s) x3 x4 (nI p) (nI k) = _ ∧ _)
    unfold x_X10_listen_b40
    by_cases hk8 : k = 11
    · subst hk8
      right
      rw [if_pos (show (11 : Int32) ≤ nI 11 by decide)]
      exact ⟨_, rfl, h1⟩
    · left
      have e8 : nI k + (1 : Int32) = nI (k + 1) := by simp (disch := omega) only [li_0, li_1, li_2, li_3, li_4, li_5, li_6, li_7, li_8, li_9, li_10, li_11, li_15, li_16, li_20, li_30, li_32, li_48, li_57, li_58, li_59, li_60, li_61, li_63, li_64, li_80, li_85, li_88, li_99, li_100, li_112, li_115, li_152, li_162, li_172, li_173, li_174, li_240, li_255, li_348, li_1000, li_3306, nI_add]
      have c172 : (172 : Int32).toNatClampNeg = 172 := rfl
      have t20 : (va_up (va_up (va_up M 32 g0) 33 g1) 36 g2) 20 = M 20 := rfl
      have t36 : (va_up (va_up (va_up M 32 g0) 33 g1) 36 g2) 36 = g2 := rfl
      rw [if_neg (show ¬ (11 : Int32) ≤ nI k from nI_ge (b := 11) (by omega) (by omega)), has_10, has_eq (show s < 2 ^ 31 by omega) (show k < 32 by omega), e8, t20, t36, c172, hF]
      simp only [Option.bind_some]
      by_cases hsk : s.testBit k = true
      · rw [if_pos hsk, if_neg z10]
        obtain ⟨w, w', y1, y2⟩ := layComes_val hN (M := va_up (va_up (va_up M 32 g0) 33 g1) 36 g2) (t := 0) (x3 := nI k) (x4 := nI to) (cr := crk k to) hPR hz (by omega) (Or.inr ⟨k, to, by omega, hto, rfl, rfl, fun c _ => rfl⟩)
        have y1' : x_X10_layComes N (va_up (va_up (va_up M 32 g0) 33 g1) 36 g2) (0 : Int32) (nI z) (nI k) (nI to) = some (w, w') := y1
        have y3 : w' p = nI (hhP D z ch to p k) := y2 p hp
        rw [y1']
        simp only [Option.bind_some]
        rw [ix (show p < 8 by omega) (by omega), ix (show k < 11 by omega) (by omega), cl (by omega), cl (by omega), y3]
        refine ⟨_, rfl, by omega, rfl, fun j hj hsj => ?_⟩
        show upd g2 k _ j = _
        by_cases hjk : j = k
        · rw [hjk, pk_us]
        · rw [pk_un hjk]; exact h1 j (by omega) hsj
      · rw [if_neg hsk, if_pos rfl]
        refine ⟨_, rfl, by omega, rfl, fun j hj hsj => ?_⟩
        have : ¬ j = k := fun h => hsk (h ▸ hsj)
        exact h1 j (by omega) hsj) (N := N) (z := ((0 : Int32), M 32, M 33, M 36)) (by omega) ⟨rfl, fun j hj => absurd hj (Nat.not_lt_zero j)⟩
  obtain ⟨w, w', t⟩ := x
  exact ⟨w, w', t, u1, u2⟩
theorem rbest_val {N pl ch z s to : Nat} (hN : 4096 ≤ N) {D : Nat → Nat → Nat} {P M : St} {a32 a33 : Nat → Int32} (hPR : PR pl ch D P (M 15 0) (M 16 0) (M 17 0) (M 18) (M 19)) (hz : z < 1024) (hF : M 20 172 = nI z) (hs : s < 2048) (hto : to < pl) : ∃ w w' t, lpc (fun (q : Int32 × Int32 × Int32 × (Nat → Int32) × (Nat → Int32) × (Nat → Int32)) => x_X10_listen_b28 N (va_up (va_up (va_up M 32 q.2.2.2.1) 33 q.2.2.2.2.1) 36 q.2.2.2.2.2) (nI to) (nI s) q.1 q.2.1 q.2.2.1) N ((-1 : Int32), nI (bc s), (0 : Int32), a32, a33, M 36) = some ((blB (fun p => grt s (hhP D z ch to p) 11) (bc s) pl).1, w, w', t) := by
  have r1 := hPR.1
  have r5 := hPR.2.2.2.2.1
  have hpd := hPR.pd
  have hbs : bc s ≤ 11 := bcN_le s 11
  have hh99 : ∀ p k, hhP D z ch to p k ≤ 99 := fun p k => fh_le (gg_lt hpd z 0 (crk k to) p)
  obtain ⟨x, u1, u2⟩ := lpc_run (body := fun (q : Int32 × Int32 × Int32 × (Nat → Int32) × (Nat → Int32) × (Nat → Int32)) => x_X10_listen_b28 N (va_up (va_up (va_up M 32 q.2.2.2.1) 33 q.2.2.2.2.1) 36 q.2.2.2.2.2) (nI to) (nI s) q.1 q.2.1 q.2.2.1) (I := fun p q => q.1 = (blB (fun p => grt s (hhP D z ch to p) 11) (bc s) p).1 ∧ q.2.1 = nI (blB (fun p => grt s (hhP D z ch to p) 11) (bc s) p).2 ∧ q.2.2.1 = nI p) (Pst := fun y => y.1 = (blB (fun p => grt s (hhP D z ch to p) 11) (bc s) pl).1) pl (fun p q hp hI => by
    obtain ⟨q1, q2, q3, g0, g1, g2⟩ := q
    obtain ⟨h1, rfl, rfl⟩ := hI
    dsimp only at h1
    show (∃ z', x_X10_listen_b28 N (va_up (va_up (va_up M 32 g0) 33 g1) 36 g2) (nI to) (nI s) q1 (nI (blB (fun p => grt s (hhP D z ch to p) 11) (bc s) p).2) (nI p) = _ ∧ _) ∨ (∃ x, x_X10_listen_b28 N (va_up (va_up (va_up M 32 g0) 33 g1) 36 g2) (nI to) (nI s) q1 (nI (blB (fun p => grt s (hhP D z ch to p) 11) (bc s) p).2) (nI p) = _ ∧ _)
    have t16 : (va_up (va_up (va_up M 32 g0) 33 g1) 36 g2) 16 0 = nI pl := r5
    unfold x_X10_listen_b28
    rw [t16]
    by_cases hp8 : p = pl
    · subst hp8
      right
      exact ⟨_, by rw [if_pos (nI_le (Nat.le_refl _) (by omega))], h1⟩
    · left
      have e8 : nI p + (1 : Int32) = nI (p + 1) := by simp (disch := omega) only [li_0, li_1, li_2, li_3, li_4, li_5, li_6, li_7, li_8, li_9, li_10, li_11, li_15, li_16, li_20, li_30, li_32, li_48, li_57, li_58, li_59, li_60, li_61, li_63, li_64, li_80, li_85, li_88, li_99, li_100, li_112, li_115, li_152, li_162, li_172, li_173, li_174, li_240, li_255, li_348, li_1000, li_3306, nI_add]
      have h3 := grt_le s (hhP D z ch to p) 11
      have h2 := blB_le (g := fun p => grt s (hhP D z ch to p) 11) (n0 := bc s) p
      obtain ⟨w, w', t, y1, y2⟩ := rnote_val hN (M := va_up (va_up (va_up M 32 g0) 33 g1) 36 g2) (x3 := q1) (x4 := nI (blB (fun p => grt s (hhP D z ch to p) 11) (bc s) p).2) hPR hz hF hs hto (show p < pl by omega)
      have y3 := rpart_val hN (M := va_up (va_up (va_up (va_up (va_up (va_up M 32 g0) 33 g1) 36 g2) 32 w) 33 w') 36 t) (x1 := nI to) (x3 := q1) (x4 := nI (blB (fun p => grt s (hhP D z ch to p) 11) (bc s) p).2) (x5 := nI p) (hh := hhP D z ch to p) hs (fun j hj hsj => ⟨y2 j hj hsj, hh99 p j⟩)
      rw [if_neg (nleI (show p < pl by omega) (by omega)), y1]
      simp only [Option.bind_some]
      rw [y3]
      simp only [Option.bind_some]
      unfold x_X10_listen_b28_k204 x_X10_listen_b28_k219
      rw [e8]
      have hst : blB (fun p => grt s (hhP D z ch to p) 11) (bc s) (p + 1) = if grt s (hhP D z ch to p) 11 < (blB (fun p => grt s (hhP D z ch to p) 11) (bc s) p).2 then (nI p, grt s (hhP D z ch to p) 11) else blB (fun p => grt s (hhP D z ch to p) 11) (bc s) p := rfl
      rw [hst]
      by_cases hlt : grt s (hhP D z ch to p) 11 < (blB (fun p => grt s (hhP D z ch to p) 11) (bc s) p).2
      · rw [if_neg (nleI hlt (by omega)), if_neg (nleI hlt (by omega)), if_pos hlt]
        exact ⟨_, rfl, by omega, rfl, rfl, rfl⟩
      · rw [if_pos (nI_le (by omega) (by omega)), if_pos (nI_le (by omega) (by omega)), if_neg hlt]
        exact ⟨_, rfl, by omega, h1, rfl, rfl⟩) (N := N) (z := ((-1 : Int32), nI (bc s), (0 : Int32), a32, a33, M 36)) (by omega) ⟨rfl, rfl, rfl⟩
  obtain ⟨y, w, w', t⟩ := x
  dsimp only at u2
  subst u2
  exact ⟨w, w', t, u1⟩
theorem Rel_8l {n : Nat} (hn : n < 64) {C RF : Nat → St} {M : St} (h : Rel n C RF M) (X : St) (a b c : Nat → Int32) : Rel (n + 1) (va_up C 8 X) RF (va_up (va_up (va_up M 32 a) 33 b) 36 c) := Rel_step hn h
theorem P_listen {N n : Nat} (hN : 4096 ≤ N) (hn : n < 64) {C RF : Nat → St} {M : St} (h : Rel n C RF M) (CL : Nat → SL) (x1 : Int32) : ∃ (v : Int32 × (Nat → Int32) × (Nat → Int32) × (Nat → Int64) × (Nat → Int64)) (w : Int32 × (Nat → Int32) × (Nat → Int32) × (Nat → Int32)), x_X9_listen N (C 0) (C 4) (C 7) (C 2) (C 8) (CL 9) x1 = some v ∧ x_X10_listen N M x1 = some w ∧ v.1 = w.1 ∧ Rel (n + 1) (va_up C 8 (va_up (va_up (C 8) 2 v.2.1) 3 v.2.2.1)) RF (va_up (va_up (va_up M 32 w.2.1) 33 w.2.2.1) 36 w.2.2.2) := by
  have hrel := h
  obtain ⟨h1, h2, h3, h4, pl, ch, D, hPR, h6, h7, h8, h9, hdr, h11⟩ := h
  have r1 := hPR.1
  have r4 := hPR.2.2.2.1
  have r5 := hPR.2.2.2.2.1
  obtain ⟨z, hz, z1, z2⟩ := h6.2.1
  obtain ⟨d, dp, dt, dh, d1, d2, d3, d4⟩ := hdr.fn r1
  unfold x_X9_listen x_X10_listen
  rcases hp_place r4 r5 r1 x1 with ⟨to, hto, rfl, e1, e2⟩ | ⟨e1, e2⟩
  · rw [e1, e2]
    simp only [Option.bind_some, if_neg z10]
    obtain ⟨x, v, f0, f1, y1, y2⟩ := fitting_val hN (T := C 8) (L := CL 9) (F := C 4) (M := M) hPR (by omega) hz z1 d1 d2 d4 (show to < 8 by omega)
    obtain ⟨x', w, w', y3, y4⟩ := crackedBy_val hN (M := M) hPR hz z2 d1 d3 d4 hto
    have hxx := y2.uniq y4
    subst hxx
    obtain ⟨s, s1, s2, _⟩ := y2
    have s1 : s < 2048 := s1
    rw [y1, y3, s2]
    simp only [Option.bind_some]
    rw [bits_eq hN (show s < 2 ^ 31 by omega)]
    simp only [Option.bind_some]
    obtain ⟨b2, b3, b4, b5, y5⟩ := best_val hN (L := va_up (va_up (CL 9) 0 f0) 1 f1) (T := va_up (C 8) 2 v) (F := C 4) (M := M) hPR (by omega) hz z1 s1 (show to < 8 by omega)
    obtain ⟨c2, c3, c4, y6⟩ := rbest_val hN (M := M) (a32 := w) (a33 := w') hPR hz z2 s1 hto
    rw [y5, y6]
    exact ⟨_, _, rfl, rfl, rfl, Rel_8l hn hrel _ _ _ _⟩
  · rw [e1, e2]
    exact ⟨_, _, rfl, rfl, rfl, Rel_8l hn hrel _ _ _ _⟩
