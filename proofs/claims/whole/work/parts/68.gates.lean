/-! the fewest gates -/
theorem Rel_3233 {n : Nat} (hn : n < 64) {C RF : Nat → St} {M : St} (h : Rel n C RF M) (a b : Nat → Int32) : Rel (n + 1) C RF (va_up (va_up M 32 a) 33 b) := Rel_step hn h
theorem bc_cnt (z : Nat) : ∀ n, bcN z n = cnt (fun j => z.testBit j) n
  | 0 => rfl
  | n + 1 => by
    show bcN z n + z / 2 ^ n % 2 = cnt (fun j => z.testBit j) n + (if z.testBit n = true then 1 else 0)
    rw [bc_cnt z n, ← Nat.toNat_testBit]
    cases z.testBit n <;> rfl
theorem bc_10 {z : Nat} (h : z < 1024) : bc z ≤ 10 := by
  show bcN z 10 + z / 2 ^ 10 % 2 ≤ 10
  have := bcN_le z 10
  rw [Nat.div_eq_of_lt (by omega)]
  omega
theorem bc_less {k z : Nat} (hk : k < 1024) (h : ¬ k &&& z = 0) : (k ^^^ (k &&& z)) < k ∧ bc (k ^^^ (k &&& z)) < bc k ∧ (k ^^^ (k &&& z)) ||| z = k ||| z := by
  have hb : ∀ j, (k ^^^ (k &&& z)).testBit j = (k.testBit j && !z.testBit j) := fun j => by
    rw [Nat.testBit_xor, Nat.testBit_and]
    cases k.testBit j <;> cases z.testBit j <;> rfl
  have hsub : ∀ j, (k ^^^ (k &&& z)).testBit j = true → k.testBit j = true := fun j hj => by
    rw [hb, Bool.and_eq_true] at hj
    exact hj.1
  obtain ⟨j, hj⟩ := Nat.exists_testBit_of_ne_zero h
  rw [Nat.testBit_and, Bool.and_eq_true] at hj
  have hj0 : (k ^^^ (k &&& z)).testBit j = false := by rw [hb, hj.1, hj.2]; rfl
  have hj11 : j < 11 := by
    refine Nat.lt_of_not_le (fun hle => ?_)
    have := hj.1
    rw [Nat.testBit_lt_two_pow (Nat.lt_of_lt_of_le hk (show 2 ^ 10 ≤ 2 ^ j from Nat.pow_le_pow_right (by omega) (by omega)))] at this
    exact Bool.false_ne_true this
  refine ⟨?_, ?_, Nat.eq_of_testBit_eq (fun i => ?_)⟩
  · have h1 := Nat.le_of_testBit hsub
    have h2 : ¬ (k ^^^ (k &&& z)) = k := fun h3 => by
      rw [h3, hj.1] at hj0
      exact Bool.false_ne_true hj0.symm
    omega
  · unfold bc
    rw [bc_cnt, bc_cnt]
    exact cnt_lt (a := j) 11 (fun x _ hx => hsub x hx) hj11 hj0 hj.1
  · rw [Nat.testBit_or, Nat.testBit_or, hb]
    cases k.testBit i <;> cases z.testBit i <;> rfl
/-- the best set below K -/
def BG (Fit : Nat → Prop) (K : Nat) (B : Int32) : Prop :=
  (B = -1 ∧ ∀ s, s < K → ¬ Fit s) ∨ ∃ b, b < K ∧ b < 1024 ∧ B = nI b ∧ Fit b ∧ ∀ s, s < K → Fit s → bc b < bc s ∨ (bc b = bc s ∧ b ≤ s)
theorem BG.uniq {Fit : Nat → Prop} {K : Nat} {B B' : Int32} (h : BG Fit K B) (g : BG Fit K B') : B = B' := by
  rcases h with ⟨h1, h2⟩ | ⟨b, h1, _, h2, h3, h4⟩
  · rcases g with ⟨g1, g2⟩ | ⟨b', g1, _, g2, g3, g4⟩
    · rw [h1, g1]
    · exact absurd g3 (h2 b' g1)
  · rcases g with ⟨g1, g2⟩ | ⟨b', g1, _, g2, g3, g4⟩
    · exact absurd h3 (g2 b h1)
    · have a1 := h4 b' g1 g3
      have a2 := g4 b h1 h3
      have : b = b' := by omega
      rw [h2, g2, this]
theorem BG.take {Fit : Nat → Prop} {k : Nat} {B : Int32} (h : BG Fit k B) (hk : k < 1024) (hf : Fit k) (hb : ∀ b, B = nI b → b < 1024 → bc k < bc b) : BG Fit (k + 1) (nI k) := by
  refine Or.inr ⟨k, by omega, hk, rfl, hf, fun s hs hs2 => ?_⟩
  by_cases hsk : s = k
  · subst hsk; exact Or.inr ⟨rfl, Nat.le_refl _⟩
  · rcases h with ⟨h1, h2⟩ | ⟨b, h1, h5, h2, h3, h4⟩
    · exact absurd hs2 (h2 s (by omega))
    · have a1 := h4 s (by omega) hs2
      have a2 := hb b h2 h5
      omega
theorem BG.keep {Fit : Nat → Prop} {k : Nat} {B : Int32} (h : BG Fit k B) (hf : Fit k → ∃ b, b < 1024 ∧ B = nI b ∧ bc b ≤ bc k) : BG Fit (k + 1) B := by
  rcases h with ⟨h1, h2⟩ | ⟨b, h1, h5, h2, h3, h4⟩
  · refine Or.inl ⟨h1, fun s hs hs2 => ?_⟩
    by_cases hsk : s = k
    · subst hsk
      obtain ⟨b, b1, b3, _⟩ := hf hs2
      rw [h1] at b3
      exact nI_ne_m1 (by omega) b3.symm
    · exact h2 s (by omega) hs2
  · refine Or.inr ⟨b, by omega, h5, h2, h3, fun s hs hs2 => ?_⟩
    by_cases hsk : s = k
    · subst hsk
      obtain ⟨b', b1, b3, b4⟩ := hf hs2
      have : b = b' := nI_inj (by omega) (by omega) (h2.symm.trans b3)
      subst this
      omega
    · exact h4 s (by omega) hs2
def gg (D : Nat → Nat → Nat) (z t : Nat) (cr : Nat → Nat) (ch p : Nat) : Nat := Hf D (okf D z t) ch p ||| Gf D (okf D z t) cr ch p
theorem gg_lt {pl ch : Nat} {D : Nat → Nat → Nat} (h : PD pl ch D) (z t : Nat) (cr : Nat → Nat) (p : Nat) : gg D z t cr ch p < 2 ^ 61 := Nat.or_lt_two_pow (Hf_lt h _ (Nat.le_refl ch) p) (Gf_lt h _ _ (Nat.le_refl ch) p)
def fitS (D : Nat → Nat → Nat) (z t : Nat) (cr : Nat → Nat) (ch sil mst s : Nat) : Prop := hset (gg D (s ||| z) t cr ch) 8 &&& sil = 0 ∧ hset (gg D (s ||| z) t cr ch) 8 &&& mst = mst
theorem fit_less {D : Nat → Nat → Nat} {z t : Nat} {cr : Nat → Nat} {ch sil mst k : Nat} (hk : k < 1024) (h : ¬ k &&& z = 0) (hf : fitS D z t cr ch sil mst k) : ∃ s, s < k ∧ bc s < bc k ∧ fitS D z t cr ch sil mst s := by
  obtain ⟨h1, h2, h3⟩ := bc_less hk h
  refine ⟨_, h1, h2, ?_⟩
  unfold fitS
  rw [h3]
  exact hf
/-- how many the best has -/
def FW (B x : Int32) : Prop := (B = -1 ∧ x = 11) ∨ ∃ b, b < 1024 ∧ B = nI b ∧ x = nI (bc b)
theorem gates_step {N pl ch z t k : Nat} (hN : 4096 ≤ N) {D : Nat → Nat → Nat} {L : SL} {P F M : St} {cr : Nat → Nat} {sil mst : Nat} {B x : Int32} (hPR : PR pl ch D P (M 15 0) (M 16 0) (M 17 0) (M 18) (M 19)) (hpl : 0 < pl) (hz : z < 1024) (hF : F 1 0 = nI z) (ht : t < 8) (hcr : CR ch (F 3) cr) (hsil : sil < 256) (hmst : mst < 256) (hk : k < 2 ^ ch) (hB : BG (fitS D z t cr ch sil mst) k B) (hx : FW B x) : ∃ B' x' f0 f1, x_X7_fewestGates_b24 N L P F (nI t) (nI sil) B x (nI mst) (nI k) = some (.inl (B', x', nI (k + 1), f0, f1)) ∧ BG (fitS D z t cr ch sil mst) (k + 1) B' ∧ FW B' x' := by
  have r2 := hPR.2.1
  have r6 := hPR.2.2.2.2.2.1
  have hpd := hPR.pd
  have hk2 : k < 1024 := Nat.lt_of_lt_of_le hk (show 2 ^ ch ≤ 2 ^ 10 from Nat.pow_le_pow_right (by omega) r2)
  have h2c : 2 ^ ch ≤ 1024 := Nat.pow_le_pow_right (n := 2) (by omega) r2
  have e8 : nI k + (1 : Int32) = nI (k + 1) := by simp (disch := omega) only [li_0, li_1, li_2, li_3, li_4, li_5, li_6, li_7, li_8, li_9, li_10, li_11, li_15, li_16, li_20, li_30, li_32, li_48, li_57, li_58, li_59, li_60, li_61, li_63, li_64, li_80, li_85, li_88, li_99, li_100, li_112, li_115, li_152, li_162, li_172, li_173, li_174, li_240, li_255, li_348, li_1000, li_3306, nI_add]
  have hb10 := bc_10 hk2
  unfold x_X7_fewestGates_b24
  rw [r6, s_l10 ch (by omega), if_neg (nleI hk (by omega)), bitCount_eq k (by omega), hF, nI_and, nI_or, e8]
  simp only [Option.bind_some]
  by_cases hfew : x ≤ nI (bc k)
  · rw [if_pos hfew]
    refine ⟨B, x, _, _, rfl, hB.keep (fun _ => ?_), hx⟩
    rcases hx with ⟨x1, x2⟩ | ⟨b, x1, x2, x3⟩
    · rw [x2] at hfew
      have : 11 ≤ bc k := (nI_leI (a := 11) (by omega) (by omega)).mp hfew
      omega
    · rw [x3] at hfew
      have := (nI_leI (by have := bc_10 x1; omega) (by omega)).mp hfew
      exact ⟨b, x1, x2, this⟩
  · rw [if_neg hfew]
    have hless : ∀ b, B = nI b → b < 1024 → bc k < bc b := fun b b1 b2 => by
      rcases hx with ⟨x1, x2⟩ | ⟨b', x1, x2, x3⟩
      · rw [b1] at x1; exact absurd x1 (nI_ne_m1 (by omega))
      · have : b = b' := nI_inj (by omega) (by omega) (b1.symm.trans x2)
        subst this
        rw [x3] at hfew
        refine Nat.lt_of_not_le (fun h => hfew (nI_le h (by omega)))
    by_cases hkz : k &&& z = 0
    · rw [if_pos (show nI (k &&& z) = 0 by rw [hkz]; rfl)]
      obtain ⟨f0, f1, y1, y2⟩ := run_val hN (L := L) (M := M) (z := k ||| z) hPR (Nat.or_lt_two_pow (n := 10) hk2 hz) ht hcr
      rw [y1]
      simp only [Option.bind_some]
      rw [heard_val hN (L := va_up (va_up L 0 f0) 1 f1) (y2 hpl) (fun p => Hf_lt hpd _ (Nat.le_refl ch) p) (fun p => Gf_lt hpd _ _ (Nat.le_refl ch) p)]
      simp only [Option.bind_some]
      have hhs := hset_lt (gg D (k ||| z) t cr ch) 8
      have eh : hset (fun p => Hf D (okf D (k ||| z) t) ch p ||| Gf D (okf D (k ||| z) t) cr ch p) 8 = hset (gg D (k ||| z) t cr ch) 8 := rfl
      have l1 : hset (gg D (k ||| z) t cr ch) 8 &&& sil ≤ sil := Nat.and_le_right
      have l2 : hset (gg D (k ||| z) t cr ch) 8 &&& mst ≤ mst := Nat.and_le_right
      rw [eh, nI_and, nI_and]
      by_cases hs0 : hset (gg D (k ||| z) t cr ch) 8 &&& sil = 0
      · rw [if_pos (show nI (hset (gg D (k ||| z) t cr ch) 8 &&& sil) = 0 by rw [hs0]; rfl)]
        by_cases hm0 : hset (gg D (k ||| z) t cr ch) 8 &&& mst = mst
        · rw [if_pos (congrArg nI hm0)]
          exact ⟨_, _, _, _, rfl, hB.take hk2 ⟨hs0, hm0⟩ hless, Or.inr ⟨k, hk2, rfl, rfl⟩⟩
        · rw [if_neg (fun h => hm0 (nI_inj (by omega) (by omega) h))]
          exact ⟨_, _, _, _, rfl, hB.keep (fun h => absurd h.2 hm0), hx⟩
      · rw [if_neg (show ¬ nI (hset (gg D (k ||| z) t cr ch) 8 &&& sil) = 0 from fun h => hs0 (nI_inj (b := 0) (by omega) (by omega) h))]
        exact ⟨_, _, _, _, rfl, hB.keep (fun h => absurd h.1 hs0), hx⟩
    · rw [if_neg (show ¬ nI (k &&& z) = 0 from fun h => hkz (nI_inj (b := 0) (by have : k &&& z ≤ z := Nat.and_le_right; omega) (by omega) h))]
      refine ⟨_, _, _, _, rfl, hB.keep (fun h => ?_), hx⟩
      obtain ⟨s, s1, s2, s3⟩ := fit_less hk2 hkz h
      rcases hB with ⟨b1, b2⟩ | ⟨b, b1, b5, b2, b3, b4⟩
      · exact absurd s3 (b2 s s1)
      · have := b4 s s1 s3
        exact ⟨b, b5, b2, by omega⟩
theorem fewest_val {N pl ch z t : Nat} (hN : 4096 ≤ N) {D : Nat → Nat → Nat} {L : SL} {P F M : St} {cr : Nat → Nat} {sil mst : Nat} (hPR : PR pl ch D P (M 15 0) (M 16 0) (M 17 0) (M 18) (M 19)) (hpl : 0 < pl) (hz : z < 1024) (hF : F 1 0 = nI z) (ht : t < 8) (hcr : CR ch (F 3) cr) (hsil : sil < 256) (hmst : mst < 256) : ∃ B f0 f1, x_X7_fewestGates_k19 N L P F (nI t) (nI sil) (-1 : Int32) (11 : Int32) (nI mst) = some (B, f0, f1) ∧ BG (fitS D z t cr ch sil mst) (2 ^ ch) B := by
  have r2 := hPR.2.1
  have r6 := hPR.2.2.2.2.2.1
  have h2c : 2 ^ ch ≤ 1024 := Nat.pow_le_pow_right (n := 2) (by omega) r2
  obtain ⟨x, u1, u2⟩ := lpc_run (body := fun (q : Int32 × Int32 × Int32 × (Nat → Int64) × (Nat → Int64)) => x_X7_fewestGates_b24 N (va_up (va_up L 0 q.2.2.2.1) 1 q.2.2.2.2) P F (nI t) (nI sil) q.1 q.2.1 (nI mst) q.2.2.1) (I := fun k q => q.2.2.1 = nI k ∧ BG (fitS D z t cr ch sil mst) k q.1 ∧ FW q.1 q.2.1) (Pst := fun x => BG (fitS D z t cr ch sil mst) (2 ^ ch) x.1) (2 ^ ch) (fun k q hk hI => by
    obtain ⟨q1, q2, q3, f0, f1⟩ := q
    obtain ⟨rfl, h1, h2⟩ := hI
    dsimp only at h1 h2
    by_cases hk8 : k = 2 ^ ch
    · subst hk8
      right
      refine ⟨(q1, f0, f1), ?_, h1⟩
      show x_X7_fewestGates_b24 _ _ _ _ _ _ _ _ _ _ = _
      unfold x_X7_fewestGates_b24
      rw [r6, s_l10 ch (by omega), if_pos (nI_le (Nat.le_refl _) (by omega))]
      rfl
    · left
      obtain ⟨B', x', f0', f1', y1, y2, y3⟩ := gates_step hN (L := va_up (va_up L 0 f0) 1 f1) hPR hpl hz hF ht hcr hsil hmst (show k < 2 ^ ch by omega) h1 h2
      exact ⟨_, y1, by omega, rfl, y2, y3⟩) (N := N) (z := ((-1 : Int32), (11 : Int32), (0 : Int32), L 0, L 1)) (by omega) ⟨rfl, Or.inl ⟨rfl, fun s hs => absurd hs (Nat.not_lt_zero s)⟩, Or.inl ⟨rfl, rfl⟩⟩
  obtain ⟨B, f0, f1⟩ := x
  refine ⟨B, f0, f1, ?_, u2⟩
  unfold x_X7_fewestGates_k19
  rw [u1]
  rfl
