/-! a clause -/
def TOK (tx : Nat → Nat) (len a : Nat) (t2 t3 t4 : Int32) : Prop := (a = len ∧ t4 = -2) ∨ (a < len ∧ t3 = nI a ∧ ((isd (tx a) ∧ t4 = -1) ∨ (¬ isd (tx a) ∧ t4 = nI (tx a) ∧ t2 = nI (a + 1))))
def HM (hm p0 : Int32) : Prop := (hm = 0 ∧ p0 = 0) ∨ (hm = 1 ∧ ∃ r, 1 ≤ r ∧ r ≤ 99 ∧ p0 = nI r)
def CLo (tx : Nat → Nat) (len a : Nat) (f3 : Int32) (v : Int32 × Int32 × Int32 × Int32 × Int32 × Int32 × Int32 × (Nat → Int32) × (Nat → Int32) × (Nat → Int32) × (Nat → Int32) × (Nat → Int32) × (Nat → Int32)) (w : Int32 × Int32 × Int32 × Int32 × Int32 × Int32 × Int32 × Int32 × Int32 × Int32 × Int32 × Int32 × (Nat → Int32) × (Nat → Int32)) : Prop :=
  v.1 = 0 ∧ v.2.1 = f3 ∧ w.1 = 1 ∧ (∃ e, a < e ∧ e ≤ len ∧ v.2.2.1 = nI e ∧ w.2.1 = nI e) ∧ (∃ pl ch D, PRt pl ch D v.2.2.2.2.1 v.2.2.2.2.2.1 v.2.2.2.2.2.2.1 v.2.2.2.2.2.2.2.1 v.2.2.2.2.2.2.2.2.1 v.2.2.2.2.2.2.2.2.2.1 v.2.2.2.2.2.2.2.2.2.2.1 v.2.2.2.2.2.2.2.2.2.2.2.1 v.2.2.2.2.2.2.2.2.2.2.2.2 w.2.2.2.2.2.2.2.2.2.1 w.2.2.2.2.2.2.2.2.2.2.1 w.2.2.2.2.2.2.2.2.2.2.2.1 w.2.2.2.2.2.2.2.2.2.2.2.2.1 w.2.2.2.2.2.2.2.2.2.2.2.2.2) ∧ HM w.2.2.2.2.2.2.2.2.1 v.2.2.2.2.1
def CLf (len : Nat) (v : Int32 × Int32 × Int32 × Int32 × Int32 × Int32 × Int32 × (Nat → Int32) × (Nat → Int32) × (Nat → Int32) × (Nat → Int32) × (Nat → Int32) × (Nat → Int32)) (w : Int32 × Int32 × Int32 × Int32 × Int32 × Int32 × Int32 × Int32 × Int32 × Int32 × Int32 × Int32 × (Nat → Int32) × (Nat → Int32)) : Prop :=
  w.1 = 0 ∧ ∃ k b e, (1 ≤ k ∧ k ≤ 4) ∧ e ≤ len ∧ v.1 = nI k ∧ v.2.1 = nI b ∧ v.2.2.1 = nI e ∧ w.2.2.2.2.2.2.1 = nI b ∧ w.2.2.2.2.2.2.2.1 = nI k
theorem PR.room {pl ch : Nat} {D : Nat → Nat → Nat} {P : St} {m15 m16 m17 : Int32} {m18 m19 : Nat → Int32} (h : PR pl ch D P m15 m16 m17 m18 m19) (x : Int32) : PRt pl ch D x (P 1 0) (P 2 0) (P 3) (P 4) (P 5) (P 6) (P 7) (P 8) x m16 m17 m18 m19 := by
  obtain ⟨r1, r2, r3, r4, r5, r6, r7, r8, r9, r10, r11, r12⟩ := h
  exact ⟨r1, r2, rfl, r4, r5, r6, r7, r8, r9, r10, r11, r12⟩
theorem clause_both {N : Nat} (hN : 4096 ≤ N) {tx : Nat → Nat} {len a pl ch : Nat} {F M P : St} {D : Nat → Nat → Nat} (hl : len ≤ 64) (ha : a < len) (f0 : TX tx len (F 0)) (f1 : F 1 0 = nI len) (f2 : F 2 0 = 0) (f4 : F 4 0 = nI a) (m1 : TX tx len (M 1)) (m0 : M 0 0 = nI len) (m3 : M 3 0 = nI a) (ht : (isd (tx a) ∧ M 4 0 = -1) ∨ (¬ isd (tx a) ∧ M 4 0 = nI (tx a) ∧ M 2 0 = nI (a + 1))) (hPR : PR pl ch D P (M 10 0) (M 11 0) (M 12 0) (M 13) (M 14)) (hm : HM (M 9 0) (P 0 0)) : ∃ v w, x_X5_readClause N F P = some v ∧ x_X10_isClause N M = some w ∧ (CLo tx len a (F 3 0) v w ∨ CLf len v w) := by
  have r1 := hPR.1
  have r2 := hPR.2.1
  have r4 := hPR.2.2.2.1
  have r5 := hPR.2.2.2.2.1
  have r6 := hPR.2.2.2.2.2.1
  have r7 := hPR.2.2.2.2.2.2.1
  have htx := (f0 a ha).1
  have e8 : nI a + (1 : Int32) = nI (a + 1) := nI_add a 1
  have fl : ∀ k : Int32, x_X10_fails M k = some (0, nI a, k) := fun k => by unfold x_X10_fails xl; rw [m3]
  have k46 : x_X5_readClause_k46 N F P = some (1, nI a, nI a, F 5 0, P 0 0, P 1 0, P 2 0, P 3, P 4, P 5, P 6, P 7, P 8) := by
    unfold x_X5_readClause_k46
    rw [f4]
    rfl
  have s115 : ∀ x, x < 256 → (nI x = (115 : Int32) ↔ x = 115) := fun x hx => nI_eq (b := 115) (by omega) (by omega)
  have s112 : ∀ x, x < 256 → (nI x = (112 : Int32) ↔ x = 112) := fun x hx => nI_eq (b := 112) (by omega) (by omega)
  have s99 : ∀ x, x < 256 → (nI x = (99 : Int32) ↔ x = 99) := fun x hx => nI_eq (b := 99) (by omega) (by omega)
  unfold x_X5_readClause
  rw [cur_lt hl f0 f1 f4 ha]
  simp only [Option.bind_some]
  -- a fault of kind 1 at the word, or 3
  have faulty : ∀ (k : Nat), 1 ≤ k ∧ k ≤ 4 → x_X10_isClause N M = Option.bind (x_X10_fails M (nI k)) (fun v_5 => if v_5.1 = 0 ∨ v_5.1 = 1 then some (v_5.1, (M 2 0), (M 3 0), (M 4 0), (M 5 0), (M 6 0), v_5.2.1, v_5.2.2, (M 9 0), (M 10 0), (M 11 0), (M 12 0), (M 13), (M 14)) else none) → ∀ v, v.1 = nI k → v.2.1 = nI a → v.2.2.1 = nI a → ∃ w, x_X10_isClause N M = some w ∧ CLf len v w := fun k hk h1 v h2 h3 h4 => by
    rw [h1, fl]
    exact ⟨_, rfl, rfl, k, a, a, hk, by omega, h2, h3, h4, rfl, rfl⟩
  by_cases hw : tx a = 115 ∨ tx a = 112 ∨ tx a = 99
  · have hnd : ¬ isd (tx a) := by
      unfold isd
      omega
    obtain ⟨_, t4, t2⟩ := ht.resolve_left (fun h => hnd h.1)
    have hk23 : (if nI (tx a) = (115 : Int32) then x_X5_readClause_k23 N F P (nI (tx a)) else if nI (tx a) = (112 : Int32) then x_X5_readClause_k23 N F P (nI (tx a)) else if nI (tx a) = (99 : Int32) then x_X5_readClause_k23 N F P (nI (tx a)) else x_X5_readClause_k28 N F P (nI (tx a)) (0 : Int32)) = x_X5_readClause_k28 N F P (nI (tx a)) (1 : Int32) := by
      by_cases h1 : tx a = 115
      · rw [if_pos ((s115 _ htx).mpr h1)]; rfl
      · rw [if_neg (fun h => h1 ((s115 _ htx).mp h))]
        by_cases h2 : tx a = 112
        · rw [if_pos ((s112 _ htx).mpr h2)]; rfl
        · rw [if_neg (fun h => h2 ((s112 _ htx).mp h)), if_pos ((s99 _ htx).mpr (by omega))]; rfl
    rw [hk23]
    unfold x_X5_readClause_k28
    rw [if_neg z10]
    have hRS : RS tx len (a + 1) (va_up F 4 (fun _ => nI (a + 1))) M := ⟨hl, by omega, f0, f1, f2, rfl, m1, m0, t2⟩
    by_cases h115 : tx a = 115
    · -- 's'
      have e115 : nI (tx a) = (115 : Int32) := (s115 _ htx).mpr h115
      have hk56 : (if P 0 0 = 0 then (if nI (tx a) = (115 : Int32) then x_X5_readClause_k56 N F P (nI (tx a)) else x_X5_readClause_k46 N F P) else x_X5_readClause_k56 N F P (nI (tx a))) = x_X5_readClause_k56 N F P (nI (tx a)) := by
        rw [if_pos e115]
        by_cases h0 : P 0 0 = 0
        · rw [if_pos h0]
        · rw [if_neg h0]
      rw [hk56]
      unfold x_X5_readClause_k56 x_X5_hasRoomFor
      rw [if_pos e115, f4, e8]
      rcases hm with ⟨hm1, hm2⟩ | ⟨hm1, r, hr1, hr2, hr3⟩
      · rw [if_pos hm2]
        simp only [Option.bind_some]
        rw [if_neg z10]
        unfold xl
        dsimp only
        rw [if_pos e115]
        have hcl : x_X10_isClause N M = Option.bind (x_X10_isMostItem N M) (fun v_14 => if v_14.1 = 0 ∨ v_14.1 = 1 then some (v_14.1, v_14.2.1, v_14.2.2.1, v_14.2.2.2.1, v_14.2.2.2.2.1, v_14.2.2.2.2.2.1, v_14.2.2.2.2.2.2.1, v_14.2.2.2.2.2.2.2.1, v_14.2.2.2.2.2.2.2.2.1, v_14.2.2.2.2.2.2.2.2.2, (M 11 0), (M 12 0), (M 13), (M 14)) else none) := by
          unfold x_X10_isClause
          rw [t4, if_pos e115, if_pos hm1]
        rcases room_both hN (P := P) hRS with ⟨v, e, nA, y2, y3, y4, y5, v1, v2, q1, q2, q3, q4⟩ | ⟨k, b, e, v, w, k1, k2, q3, q4, q5, q6, q7, q8, q9, q10⟩
        · rw [q3, hcl, q4]
          exact ⟨_, _, rfl, rfl, Or.inl ⟨rfl, rfl, rfl, ⟨e, by omega, q2, rfl, rfl⟩, ⟨pl, ch, D, hPR.room (nI v)⟩, Or.inr ⟨rfl, v, v1, v2, rfl⟩⟩⟩
        · rw [q3, hcl, q7]
          simp only [Option.bind_some]
          rw [if_pos (Or.inl q8)]
          exact ⟨_, _, rfl, rfl, Or.inr ⟨q8, k, b, e, k1, k2, q4, q5, q6, q9, q10⟩⟩
      · have hne : ¬ P 0 0 = 0 := by rw [hr3]; exact nI_ne0 (by omega) (by omega)
        rw [if_neg hne]
        simp only [Option.bind_some]
        rw [if_pos trivial]
        have hcl : x_X10_isClause N M = Option.bind (x_X10_fails M (nI 3)) (fun v_5 => if v_5.1 = 0 ∨ v_5.1 = 1 then some (v_5.1, (M 2 0), (M 3 0), (M 4 0), (M 5 0), (M 6 0), v_5.2.1, v_5.2.2, (M 9 0), (M 10 0), (M 11 0), (M 12 0), (M 13), (M 14)) else none) := by
          unfold x_X10_isClause
          rw [t4, if_pos e115, if_neg (show ¬ M 9 0 = 0 by rw [hm1]; exact z10)]
          rfl
        obtain ⟨w, w1, w2⟩ := faulty 3 (by omega) hcl (nI 3, nI a, nI a, F 5 0, P 0 0, P 1 0, P 2 0, P 3, P 4, P 5, P 6, P 7, P 8) rfl rfl rfl
        exact ⟨_, w, rfl, w1, Or.inr w2⟩
    · have e115 : ¬ nI (tx a) = (115 : Int32) := fun h => h115 ((s115 _ htx).mp h)
      rw [if_neg e115]
      rcases hm with ⟨hm1, hm2⟩ | ⟨hm1, r, hr1, hr2, hr3⟩
      · rw [if_pos hm2, k46]
        have hcl : x_X10_isClause N M = Option.bind (x_X10_fails M (nI 1)) (fun v_5 => if v_5.1 = 0 ∨ v_5.1 = 1 then some (v_5.1, (M 2 0), (M 3 0), (M 4 0), (M 5 0), (M 6 0), v_5.2.1, v_5.2.2, (M 9 0), (M 10 0), (M 11 0), (M 12 0), (M 13), (M 14)) else none) := by
          unfold x_X10_isClause
          rw [t4, if_neg e115, if_pos hm1]
          rfl
        obtain ⟨w, w1, w2⟩ := faulty 1 (by omega) hcl (1, nI a, nI a, F 5 0, P 0 0, P 1 0, P 2 0, P 3, P 4, P 5, P 6, P 7, P 8) rfl rfl rfl
        exact ⟨_, w, rfl, w1, Or.inr w2⟩
      · have hne : ¬ P 0 0 = 0 := by rw [hr3]; exact nI_ne0 (by omega) (by omega)
        have hm9 : ¬ M 9 0 = 0 := by rw [hm1]; exact z10
        rw [if_neg hne]
        unfold x_X5_readClause_k56 x_X5_hasRoomFor
        rw [if_neg e115, f4, e8]
        by_cases h112 : tx a = 112
        · -- 'p'
          have e112 : nI (tx a) = (112 : Int32) := (s112 _ htx).mpr h112
          have hcl : x_X10_isClause N M = Option.bind (x_X10_isPlaceItem N M) (fun v_9 => if v_9.1 = 0 ∨ v_9.1 = 1 then some (v_9.1, v_9.2.1, v_9.2.2.1, v_9.2.2.2.1, v_9.2.2.2.2.1, v_9.2.2.2.2.2.1, v_9.2.2.2.2.2.2.1, v_9.2.2.2.2.2.2.2.1, (M 9 0), (M 10 0), v_9.2.2.2.2.2.2.2.2.1, (M 12 0), v_9.2.2.2.2.2.2.2.2.2, (M 14)) else none) := by
            unfold x_X10_isClause
            rw [t4, if_neg e115, if_neg hm9, if_pos e112]
          rw [if_pos e112, r4]
          by_cases hpl : pl = 8
          · rw [if_pos (show (8 : Int32) ≤ nI pl by rw [hpl]; decide)]
            simp only [Option.bind_some]
            rw [if_pos trivial, hcl]
            have hit : x_X10_isPlaceItem N M = some (0, (M 2 0), (M 3 0), (M 4 0), (M 5 0), (M 6 0), nI a, nI 3, (M 11 0), (M 13)) := by
              unfold x_X10_isPlaceItem
              rw [if_pos (show M 11 0 = 8 by rw [r5, hpl]; rfl), fl]
              rfl
            rw [hit]
            exact ⟨_, _, rfl, rfl, Or.inr ⟨rfl, 3, a, a, by omega, by omega, rfl, rfl, rfl, rfl, rfl⟩⟩
          · rw [if_neg (show ¬ (8 : Int32) ≤ nI pl from nI_ge (b := 8) (by omega) (by omega))]
            simp only [Option.bind_some]
            rw [if_neg z10]
            unfold xl
            dsimp only
            rw [if_neg e115, if_pos e112, hcl]
            rcases place_both hN (P := P) hRS (show pl < 8 by omega) r4 r5 with ⟨v1, v2, e, nA, y2, y3, y4, y5, k1, k2, q1, q2, q3, q4⟩ | ⟨k, b, e, v, w, k1, k2, q3, q4, q5, q6, q7, q8, q9, q10⟩
            · rw [q3, q4]
              exact ⟨_, _, rfl, rfl, Or.inl ⟨rfl, rfl, rfl, ⟨e, by omega, q2, rfl, rfl⟩, ⟨pl + 1, ch, _, hPR.place (by omega) k1 k2⟩, Or.inr ⟨hm1, r, hr1, hr2, hr3⟩⟩⟩
            · rw [q3, q7]
              simp only [Option.bind_some]
              rw [if_pos (Or.inl q8)]
              exact ⟨_, _, rfl, rfl, Or.inr ⟨q8, k, b, e, k1, k2, q4, q5, q6, q9, q10⟩⟩
        · -- 'c'
          have e112 : ¬ nI (tx a) = (112 : Int32) := fun h => h112 ((s112 _ htx).mp h)
          have e99 : nI (tx a) = (99 : Int32) := (s99 _ htx).mpr (by omega)
          have hcl : x_X10_isClause N M = Option.bind (x_X10_isChannelItem N M) (fun v_7 => if v_7.1 = 0 ∨ v_7.1 = 1 then some (v_7.1, v_7.2.1, v_7.2.2.1, v_7.2.2.2.1, v_7.2.2.2.2.1, v_7.2.2.2.2.2.1, v_7.2.2.2.2.2.2.1, v_7.2.2.2.2.2.2.2.1, (M 9 0), (M 10 0), (M 11 0), v_7.2.2.2.2.2.2.2.2.1, (M 13), v_7.2.2.2.2.2.2.2.2.2) else none) := by
            unfold x_X10_isClause
            rw [t4, if_neg e115, if_neg hm9, if_neg e112, if_pos e99]
          rw [if_neg e112, r6]
          by_cases hch : ch = 10
          · rw [if_pos (show (10 : Int32) ≤ nI ch by rw [hch]; decide)]
            simp only [Option.bind_some]
            rw [if_pos trivial, hcl]
            have hit : x_X10_isChannelItem N M = some (0, (M 2 0), (M 3 0), (M 4 0), (M 5 0), (M 6 0), nI a, nI 3, (M 12 0), (M 14)) := by
              unfold x_X10_isChannelItem
              rw [if_pos (show M 12 0 = 10 by rw [r7, hch]; rfl), fl]
              rfl
            rw [hit]
            exact ⟨_, _, rfl, rfl, Or.inr ⟨rfl, 3, a, a, by omega, by omega, rfl, rfl, rfl, rfl, rfl⟩⟩
          · rw [if_neg (show ¬ (10 : Int32) ≤ nI ch from nI_ge (b := 10) (by omega) (by omega))]
            simp only [Option.bind_some]
            rw [if_neg z10]
            unfold xl
            dsimp only
            rw [if_neg e115, if_neg e112, hcl]
            rcases chan_both hN (P := P) hRS hPR (show ch < 10 by omega) with ⟨va, vb, hh, e, nA, y2, y3, y4, y5, o, A8, k1, k2, k3, k4, k5, q1, q2, k6, k7, q3, q4⟩ | ⟨k, b, e, v, w, k1, k2, q3, q4, q5, q6, q7, q8, q9, q10⟩
            · rw [q3, q4]
              exact ⟨_, _, rfl, rfl, Or.inl ⟨rfl, rfl, rfl, ⟨e, by omega, q2, rfl, rfl⟩, ⟨pl, ch + 1, _, hPR.chan (by omega) k1 k2 k3 k4 k5 k6 k7⟩, Or.inr ⟨hm1, r, hr1, hr2, hr3⟩⟩⟩
            · rw [q3, q7]
              simp only [Option.bind_some]
              rw [if_pos (Or.inl q8)]
              exact ⟨_, _, rfl, rfl, Or.inr ⟨q8, k, b, e, k1, k2, q4, q5, q6, q9, q10⟩⟩
  · have n1 : ¬ nI (tx a) = (115 : Int32) := fun h => hw (Or.inl ((s115 _ htx).mp h))
    have n2 : ¬ nI (tx a) = (112 : Int32) := fun h => hw (Or.inr (Or.inl ((s112 _ htx).mp h)))
    have n3 : ¬ nI (tx a) = (99 : Int32) := fun h => hw (Or.inr (Or.inr ((s99 _ htx).mp h)))
    have hcl : x_X10_isClause N M = Option.bind (x_X10_fails M (nI 1)) (fun v_5 => if v_5.1 = 0 ∨ v_5.1 = 1 then some (v_5.1, (M 2 0), (M 3 0), (M 4 0), (M 5 0), (M 6 0), v_5.2.1, v_5.2.2, (M 9 0), (M 10 0), (M 11 0), (M 12 0), (M 13), (M 14)) else none) := by
      have t115 : ¬ M 4 0 = 115 ∧ ¬ M 4 0 = 112 ∧ ¬ M 4 0 = 99 := by
        rcases ht with ⟨_, h⟩ | ⟨_, h, _⟩
        · rw [h]; decide
        · rw [h]; exact ⟨n1, n2, n3⟩
      unfold x_X10_isClause
      rw [if_neg t115.1, if_neg t115.2.1, if_neg t115.2.2]
      by_cases h9 : M 9 0 = 0
      · rw [if_pos h9]; rfl
      · rw [if_neg h9]; rfl
    rw [if_neg n1, if_neg n2, if_neg n3]
    unfold x_X5_readClause_k28
    rw [if_pos rfl, k46]
    obtain ⟨w, w1, w2⟩ := faulty 1 (by omega) hcl (1, nI a, nI a, F 5 0, P 0 0, P 1 0, P 2 0, P 3, P 4, P 5, P 6, P 7, P 8) rfl rfl rfl
    exact ⟨_, w, rfl, w1, Or.inr w2⟩
