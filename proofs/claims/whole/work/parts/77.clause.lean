/-! 'c', read -/
theorem ck24_ok {N pl ch e b v : Nat} {M : St} {x1 x2 fg : Int32} {k : Nat} (hch : ch < 10) (hM : M 11 0 = nI pl) (hk : k < 2) (h1 : x1 = nI (3 * ch)) (hx : x2 = nI k) (y : x_X10_isNumber N M 0 (nI pl - 1) = some (1, nI e, nI b, -1, nI v, fg, M 7 0, M 8 0)) : x_X10_isChannelItem_b24 N M x1 x2 = some (.inl (nI (k + 1), nI e, nI b, -1, nI v, fg, M 7 0, M 8 0, upd (M 14) (3 * ch + k) (nI v))) := by
  have e2 : nI k + (1 : Int32) = nI (k + 1) := nI_add k 1
  unfold x_X10_isChannelItem_b24
  rw [hM, h1, hx, if_neg (show ¬ (2 : Int32) ≤ nI k from nI_ge (b := 2) hk (by omega)), y]
  simp only [Option.bind_some]
  rw [if_neg z10, nI_add, e2, ix (show 3 * ch + k < 30 by omega) (by omega), cl (by omega)]
theorem ck24_no {N pl : Nat} {M : St} {x1 x2 : Int32} {k : Nat} {w : Int32 × Int32 × Int32 × Int32 × Int32 × Int32 × Int32 × Int32} (y : x_X10_isNumber N M 0 (nI pl - 1) = some w) (y0 : w.1 = 0) (hM : M 11 0 = nI pl) (hk : k < 2) (hx : x2 = nI k) : x_X10_isChannelItem_b24 N M x1 x2 = some (.inr (.inl (w.2.1, w.2.2.1, w.2.2.2.1, w.2.2.2.2.1, w.2.2.2.2.2.1, w.2.2.2.2.2.2.1, w.2.2.2.2.2.2.2, M 14))) := by
  unfold x_X10_isChannelItem_b24
  rw [hM, hx, if_neg (show ¬ (2 : Int32) ≤ nI k from nI_ge (b := 2) hk (by omega)), y]
  simp only [Option.bind_some]
  rw [if_pos y0]
theorem k49_no {N : Nat} {F P : St} {x2 x3 : Int32} (h2 : ¬ F 2 0 = 0) : x_X5_readChannel_k49 N F P x2 x3 = some (F 2 0, F 3 0, F 4 0, F 5 0, P 2 0, P 5, P 6, P 7, P 8) := by
  unfold x_X5_readChannel_k49
  rw [num_no h2]
  simp only [Option.bind_some]
  refine (congrArg (fun o => Option.bind o _) (closes_no (F := va_up (va_up (va_up (va_up F 2 (fun _ => F 2 0)) 3 (fun _ => F 3 0)) 4 (fun _ => F 4 0)) 5 (fun _ => F 5 0)) h2)).trans ?_
  rfl
/-- has the reference that channel already -/
theorem rjoin_val {N ch a b pl : Nat} (hN : 4096 ≤ N) {D : Nat → Nat → Nat} {M : St} {x1 s0 : Int32} (hch : ch < 10) (hpl : pl ≤ 8) (ha : a < pl) (hb : b < pl) (hM : M 12 0 = nI ch) (h5 : M 5 0 = nI b) (h14 : ∀ c, c < ch → D 2 c < pl ∧ D 3 c < pl ∧ M 14 (3 * c) = nI (D 2 c) ∧ M 14 (3 * c + 1) = nI (D 3 c)) (hs : s0 = 0 ∨ s0 = 1) : ∃ r, lpc (fun (z : Int32 × Int32) => x_X10_isChannelItem_b105 N M x1 (nI a) z.1 z.2) N (s0, (0 : Int32)) = some r ∧ ((r = 1 ∧ (s0 = 1 ∧ ¬ jn D ch a b)) ∨ (r = 0 ∧ ¬ (s0 = 1 ∧ ¬ jn D ch a b))) := by
  obtain ⟨x, u1, u2⟩ := lpc_run (body := fun (z : Int32 × Int32) => x_X10_isChannelItem_b105 N M x1 (nI a) z.1 z.2) (I := fun k z => z.2 = nI k ∧ ((z.1 = 1 ∧ (s0 = 1 ∧ ¬ jn D k a b)) ∨ (z.1 = 0 ∧ ¬ (s0 = 1 ∧ ¬ jn D k a b)))) (Pst := fun r => ((r = 1 ∧ (s0 = 1 ∧ ¬ jn D ch a b)) ∨ (r = 0 ∧ ¬ (s0 = 1 ∧ ¬ jn D ch a b)))) ch (fun k z hk hI => by
    obtain ⟨z1, z2⟩ := z
    obtain ⟨rfl, h2⟩ := hI
    dsimp only at h2
    show (∃ z', x_X10_isChannelItem_b105 N M x1 (nI a) z1 (nI k) = _ ∧ _) ∨ (∃ x, x_X10_isChannelItem_b105 N M x1 (nI a) z1 (nI k) = _ ∧ _)
    unfold x_X10_isChannelItem_b105
    rw [hM]
    by_cases hk8 : k = ch
    · subst hk8
      right
      rw [if_pos (nI_le (Nat.le_refl _) (by omega))]
      exact ⟨_, rfl, h2⟩
    · left
      obtain ⟨a1, a2, a3, a4⟩ := h14 k (by omega)
      obtain ⟨e1, e2, e3⟩ := chan3 k
      have e8 : nI k + (1 : Int32) = nI (k + 1) := nI_add k 1
      have i30 : ∀ j, j < 30 → ¬ (nI j < 0 ∨ 30 ≤ j) := fun j hj => by have := nI_in (c := j) (N := 30) hj (by omega); rwa [cl (by omega)] at this
      have hmono : jn D k a b → jn D (k + 1) a b := fun ⟨c, c1, c2⟩ => ⟨c, by omega, c2⟩
      have hno : ¬ (D 2 k = a ∧ D 3 k = b) → ¬ jn D k a b → ¬ jn D (k + 1) a b := fun h3 h4 ⟨c, c1, c2⟩ => by
        by_cases hck : c = k
        · rw [hck] at c2; exact h3 c2
        · exact h4 ⟨c, by omega, c2⟩
      rw [if_neg (nleI (show k < ch by omega) (by omega)), e1, e2, cl (show 3 * k < 2 ^ 31 by omega), cl (show 3 * k + 1 < 2 ^ 31 by omega), if_neg (i30 _ (by omega)), if_neg (i30 _ (by omega)), a3, a4, h5]
      unfold x_X10_isChannelItem_b105_k153 x_X10_isChannelItem_b105_k149 x_X10_isChannelItem_b105_k154
      rw [e8]
      rcases h2 with ⟨g1, g2, g3⟩ | ⟨g1, g2⟩
      · rw [g1, if_neg z10]
        by_cases h6 : D 2 k = a
        · rw [if_pos (congrArg nI h6)]
          by_cases h7 : D 3 k = b
          · rw [if_pos (congrArg nI h7)]
            exact ⟨_, rfl, by omega, rfl, Or.inr ⟨rfl, fun h => h.2 ⟨k, by omega, h6, h7⟩⟩⟩
          · rw [if_neg (fun h => h7 (nI_inj (by omega) (by omega) h))]
            exact ⟨_, rfl, by omega, rfl, Or.inl ⟨rfl, g2, hno (fun h => h7 h.2) g3⟩⟩
        · rw [if_neg (fun h => h6 (nI_inj (by omega) (by omega) h))]
          exact ⟨_, rfl, by omega, rfl, Or.inl ⟨rfl, g2, hno (fun h => h6 h.1) g3⟩⟩
      · rw [g1, if_pos rfl]
        exact ⟨_, rfl, by omega, rfl, Or.inr ⟨rfl, fun h => g2 ⟨h.1, fun h9 => h.2 (hmono h9)⟩⟩⟩) (N := N) (z := (s0, (0 : Int32))) (by omega) ⟨rfl, by
      rcases hs with hs | hs
      · exact Or.inr ⟨hs, fun h => by rw [hs] at h; exact absurd h.1 z01⟩
      · exact Or.inl ⟨hs, hs, fun ⟨c, c1, _⟩ => absurd c1 (Nat.not_lt_zero c)⟩⟩
  exact ⟨x, u1, u2⟩
/-- behind the two ends -/
theorem k101_both {N : Nat} (hN : 4096 ≤ N) {tx : Nat → Nat} {len a pl ch va vb b2 : Nat} {F M P : St} {D : Nat → Nat → Nat} {m15 m16 m17 : Int32} {m18 m19 : Nat → Int32} (h : RS tx len a F M) (hPR : PR pl ch D P m15 m16 m17 m18 m19) (hch : ch < 10) (ha : va < pl) (hb : vb < pl) (hM : M 12 0 = nI ch) (h3 : M 3 0 = nI b2) (h5 : M 5 0 = nI vb) (h14 : ∀ c, c < ch → D 2 c < pl ∧ D 3 c < pl ∧ M 14 (3 * c) = nI (D 2 c) ∧ M 14 (3 * c + 1) = nI (D 3 c)) {s0 : Int32} (hs : (s0 = 1 ∧ D 1 vb < D 1 va) ∨ (s0 = 0 ∧ ¬ D 1 vb < D 1 va)) : (mj D ch va vb ∧ ((∃ hh e nA y2 y3 y4 y5 o A8, 1 ≤ hh ∧ hh ≤ 9 ∧ a < e ∧ e ≤ len ∧ OK' (lvE D ch va) (ch + 1) o ∧ (∀ i, i < ch + 1 → A8 i = nI (o i)) ∧ x_X5_readChannel_k49 N F P (nI va) (nI vb) = some (0, F 3 0, nI e, nA, nI (ch + 1), upd (P 5) ch (nI va), upd (P 6) ch (nI vb), upd (P 7) ch (nI hh), A8) ∧ x_X10_isChannelItem_k101 N M (nI (3 * ch)) (nI va) s0 = some (1, nI e, y2, y3, y4, y5, M 7 0, M 8 0, nI (ch + 1), upd (M 14) (3 * ch + 2) (nI hh))) ∨ (∃ k b e v w, (1 ≤ k ∧ k ≤ 4) ∧ e ≤ len ∧ x_X5_readChannel_k49 N F P (nI va) (nI vb) = some v ∧ v.1 = nI k ∧ v.2.1 = nI b ∧ v.2.2.1 = nI e ∧ x_X10_isChannelItem_k101 N M (nI (3 * ch)) (nI va) s0 = some w ∧ w.1 = 0 ∧ w.2.2.2.2.2.2.1 = nI b ∧ w.2.2.2.2.2.2.2.1 = nI k))) ∨ (¬ mj D ch va vb ∧ ∃ w, x_X10_isChannelItem_k101 N M (nI (3 * ch)) (nI va) s0 = some w ∧ w.1 = 0 ∧ w.2.2.2.2.2.2.1 = nI b2 ∧ w.2.2.2.2.2.2.2.1 = nI 4) := by
  have f2 : F 2 0 = 0 := h.2.2.2.2.1
  have hle := h.2.1
  have r1 := hPR.1
  obtain ⟨r, u1, u2⟩ := rjoin_val hN (M := M) (x1 := nI (3 * ch)) (s0 := s0) hch r1 ha hb hM h5 h14 (hs.elim (fun h => Or.inr h.1) (fun h => Or.inl h.1))
  have hiff : (s0 = 1 ∧ ¬ jn D ch va vb) ↔ mj D ch va vb := by
    unfold mj
    rcases hs with ⟨g1, g2⟩ | ⟨g1, g2⟩
    · exact ⟨fun h => ⟨g2, h.2⟩, fun h => ⟨g1, h.2⟩⟩
    · exact ⟨fun h => by rw [g1] at h; exact absurd h.1 z01, fun h => absurd h.1 g2⟩
  rw [hiff] at u2
  unfold x_X10_isChannelItem_k101
  rw [u1]
  simp only [Option.bind_some]
  rcases u2 with ⟨g1, g2⟩ | ⟨g1, g2⟩
  · left
    refine ⟨g2, ?_⟩
    rw [g1, if_neg z10]
    unfold x_X5_readChannel_k49
    obtain ⟨b, e, q1, q2, q⟩ := num_both hN 1 9 h
    rcases q with ⟨v, fg, v1, v2, v3, v4, y1, y2⟩ | ⟨k, x, w, k1, y1, y2, y3, y4, y5⟩
    · have e12 : M 12 0 + (1 : Int32) = nI (ch + 1) := by rw [hM]; exact nI_add ch 1
      have e32 : nI (3 * ch) + (2 : Int32) = nI (3 * ch + 2) := nI_add (3 * ch) 2
      rw [y1, y2]
      simp only [Option.bind_some]
      rw [if_neg z10, e32, ix (show 3 * ch + 2 < 30 by omega) (by omega), cl (by omega), e12]
      unfold xl
      obtain ⟨b3, p1, p2, ⟨z2, z3, z4, z5, p3, p4, p5⟩ | ⟨w, p3, p4, p5, p6, p7⟩⟩ := end_both hN (tx := tx) (len := len) (a := e) (F := va_up (va_up (va_up (va_up F 2 (fun _ => F 2 0)) 3 (fun _ => F 3 0)) 4 (fun _ => nI e)) 5 (fun _ => nI b)) (M := va_up (va_up (va_up (va_up (va_up (va_up (va_up (va_up (va_up M 2 (fun _ => nI e)) 3 (fun _ => nI b)) 4 (fun _ => (-1 : Int32))) 5 (fun _ => nI v)) 6 (fun _ => fg)) 7 (fun _ => M 7 0)) 8 (fun _ => M 8 0)) 12 (fun _ => nI (ch + 1))) 14 (upd (M 14) (3 * ch + 2) (nI v))) ⟨h.1, q2, h.2.2.1, h.2.2.2.1, f2, rfl, h.2.2.2.2.2.2.1, h.2.2.2.2.2.2.2.1, rfl⟩
      · left
        obtain ⟨o, A8, c1, c2, c3⟩ := addChannel_val hN (x3 := nI v) hPR ha hb hch g2
        refine ⟨v, b3 + 1, nI b, z2, z3, z4, z5, o, A8, num_lo v2 v3, num_hi v2 (by omega) v4, by omega, by omega, c2, c3, ?_, ?_⟩
        · refine (congrArg (fun o => Option.bind o _) p4).trans ?_
          show Option.bind (x_X4_addChannel N P (nI va) (nI vb) (nI v)) (fun v_4 => some (F 2 0, F 3 0, nI (b3 + 1), nI b, v_4.1, v_4.2.1, v_4.2.2.1, v_4.2.2.2.1, v_4.2.2.2.2)) = _
          rw [c1, f2]
          rfl
        · refine (congrArg (fun o => Option.bind o _) p5).trans ?_
          rfl
      · right
        refine ⟨1, b3, b3, (nI 1, nI b3, nI b3, nI b, P 2 0, P 5, P 6, P 7, P 8), (w.1, w.2.1, w.2.2.1, w.2.2.2.1, w.2.2.2.2.1, w.2.2.2.2.2.1, w.2.2.2.2.2.2.1, w.2.2.2.2.2.2.2, nI (ch + 1), upd (M 14) (3 * ch + 2) (nI v)), by omega, p2, ?_, rfl, rfl, rfl, ?_, p5, p6, p7⟩
        · refine (congrArg (fun o => Option.bind o _) p3).trans ?_
          rfl
        · refine (congrArg (fun o => Option.bind o _) p4).trans ?_
          show (if w.1 = 0 ∨ w.1 = 1 then _ else _) = _
          rw [if_pos (Or.inl p5)]
    · right
      have hk : 1 ≤ k ∧ k ≤ 4 := by omega
      rw [y1, y2]
      simp only [Option.bind_some]
      rw [if_pos y3]
      refine ⟨k, b, e, (nI k, nI b, nI e, nI b, P 2 0, P 5, P 6, P 7, P 8), _, hk, q2, ?_, rfl, rfl, rfl, rfl, rfl, y4, y5⟩
      refine (congrArg (fun o => Option.bind o _) (closes_no (F := va_up (va_up (va_up (va_up F 2 (fun _ => nI k)) 3 (fun _ => nI b)) 4 (fun _ => nI e)) 5 (fun _ => nI b)) (k_ne hk))).trans ?_
      rfl
  · right
    refine ⟨g2, ?_⟩
    rw [g1, if_pos rfl]
    unfold x_X10_fails xl
    rw [h3]
    exact ⟨_, rfl, rfl, rfl, rfl⟩
theorem hi_pl {v pl : Nat} (hv : v < 1000) (hpl : pl ≤ 8) (h : nI v ≤ nI pl - 1) : v < pl := by
  have h1 := le_I.mp h
  have h2 : (nI pl - 1).toInt = (pl : Int) - 1 := pk_sub_toInt (a := pl) (b := 1) (by omega) (by omega)
  rw [nI_toInt (by omega), h2] at h1
  omega
theorem chan_both {N : Nat} (hN : 4096 ≤ N) {tx : Nat → Nat} {len a pl ch : Nat} {F M P : St} {D : Nat → Nat → Nat} (h : RS tx len a F M) (hPR : PR pl ch D P (M 10 0) (M 11 0) (M 12 0) (M 13) (M 14)) (hch : ch < 10) : (∃ va vb hh e nA y2 y3 y4 y5 o A8, va < pl ∧ vb < pl ∧ D 1 vb < D 1 va ∧ 1 ≤ hh ∧ hh ≤ 9 ∧ a < e ∧ e ≤ len ∧ OK' (lvE D ch va) (ch + 1) o ∧ (∀ i, i < ch + 1 → A8 i = nI (o i)) ∧ x_X5_readChannel N F P = some (0, F 3 0, nI e, nA, nI (ch + 1), upd (P 5) ch (nI va), upd (P 6) ch (nI vb), upd (P 7) ch (nI hh), A8) ∧ x_X10_isChannelItem N M = some (1, nI e, y2, y3, y4, y5, M 7 0, M 8 0, nI (ch + 1), upd (upd (upd (M 14) (3 * ch) (nI va)) (3 * ch + 1) (nI vb)) (3 * ch + 2) (nI hh))) ∨ (∃ k b e v w, (1 ≤ k ∧ k ≤ 4) ∧ e ≤ len ∧ x_X5_readChannel N F P = some v ∧ v.1 = nI k ∧ v.2.1 = nI b ∧ v.2.2.1 = nI e ∧ x_X10_isChannelItem N M = some w ∧ w.1 = 0 ∧ w.2.2.2.2.2.2.1 = nI b ∧ w.2.2.2.2.2.2.2.1 = nI k) := by
  have f2 : F 2 0 = 0 := h.2.2.2.2.1
  have hle := h.2.1
  have r1 := hPR.1
  have r4 := hPR.2.2.2.1
  have r5 := hPR.2.2.2.2.1
  have r7 := hPR.2.2.2.2.2.2.1
  have r8 := hPR.2.2.2.2.2.2.2.1
  have r9 := hPR.2.2.2.2.2.2.2.2.1
  have e18 : (3 : Int32) * M 12 0 = nI (3 * ch) := by rw [r7]; exact (chan3 ch).1
  obtain ⟨B, hB⟩ : ∃ B, B = (fun (z : Int32 × Int32 × Int32 × Int32 × Int32 × Int32 × Int32 × Int32 × (Nat → Int32)) => x_X10_isChannelItem_b24 N (va_up (va_up (va_up (va_up (va_up (va_up (va_up (va_up M 2 (fun _ => z.2.1)) 3 (fun _ => z.2.2.1)) 4 (fun _ => z.2.2.2.1)) 5 (fun _ => z.2.2.2.2.1)) 6 (fun _ => z.2.2.2.2.2.1)) 7 (fun _ => z.2.2.2.2.2.2.1)) 8 (fun _ => z.2.2.2.2.2.2.2.1)) 14 z.2.2.2.2.2.2.2.2) (nI (3 * ch)) z.1) := ⟨_, rfl⟩
  unfold x_X5_readChannel x_X10_isChannelItem
  rw [if_neg (show ¬ M 12 0 = 10 by rw [r7]; intro h9; have := nI_inj (b := 10) (by omega) (by omega) h9; omega), e18]
  unfold xl
  dsimp only
  rw [← hB, r4]
  have hB0 : ∀ c1 c2 c3 c4 c5 c6 c7 c8 A, B (c1, c2, c3, c4, c5, c6, c7, c8, A) = x_X10_isChannelItem_b24 N (va_up (va_up (va_up (va_up (va_up (va_up (va_up (va_up M 2 (fun _ => c2)) 3 (fun _ => c3)) 4 (fun _ => c4)) 5 (fun _ => c5)) 6 (fun _ => c6)) 7 (fun _ => c7)) 8 (fun _ => c8)) 14 A) (nI (3 * ch)) c1 := fun _ _ _ _ _ _ _ _ _ => by rw [hB]
  have hbody2 : ∀ M' x1, x_X10_isChannelItem_b24 N M' x1 (nI (1 + 1)) = some (.inr (.inr ((M' 2 0), (M' 3 0), (M' 4 0), (M' 5 0), (M' 6 0), (M' 7 0), (M' 8 0), (M' 14)))) := fun M' x1 => by
    unfold x_X10_isChannelItem_b24
    rw [if_pos (show (2 : Int32) ≤ nI (1 + 1) by decide)]
  obtain ⟨b, e, g1, g2, g⟩ := num_both hN 0 (nI pl - 1) (F := F) (M := va_up (va_up (va_up (va_up (va_up (va_up (va_up (va_up M 2 (fun _ => M 2 0)) 3 (fun _ => M 3 0)) 4 (fun _ => M 4 0)) 5 (fun _ => M 5 0)) 6 (fun _ => M 6 0)) 7 (fun _ => M 7 0)) 8 (fun _ => M 8 0)) 14 (M 14)) h
  rcases g with ⟨v, fg, v1, v2, v3, v4, y1, y2⟩ | ⟨k, x, w, k1, y1, y2, y3, y4, y5⟩
  · have s0 := (hB0 0 (M 2 0) (M 3 0) (M 4 0) (M 5 0) (M 6 0) (M 7 0) (M 8 0) (M 14)).trans (ck24_ok (x2 := 0) (k := 0) hch r5 (by omega) rfl rfl y2)
    rw [y1]
    simp only [Option.bind_some]
    obtain ⟨b2, e2, q1, q2, q⟩ := num_both hN 0 (nI pl - 1) (tx := tx) (len := len) (a := e) (F := va_up (va_up (va_up (va_up F 2 (fun _ => F 2 0)) 3 (fun _ => F 3 0)) 4 (fun _ => nI e)) 5 (fun _ => nI b)) (M := va_up (va_up (va_up (va_up (va_up (va_up (va_up (va_up M 2 (fun _ => nI e)) 3 (fun _ => nI b)) 4 (fun _ => (-1 : Int32))) 5 (fun _ => nI v)) 6 (fun _ => fg)) 7 (fun _ => M 7 0)) 8 (fun _ => M 8 0)) 14 (upd (M 14) (3 * ch + 0) (nI v))) ⟨h.1, g2, h.2.2.1, h.2.2.2.1, f2, rfl, h.2.2.2.2.2.2.1, h.2.2.2.2.2.2.2.1, rfl⟩
    rcases q with ⟨v', fg', v1', v2', v3', v4', y1', y2'⟩ | ⟨k, x, w, k1, y1', y2', y3', y4', y5'⟩
    · have hv := hi_pl v2 r1 v4
      have hv' := hi_pl v2' r1 v4'
      have s1 := (hB0 (nI (0 + 1)) (nI e) (nI b) (-1) (nI v) fg (M 7 0) (M 8 0) (upd (M 14) (3 * ch + 0) (nI v))).trans (ck24_ok (x2 := nI (0 + 1)) (k := 1) hch r5 (by omega) rfl rfl y2')
      obtain ⟨A, hA⟩ : ∃ A, A = upd (upd (M 14) (3 * ch + 0) (nI v)) (3 * ch + 1) (nI v') := ⟨_, rfl⟩
      have s1' : B (nI (0 + 1), nI e, nI b, -1, nI v, fg, M 7 0, M 8 0, upd (M 14) (3 * ch + 0) (nI v)) = some (.inl (nI (1 + 1), nI e2, nI b2, -1, nI v', fg', M 7 0, M 8 0, A)) := by rw [hA]; exact s1
      have s2 : B (nI (1 + 1), nI e2, nI b2, -1, nI v', fg', M 7 0, M 8 0, A) = some (.inr (.inr (nI e2, nI b2, -1, nI v', fg', M 7 0, M 8 0, A))) := (hB0 (nI (1 + 1)) (nI e2) (nI b2) (-1) (nI v') fg' (M 7 0) (M 8 0) A).trans (hbody2 _ _)
      have y1'' : x_X5_number N (va_up (va_up (va_up (va_up F 2 (fun _ => F 2 0)) 3 (fun _ => F 3 0)) 4 (fun _ => nI e)) 5 (fun _ => nI b)) 0 (nI pl - 1) = some (nI v', F 2 0, F 3 0, nI e2, nI b2) := y1'
      rw [y1'', lpc_2 (by omega) s0 s1' s2]
      simp only [Option.bind_some, Sum.elim_inr]
      have eA : A (3 * ch) = nI v := by rw [hA, pk_un (by omega)]; exact pk_us
      obtain ⟨_, l2, _, _, _, l6⟩ := r8 v hv
      obtain ⟨_, k2, _, _, _, k6⟩ := r8 v' hv'
      have i30 : ¬ (nI (3 * ch) < 0 ∨ 30 ≤ 3 * ch) := by have := nI_in (c := 3 * ch) (N := 30) (by omega) (by omega); rwa [cl (by omega)] at this
      have i16 : ∀ j, j < 16 → ¬ (nI j < 0 ∨ 16 ≤ j) := fun j hj => by have := nI_in (c := j) (N := 16) hj (by omega); rwa [cl (by omega)] at this
      have e21 : ∀ a : Nat, (2 : Int32) * nI a + (1 : Int32) = nI (2 * a + 1) := fun a => by simp (disch := omega) only [li_0, li_1, li_2, li_3, li_4, li_5, li_6, li_7, li_8, li_9, li_10, li_11, li_15, li_16, li_20, li_30, li_32, li_48, li_57, li_58, li_59, li_60, li_61, li_63, li_64, li_80, li_85, li_88, li_99, li_100, li_112, li_115, li_152, li_162, li_172, li_173, li_174, li_240, li_255, li_348, li_1000, li_3306, nI_add, pk_mul]
      have hMM : ∀ s0 : Int32, ((s0 = 1 ∧ D 1 v' < D 1 v) ∨ (s0 = 0 ∧ ¬ D 1 v' < D 1 v)) → (mj D ch v v' ∧ ((∃ hh e nA y2 y3 y4 y5 o A8, 1 ≤ hh ∧ hh ≤ 9 ∧ e2 < e ∧ e ≤ len ∧ OK' (lvE D ch v) (ch + 1) o ∧ (∀ i, i < ch + 1 → A8 i = nI (o i)) ∧ x_X5_readChannel_k49 N (va_up (va_up (va_up (va_up F 2 (fun _ => F 2 0)) 3 (fun _ => F 3 0)) 4 (fun _ => nI e2)) 5 (fun _ => nI b2)) P (nI v) (nI v') = some (0, F 3 0, nI e, nA, nI (ch + 1), upd (P 5) ch (nI v), upd (P 6) ch (nI v'), upd (P 7) ch (nI hh), A8) ∧ x_X10_isChannelItem_k101 N (va_up (va_up (va_up (va_up (va_up (va_up (va_up (va_up M 2 (fun _ => nI e2)) 3 (fun _ => nI b2)) 4 (fun _ => (-1 : Int32))) 5 (fun _ => nI v')) 6 (fun _ => fg')) 7 (fun _ => M 7 0)) 8 (fun _ => M 8 0)) 14 A) (nI (3 * ch)) (nI v) s0 = some (1, nI e, y2, y3, y4, y5, M 7 0, M 8 0, nI (ch + 1), upd A (3 * ch + 2) (nI hh))) ∨ (∃ k b e w' w, (1 ≤ k ∧ k ≤ 4) ∧ e ≤ len ∧ x_X5_readChannel_k49 N (va_up (va_up (va_up (va_up F 2 (fun _ => F 2 0)) 3 (fun _ => F 3 0)) 4 (fun _ => nI e2)) 5 (fun _ => nI b2)) P (nI v) (nI v') = some w' ∧ w'.1 = nI k ∧ w'.2.1 = nI b ∧ w'.2.2.1 = nI e ∧ x_X10_isChannelItem_k101 N (va_up (va_up (va_up (va_up (va_up (va_up (va_up (va_up M 2 (fun _ => nI e2)) 3 (fun _ => nI b2)) 4 (fun _ => (-1 : Int32))) 5 (fun _ => nI v')) 6 (fun _ => fg')) 7 (fun _ => M 7 0)) 8 (fun _ => M 8 0)) 14 A) (nI (3 * ch)) (nI v) s0 = some w ∧ w.1 = 0 ∧ w.2.2.2.2.2.2.1 = nI b ∧ w.2.2.2.2.2.2.2.1 = nI k))) ∨ (¬ mj D ch v v' ∧ ∃ w, x_X10_isChannelItem_k101 N (va_up (va_up (va_up (va_up (va_up (va_up (va_up (va_up M 2 (fun _ => nI e2)) 3 (fun _ => nI b2)) 4 (fun _ => (-1 : Int32))) 5 (fun _ => nI v')) 6 (fun _ => fg')) 7 (fun _ => M 7 0)) 8 (fun _ => M 8 0)) 14 A) (nI (3 * ch)) (nI v) s0 = some w ∧ w.1 = 0 ∧ w.2.2.2.2.2.2.1 = nI b2 ∧ w.2.2.2.2.2.2.2.1 = nI 4) := fun s0 hs0 => k101_both hN (tx := tx) (len := len) (a := e2) (F := va_up (va_up (va_up (va_up F 2 (fun _ => F 2 0)) 3 (fun _ => F 3 0)) 4 (fun _ => nI e2)) 5 (fun _ => nI b2)) (M := va_up (va_up (va_up (va_up (va_up (va_up (va_up (va_up M 2 (fun _ => nI e2)) 3 (fun _ => nI b2)) 4 (fun _ => (-1 : Int32))) 5 (fun _ => nI v')) 6 (fun _ => fg')) 7 (fun _ => M 7 0)) 8 (fun _ => M 8 0)) 14 A) ⟨h.1, q2, h.2.2.1, h.2.2.2.1, f2, rfl, h.2.2.2.2.2.2.1, h.2.2.2.2.2.2.2.1, rfl⟩ hPR hch hv hv' r7 rfl rfl (fun c hc => by
        obtain ⟨a1, a2, _, _, _, _, a7, _, a9, _, _⟩ := r9 c hc
        refine ⟨a1, a2, ?_, ?_⟩
        · show A (3 * c) = _
          rw [hA, pk_un (by omega), pk_un (by omega)]; exact a7
        · show A (3 * c + 1) = _
          rw [hA, pk_un (by omega), pk_un (by omega)]; exact a9) hs0
      -- what the reference does from here on
      have href : ∃ s0 : Int32, ((s0 = 1 ∧ D 1 v' < D 1 v) ∨ (s0 = 0 ∧ ¬ D 1 v' < D 1 v)) ∧ (if nI (3 * ch) < 0 ∨ 30 ≤ (nI (3 * ch)).toNatClampNeg then none else (fun y_25 => if (((2 : Int32) * nI v') + (1 : Int32)) < 0 ∨ 16 ≤ (((2 : Int32) * nI v') + (1 : Int32)).toNatClampNeg then none else if (((2 : Int32) * y_25) + (1 : Int32)) < 0 ∨ 16 ≤ (((2 : Int32) * y_25) + (1 : Int32)).toNatClampNeg then none else if ((M 13) (((2 : Int32) * y_25) + (1 : Int32)).toNatClampNeg) ≤ ((M 13) (((2 : Int32) * nI v') + (1 : Int32)).toNatClampNeg) then (x_X10_isChannelItem_k101 N (va_up (va_up (va_up (va_up (va_up (va_up (va_up (va_up M 2 (fun _ => nI e2)) 3 (fun _ => nI b2)) 4 (fun _ => (-1 : Int32))) 5 (fun _ => nI v')) 6 (fun _ => fg')) 7 (fun _ => M 7 0)) 8 (fun _ => M 8 0)) 14 A) (nI (3 * ch)) y_25 (0 : Int32)) else (x_X10_isChannelItem_k101 N (va_up (va_up (va_up (va_up (va_up (va_up (va_up (va_up M 2 (fun _ => nI e2)) 3 (fun _ => nI b2)) 4 (fun _ => (-1 : Int32))) 5 (fun _ => nI v')) 6 (fun _ => fg')) 7 (fun _ => M 7 0)) 8 (fun _ => M 8 0)) 14 A) (nI (3 * ch)) y_25 (1 : Int32))) (A (nI (3 * ch)).toNatClampNeg)) = x_X10_isChannelItem_k101 N (va_up (va_up (va_up (va_up (va_up (va_up (va_up (va_up M 2 (fun _ => nI e2)) 3 (fun _ => nI b2)) 4 (fun _ => (-1 : Int32))) 5 (fun _ => nI v')) 6 (fun _ => fg')) 7 (fun _ => M 7 0)) 8 (fun _ => M 8 0)) 14 A) (nI (3 * ch)) (nI v) s0 := by
        rw [cl (show 3 * ch < 2 ^ 31 by omega), if_neg i30, eA]
        dsimp only
        rw [e21, e21, cl (show 2 * v + 1 < 2 ^ 31 by omega), cl (show 2 * v' + 1 < 2 ^ 31 by omega), if_neg (i16 _ (by omega)), if_neg (i16 _ (by omega)), l6, k6]
        by_cases hl : D 1 v ≤ D 1 v'
        · exact ⟨0, Or.inr ⟨rfl, by omega⟩, by rw [if_pos (nI_le hl (by omega))]⟩
        · exact ⟨1, Or.inl ⟨rfl, by omega⟩, by rw [if_neg (nleI (by omega) (by omega))]⟩
      obtain ⟨sx, hs1, hs2⟩ := href
      have hcase := hMM sx hs1
      have hmay := mayJoin_val hN hPR hv hv'
      rw [if_pos f2]
      rcases hcase with ⟨c0, ⟨hh, e', nA, x2, x3, x4, x5, o, A8, c1, c2, c3, c4, c5, c6, c7, c8⟩ | ⟨k, b', e', w', w, c1, c2, c3, c4, c5, c6, c7, c8, c9, c10⟩⟩ | ⟨c0, w, c7, c8, c9, c10⟩
      · left
        have hm : x_X4_mayJoin N P (nI v) (nI v') = some 1 := hmay.elim (fun h => h.2) (fun h => absurd c0 h.1)
        rw [hm]
        simp only [Option.bind_some]
        rw [if_neg z10, c7]
        refine ⟨v, v', hh, e', nA, x2, x3, x4, x5, o, A8, hv, hv', c0.1, c1, c2, by omega, c4, c5, c6, rfl, ?_⟩
        exact (hs2.trans c8).trans (by rw [hA]; rfl)
      · right
        have hm : x_X4_mayJoin N P (nI v) (nI v') = some 1 := hmay.elim (fun h => h.2) (fun h => absurd c0 h.1)
        rw [hm]
        simp only [Option.bind_some]
        rw [if_neg z10, c3]
        refine ⟨k, b', e', w', w, c1, c2, rfl, c4, c5, c6, ?_, c8, c9, c10⟩
        exact hs2.trans c7
      · right
        have hm : x_X4_mayJoin N P (nI v) (nI v') = some 0 := hmay.elim (fun h => absurd h.1 c0) (fun h => h.2)
        rw [hm]
        simp only [Option.bind_some]
        rw [if_pos trivial]
        refine ⟨4, b2, e2, (nI 4, nI b2, nI e2, nI b2, P 2 0, P 5, P 6, P 7, P 8), w, by omega, q2, ?_, rfl, rfl, rfl, ?_, c8, c9, c10⟩
        · exact k49_no (N := N) (x2 := nI v) (x3 := nI v') (F := va_up (va_up (va_up (va_up F 2 (fun _ => (4 : Int32))) 3 (fun _ => nI b2)) 4 (fun _ => nI e2)) 5 (fun _ => nI b2)) (show ¬ (4 : Int32) = 0 by decide)
        · exact hs2.trans c7
    · right
      have hk : 1 ≤ k ∧ k ≤ 4 := by omega
      have s1 := (hB0 (nI (0 + 1)) (nI e) (nI b) (-1) (nI v) fg (M 7 0) (M 8 0) (upd (M 14) (3 * ch + 0) (nI v))).trans (ck24_no (x2 := nI (0 + 1)) (k := 1) y2' y3' r5 (by omega) rfl)
      rw [y1', lpc_1 (by omega) s0 s1]
      simp only [Option.bind_some, Sum.elim_inl]
      rw [if_neg (k_ne hk), k49_no (F := va_up (va_up (va_up (va_up F 2 (fun _ => nI k)) 3 (fun _ => nI b2)) 4 (fun _ => nI e2)) 5 (fun _ => nI b2)) (k_ne hk)]
      exact ⟨k, b2, e2, _, _, hk, q2, rfl, rfl, rfl, rfl, rfl, rfl, y4', y5'⟩
  · right
    have hk : 1 ≤ k ∧ k ≤ 4 := by omega
    have s0 := (hB0 0 (M 2 0) (M 3 0) (M 4 0) (M 5 0) (M 6 0) (M 7 0) (M 8 0) (M 14)).trans (ck24_no (x2 := 0) (k := 0) y2 y3 r5 (by omega) rfl)
    rw [y1, lpc_0 (by omega) s0]
    simp only [Option.bind_some, Sum.elim_inl]
    rw [num_no (F := va_up (va_up (va_up (va_up F 2 (fun _ => nI k)) 3 (fun _ => nI b)) 4 (fun _ => nI e)) 5 (fun _ => nI b)) (k_ne hk)]
    simp only [Option.bind_some]
    refine ⟨k, b, e, (nI k, nI b, nI e, nI b, P 2 0, P 5, P 6, P 7, P 8), _, hk, g2, ?_, rfl, rfl, rfl, rfl, rfl, y4, y5⟩
    show (if nI k = 0 then _ else _) = _
    rw [if_neg (k_ne hk)]
    exact k49_no (N := N) (x2 := x) (x3 := (0 : Int32)) (F := va_up (va_up (va_up (va_up F 2 (fun _ => nI k)) 3 (fun _ => nI b)) 4 (fun _ => nI e)) 5 (fun _ => nI b)) (k_ne hk)
