/-! what is done: letIn, clear, crack, gate -/
theorem nI_or (a b : Nat) : nI a ||| nI b = nI (a ||| b) := by
  apply Int32.toBitVec_inj.mp
  simp [nI, Int32.toBitVec_or, BitVec.ofNat_or]
theorem nI_and (a b : Nat) : nI a &&& nI b = nI (a &&& b) := by
  apply Int32.toBitVec_inj.mp
  simp [nI, Int32.toBitVec_and, BitVec.ofNat_and]
theorem nI_of32 (y : Int32) : ∃ m, y = nI m := ⟨y.toBitVec.toNat, by
  apply Int32.toBitVec_inj.mp
  simp [nI]⟩
theorem and_lt (z : Nat) {b : Nat} (h : z < b) (y : Int32) : ∃ z', z' < b ∧ nI z &&& y = nI z' := by
  obtain ⟨m, rfl⟩ := nI_of32 y
  exact ⟨z &&& m, Nat.lt_of_le_of_lt Nat.and_le_left h, nI_and z m⟩
theorem s_l10 : ∀ n, n < 32 → ((1 : Int32) <<< (nI n &&& 31)) = nI (2 ^ n) := by decide +kernel
abbrev sfF (G : St) : St := va_up (va_up (va_up (va_up (va_up (va_up (va_up G 0 (fun _ => G 0 0)) 1 (fun _ => G 1 0)) 2 (G 2)) 3 (G 3)) 4 (G 4)) 5 (G 5)) 6 (G 6)
theorem FR.of {pl hb : Nat} {F F' : St} {A : Nat → Int32} (h : FR pl hb F A) (h0 : F' 0 0 = F 0 0) (h1 : F' 1 0 = F 1 0) (h2 : F' 2 = F 2) (h3 : F' 3 = F 3) (h4 : F' 4 = F 4) (h5 : F' 5 = F 5) (h6 : F' 6 = F 6) : FR pl hb F' A := h.congr h0 h1 (fun _ _ => by rw [h2]) (fun _ _ => by rw [h3]) (fun _ _ => by rw [h4]) (fun _ _ => by rw [h5]) (fun _ _ => by rw [h6]) (fun _ _ => rfl)
theorem RPa.same {pl hb : Nat} {b0 b1 m23 : Int32} {RF : Nat → St} {m22 : Nat → Int32} (h : RPa pl hb b0 b1 m23 RF m22) (k : Nat) : RPa pl hb b0 b1 m23 (va_up RF k (sfF (RF k))) m22 := by
  obtain ⟨cnt, nx, a1, a2, a3, a4, a5, a6⟩ := h
  refine ⟨cnt, nx, a1, a2, a3, a4, a5, fun i hi => ?_⟩
  by_cases hk : (nx + 20 - cnt + i) % 20 = k
  · rw [hk, va_up_self]
    have := a6 i hi
    rw [hk] at this
    exact this.of rfl rfl rfl rfl rfl rfl rfl
  · rw [va_up_ne _ _ hk]
    exact a6 i hi
theorem FR.silt {pl hb : Nat} {F : St} {A : Nat → Int32} (h : FR pl hb F A) {j : Nat} (hj : j < 10) (x : Int32) : FR pl hb (va_up F 2 (upd (F 2) j x)) (upd A (152 + j) x) := by
  obtain ⟨⟨y, a1, a2, a3, a4⟩, ⟨z, b1, b2, b3⟩, c1, d1, e1⟩ := h
  refine ⟨⟨y, a1, a2, (pk_un (by omega)).trans a3, fun p k hp hk => ?_⟩, ⟨z, b1, b2, (pk_un (by omega)).trans b3⟩, fun c hc => ?_, fun c hc => ?_, fun p hp => ?_⟩
  · obtain ⟨w, w1, w2, w3, w4⟩ := a4 p k hp hk
    exact ⟨w, w1, (pk_un (by omega)).trans w2, w3, w4⟩
  · show upd (F 2) j x c = upd A (152 + j) x (152 + c)
    by_cases hcj : c = j
    · subst hcj; rw [pk_us, pk_us]
    · rw [pk_un hcj, pk_un (by omega)]; exact c1 c hc
  · rw [pk_un (by omega)]; exact d1 c hc
  · obtain ⟨w, w1, w2, w3, w4⟩ := e1 p hp
    refine ⟨w, w1, w2, (pk_un (by omega)).trans w3, fun t ht => ?_⟩
    rw [pk_un (by omega)]; exact w4 t ht
theorem FR.crk {pl hb : Nat} {F : St} {A : Nat → Int32} (h : FR pl hb F A) {j : Nat} (hj : j < 10) {x : Int32} (hx : x = -1 ∨ ∃ q, q < pl ∧ x = nI q) : FR pl hb (va_up F 3 (upd (F 3) j x)) (upd A (162 + j) x) := by
  obtain ⟨⟨y, a1, a2, a3, a4⟩, ⟨z, b1, b2, b3⟩, c1, d1, e1⟩ := h
  refine ⟨⟨y, a1, a2, (pk_un (by omega)).trans a3, fun p k hp hk => ?_⟩, ⟨z, b1, b2, (pk_un (by omega)).trans b3⟩, fun c hc => ?_, fun c hc => ?_, fun p hp => ?_⟩
  · obtain ⟨w, w1, w2, w3, w4⟩ := a4 p k hp hk
    exact ⟨w, w1, (pk_un (by omega)).trans w2, w3, w4⟩
  · rw [pk_un (by omega)]; exact c1 c hc
  · show upd (F 3) j x c = upd A (162 + j) x (162 + c) ∧ _
    by_cases hcj : c = j
    · subst hcj; rw [pk_us, pk_us]; exact ⟨rfl, hx⟩
    · rw [pk_un hcj, pk_un (by omega)]; exact d1 c hc
  · obtain ⟨w, w1, w2, w3, w4⟩ := e1 p hp
    refine ⟨w, w1, w2, (pk_un (by omega)).trans w3, fun t ht => ?_⟩
    rw [pk_un (by omega)]; exact w4 t ht
theorem FR.sht {pl hb : Nat} {F : St} {A : Nat → Int32} (h : FR pl hb F A) {z' : Nat} (hz : z' < 1024) : FR pl hb (va_up F 1 (fun _ => nI z')) (upd A 172 (nI z')) := by
  obtain ⟨⟨y, a1, a2, a3, a4⟩, ⟨z, b1, b2, b3⟩, c1, d1, e1⟩ := h
  refine ⟨⟨y, a1, a2, (pk_un (by omega)).trans a3, fun p k hp hk => ?_⟩, ⟨z', hz, rfl, pk_us⟩, fun c hc => ?_, fun c hc => ?_, fun p hp => ?_⟩
  · obtain ⟨w, w1, w2, w3, w4⟩ := a4 p k hp hk
    exact ⟨w, w1, (pk_un (by omega)).trans w2, w3, w4⟩
  · rw [pk_un (by omega)]; exact c1 c hc
  · rw [pk_un (by omega)]; exact d1 c hc
  · obtain ⟨w, w1, w2, w3, w4⟩ := e1 p hp
    refine ⟨w, w1, w2, (pk_un (by omega)).trans w3, fun t ht => ?_⟩
    rw [pk_un (by omega)]; exact w4 t ht
/-- a set is let in -/
theorem FR.come {N : Nat} (hN : 4096 ≤ N) {pl hb : Nat} {F : St} {A : Nat → Int32} (h : FR pl hb F A) (hhb : hb < 2 ^ 20) (hpl : 0 < pl) {s : Nat} (hs : s < 256) : ∃ z, z < 256 ∧ ∃ f6, x_X0_comeToSpring F (nI s) = some (nI z, f6) ∧ A 0 ||| nI s = nI z ∧ FR pl hb (va_up F 6 f6) (upd A 0 (nI z)) := by
  obtain ⟨⟨y, a1, a2, a3, a4⟩, hb2, c1, d1, e1⟩ := h
  obtain ⟨z, z1, z2, z3, z4⟩ := a4 0 0 (by omega) (by omega)
  have z2 : A 0 = nI z := z2
  have z3 : F 6 (y % 10) = nI z := by have e : 10 * 0 + (y + 0) % 10 = y % 10 := by omega
                                      rw [e] at z3; exact z3
  refine ⟨z ||| s, Nat.or_lt_two_pow (n := 8) z1 hs, upd (F 6) (y % 10) (nI (z ||| s)), ?_, by rw [z2, nI_or], ?_⟩
  · unfold x_X0_comeToSpring
    rw [a2, rem10 (show y < 2 ^ 20 by omega)]
    simp (disch := omega) only [li_0, li_1, li_2, li_3, li_4, li_5, li_6, li_7, li_8, li_9, li_10, li_11, li_15, li_16, li_20, li_30, li_32, li_48, li_57, li_58, li_59, li_60, li_61, li_63, li_64, li_80, li_85, li_88, li_99, li_100, li_112, li_115, li_152, li_162, li_172, li_173, li_174, li_240, li_255, li_348, li_1000, li_3306, nI_add, nI_ltI, nI_clamp, if_neg, xl, Nat.zero_add, z3, nI_or, pk_us]
  · refine ⟨⟨y, a1, a2, (pk_un (by omega)).trans a3, fun p k hp hk => ?_⟩, ?_, fun c hc => ?_, fun c hc => ?_, fun p hp => ?_⟩
    · by_cases hpk : p = 0 ∧ k = 0
      · obtain ⟨rfl, rfl⟩ := hpk
        refine ⟨z ||| s, Nat.or_lt_two_pow (n := 8) z1 hs, pk_us, ?_, fun h => by omega⟩
        show upd (F 6) (y % 10) (nI (z ||| s)) (10 * 0 + (y + 0) % 10) = _
        rw [show 10 * 0 + (y + 0) % 10 = y % 10 by omega, pk_us]
      · obtain ⟨w, w1, w2, w3, w4⟩ := a4 p k hp hk
        refine ⟨w, w1, (pk_un (by omega)).trans w2, ?_, w4⟩
        show upd (F 6) (y % 10) (nI (z ||| s)) (10 * p + (y + k) % 10) = _
        rw [pk_un (by omega)]; exact w3
    · obtain ⟨w, w1, w2, w3⟩ := hb2
      exact ⟨w, w1, w2, (pk_un (by omega)).trans w3⟩
    · rw [pk_un (by omega)]; exact c1 c hc
    · rw [pk_un (by omega)]; exact d1 c hc
    · obtain ⟨w, w1, w2, w3, w4⟩ := e1 p hp
      refine ⟨w, w1, w2, (pk_un (by omega)).trans w3, fun t ht => ?_⟩
      rw [pk_un (by omega)]; exact w4 t ht
theorem Rel_refp {n : Nat} (hn : n < 64) {C RF : Nat → St} {M : St} (h : Rel n C RF M) (k : Nat)
    {C' : Nat → St} {M' : St} (c0 : C' 0 10 0 = C 0 10 0) (c1 : C' 1 = C 1) (c2 : C' 2 = C 2) (c40 : C' 4 0 0 = C 4 0 0) (c41 : C' 4 1 0 = C 4 1 0) (c42 : C' 4 2 = C 4 2) (c43 : C' 4 3 = C 4 3) (c44 : C' 4 4 = C 4 4) (c45 : C' 4 5 = C 4 5) (c46 : C' 4 6 = C 4 6) (c60 : C' 6 0 0 = C 6 0 0) (c61 : C' 6 1 0 = C 6 1 0) (c7 : C' 7 = C 7) (c12 : C' 12 = C 12) (c13 : C' 13 = C 13) (c14 : C' 14 = C 14) (c15 : C' 15 = C 15)
    (e0 : M' 0 = M 0) (e1 : M' 1 = M 1) (e7 : M' 7 = M 7) (e15 : M' 15 = M 15) (e16 : M' 16 = M 16) (e17 : M' 17 = M 17) (e18 : M' 18 = M 18) (e19 : M' 19 = M 19) (e20 : M' 20 = M 20) (e22 : M' 22 = M 22) (e23 : M' 23 0 = M 23 0) (e24 : M' 24 = M 24) (e25 : M' 25 = M 25) (e26 : M' 26 = M 26) (e27 : M' 27 0 = M 27 0) (e28 : M' 28 = M 28) (e29 : M' 29 = M 29) (e30 : M' 30 = M 30) (e31 : M' 31 = M 31) : Rel (n + 1) C' (va_up RF k (sfF (RF k))) M' :=
  Rel_push hn h (F := C' 4) h.2.2.1 (fun pl' _ hf hpa => ⟨hpa.same k, (hf.of c40 c41 c42 c43 c44 c45 c46).mono (by omega)⟩) c0 c1 c2 rfl c60 c61 c7 c12 c13 c14 c15 e0 e1 e7 e15 e16 e17 e18 e19 e20 e22 e23 e24 e25 e26 e27 e28 e29 e30 e31
theorem P_clear {N n : Nat} (hN : 4096 ≤ N) (hn : n < 64) {C RF : Nat → St} {M : St} (h : Rel n C RF M) (RQ : Nat → Ad) (x1 : Int32) : ∃ (v : Int32 × (Nat → Int32) × Int32 × Int32 × Int32 × Int32 × (Nat → Int32) × (Nat → Int32) × (Nat → Int32) × (Nat → Int32) × (Nat → Int32)) (w : Int32 × (Nat → Int32) × (Nat → Int32) × Int32), x_X9_clear (RQ (kr C) 7) (C 0) (C 4) (C 6) (fun i => some (RQ i 7)) (RF (kr C)) (C 2) x1 = some v ∧ x_X10_clear N M x1 = some w ∧ v.1 = w.1 ∧ Rel (n + 1) (va_up (va_up C 4 (va_up (C 4) 2 v.2.1)) 6 (va_up (va_up (C 6) 0 (fun _ => v.2.2.1)) 1 (fun _ => v.2.2.2.1))) (va_up RF (kr C) (va_up (va_up (va_up (va_up (va_up (va_up (va_up (RF (kr C)) 0 (fun _ => v.2.2.2.2.1)) 1 (fun _ => v.2.2.2.2.2.1)) 2 v.2.2.2.2.2.2.1) 3 v.2.2.2.2.2.2.2.1) 4 v.2.2.2.2.2.2.2.2.1) 5 v.2.2.2.2.2.2.2.2.2.1) 6 v.2.2.2.2.2.2.2.2.2.2)) (va_up (va_up (va_up M 20 w.2.1) 22 w.2.2.1) 23 (fun _ => w.2.2.2)) := by
  have hs := h.2.2.1
  have hrel := h
  obtain ⟨h1, h2, h3, h4, pl, ch, D, hPR, h6, h7, h8⟩ := h
  unfold x_X9_clear x_X10_clear
  rcases hp_chan hPR.2.2.2.2.2.1 hPR.2.2.2.2.2.2.1 hPR.2.1 x1 with ⟨j, hj, rfl, e1, e2⟩ | ⟨e1, e2⟩
  · have hch := hPR.2.1
    rw [e1, e2]
    obtain ⟨b0, b1, w, q1, q2, q3⟩ := push_note hN RQ h7 h6
    have q1 := q1
    unfold kr
    simp only [Option.bind_some, if_neg z10, q1, q2]
    simp (disch := omega) only [li_0, li_1, li_2, li_3, li_4, li_5, li_6, li_7, li_8, li_9, li_10, li_11, li_15, li_16, li_20, li_30, li_32, li_48, li_57, li_58, li_59, li_60, li_61, li_63, li_64, li_80, li_85, li_88, li_99, li_100, li_112, li_115, li_152, li_162, li_172, li_173, li_174, li_240, li_255, li_348, li_1000, li_3306, nI_add, nI_ltI, nI_clamp, if_neg, xl]
    refine ⟨_, _, rfl, rfl, h6.2.2.1 j (by omega), ?_⟩
    refine Rel_push hn hrel hs (fun pl' _ hf hpa => ?_) rfl rfl rfl rfl rfl rfl rfl rfl rfl rfl rfl rfl rfl rfl rfl rfl rfl rfl rfl rfl rfl rfl rfl rfl rfl rfl rfl rfl rfl rfl
    obtain ⟨b0', b1', w', q1', q2', q3'⟩ := push_note hN RQ hpa hf
    rw [q1] at q1'
    rw [q2] at q2'
    cases q1'
    cases q2'
    exact ⟨q3', (hf.silt (by omega) 0).mono (by omega)⟩
  · rw [e1, e2]
    exact ⟨_, _, rfl, rfl, rfl, Rel_refp hn hrel _ rfl rfl rfl rfl rfl rfl rfl rfl rfl rfl rfl rfl rfl rfl rfl rfl rfl rfl rfl rfl rfl rfl rfl rfl rfl rfl rfl rfl rfl rfl rfl rfl rfl rfl rfl rfl⟩
theorem P_letIn {N n : Nat} (hN : 4096 ≤ N) (hn : n < 64) {C RF : Nat → St} {M : St} (h : Rel n C RF M) (RQ : Nat → Ad) (x1 : Int32) : ∃ (v : Int32 × (Nat → Int32) × Int32 × Int32 × Int32 × Int32 × (Nat → Int32) × (Nat → Int32) × (Nat → Int32) × (Nat → Int32) × (Nat → Int32)) (w : Int32 × (Nat → Int32) × (Nat → Int32) × Int32), x_X9_letIn (RQ (kr C) 7) (C 0) (C 4) (C 6) (fun i => some (RQ i 7)) (RF (kr C)) (C 2) x1 = some v ∧ x_X10_letIn N M x1 = some w ∧ v.1 = w.1 ∧ Rel (n + 1) (va_up (va_up C 4 (va_up (C 4) 6 v.2.1)) 6 (va_up (va_up (C 6) 0 (fun _ => v.2.2.1)) 1 (fun _ => v.2.2.2.1))) (va_up RF (kr C) (va_up (va_up (va_up (va_up (va_up (va_up (va_up (RF (kr C)) 0 (fun _ => v.2.2.2.2.1)) 1 (fun _ => v.2.2.2.2.2.1)) 2 v.2.2.2.2.2.2.1) 3 v.2.2.2.2.2.2.2.1) 4 v.2.2.2.2.2.2.2.2.1) 5 v.2.2.2.2.2.2.2.2.2.1) 6 v.2.2.2.2.2.2.2.2.2.2)) (va_up (va_up (va_up M 20 w.2.1) 22 w.2.2.1) 23 (fun _ => w.2.2.2)) := by
  have hs := h.2.2.1
  have hrel := h
  obtain ⟨h1, h2, h3, h4, pl, ch, D, hPR, h6, h7, h8⟩ := h
  unfold x_X9_letIn x_X10_letIn
  rcases in_cases x1 1 255 (by omega) (by omega) with ⟨s, s0, s1, rfl, hk⟩ | ⟨hk, hk2⟩
  · have hk : x_X10_in (nI s) 1 255 = some 1 := hk
    have a1 : ¬ nI s < 1 := fun h => by have := (nI_ltI (b := 1) (by omega) (by omega)).mp h; omega
    have a2 : nI s ≤ 255 := nI_le (b := 255) s1 (by omega)
    by_cases hpl : pl = 0
    · have p1 : C 2 1 0 = 0 := by rw [hPR.2.2.2.1, hpl]; rfl
      have p2 : M 16 0 = 0 := by rw [hPR.2.2.2.2.1, hpl]; rfl
      rw [hk, if_neg a1, if_pos a2, if_pos p1]
      simp only [Option.bind_some, if_neg z10]
      rw [if_pos p2]
      exact ⟨_, _, rfl, rfl, rfl, Rel_refp hn hrel _ rfl rfl rfl rfl rfl rfl rfl rfl rfl rfl rfl rfl rfl rfl rfl rfl rfl rfl rfl rfl rfl rfl rfl rfl rfl rfl rfl rfl rfl rfl rfl rfl rfl rfl rfl rfl⟩
    · have p1 : ¬ C 2 1 0 = 0 := by rw [hPR.2.2.2.1]; exact fun h => hpl (nI_inj (b := 0) (by have := hPR.1; omega) (by omega) h)
      have p2 : ¬ M 16 0 = 0 := by rw [hPR.2.2.2.2.1]; exact fun h => hpl (nI_inj (b := 0) (by have := hPR.1; omega) (by omega) h)
      obtain ⟨b0, b1, w, q1, q2, q3⟩ := push_note hN RQ h7 h6
      obtain ⟨z, z1, f6, z2, z3, z4⟩ := h6.come hN (by omega) (by omega) (show s < 256 by omega)
      rw [hk, if_neg a1, if_pos a2, if_neg p1]
      unfold kr
      simp only [Option.bind_some, if_neg z10, q1, q2, z2]
      rw [if_neg p2]
      have z3 : M 20 (0 : Int32).toNatClampNeg ||| nI s = nI z := z3
      simp only [xl, z3]
      have zz : upd (M 20) (0 : Int32).toNatClampNeg (nI z) (0 : Int32).toNatClampNeg = nI z := pk_us
      refine ⟨_, _, rfl, rfl, zz.symm, ?_⟩
      refine Rel_push (F := va_up (C 4) 6 f6) hn hrel hs (fun pl' hq hf hpa => ?_) rfl rfl rfl rfl rfl rfl rfl rfl rfl rfl rfl rfl rfl rfl rfl rfl rfl rfl rfl rfl rfl rfl rfl rfl rfl rfl rfl rfl rfl rfl
      obtain ⟨b0', b1', w', q1', q2', q3'⟩ := push_note hN RQ hpa hf
      rw [q1] at q1'
      rw [q2] at q2'
      cases q1'
      cases q2'
      obtain ⟨ch', D', hq⟩ := hq
      have e := nI_inj (by have := hq.1; omega) (by have := hPR.1; omega) (hq.2.2.2.1.symm.trans hPR.2.2.2.1)
      subst e
      exact ⟨q3', z4.mono (by omega)⟩
  · have hk2 : x_X10_in x1 1 255 = some 0 := hk2
    rw [hk2]
    by_cases hx : x1 < 1
    · rw [if_pos hx]
      exact ⟨_, _, rfl, rfl, rfl, Rel_refp hn hrel _ rfl rfl rfl rfl rfl rfl rfl rfl rfl rfl rfl rfl rfl rfl rfl rfl rfl rfl rfl rfl rfl rfl rfl rfl rfl rfl rfl rfl rfl rfl rfl rfl rfl rfl rfl rfl⟩
    · have hx2 : ¬ x1 ≤ 255 := hk.elim (fun h9 => absurd h9 hx) (fun h9 => Int32.not_le.mpr h9)
      rw [if_neg hx, if_neg hx2]
      exact ⟨_, _, rfl, rfl, rfl, Rel_refp hn hrel _ rfl rfl rfl rfl rfl rfl rfl rfl rfl rfl rfl rfl rfl rfl rfl rfl rfl rfl rfl rfl rfl rfl rfl rfl rfl rfl rfl rfl rfl rfl rfl rfl rfl rfl rfl rfl⟩
theorem crack_go {N n : Nat} (hN : 4096 ≤ N) (hn : n < 64) {C RF : Nat → St} {M : St} (h : Rel n C RF M) (RQ : Nat → Ad) {j : Nat} (hj : j < 10) {x2 : Int32} (hx : ∀ pl, (∃ ch D, PR pl ch D (C 2) (M 15 0) (M 16 0) (M 17 0) (M 18) (M 19)) → x2 = -1 ∨ ∃ q, q < pl ∧ x2 = nI q) : ∃ v w, x_X9_crack_k30 (RQ (kr C) 7) (C 0) (C 4) (C 6) (fun i => some (RQ i 7)) (RF (kr C)) (C 2) (nI j) x2 = some v ∧ x_X10_crack_k24 N M (nI j) x2 = some w ∧ v.1 = w.1 ∧ Rel (n + 1) (va_up (va_up C 4 (va_up (C 4) 3 v.2.1)) 6 (va_up (va_up (C 6) 0 (fun _ => v.2.2.1)) 1 (fun _ => v.2.2.2.1))) (va_up RF (kr C) (va_up (va_up (va_up (va_up (va_up (va_up (va_up (RF (kr C)) 0 (fun _ => v.2.2.2.2.1)) 1 (fun _ => v.2.2.2.2.2.1)) 2 v.2.2.2.2.2.2.1) 3 v.2.2.2.2.2.2.2.1) 4 v.2.2.2.2.2.2.2.2.1) 5 v.2.2.2.2.2.2.2.2.2.1) 6 v.2.2.2.2.2.2.2.2.2.2)) (va_up (va_up (va_up M 20 w.2.1) 22 w.2.2.1) 23 (fun _ => w.2.2.2)) := by
  have hs := h.2.2.1
  have hrel := h
  obtain ⟨h1, h2, h3, h4, pl, ch, D, hPR, h6, h7, h8⟩ := h
  unfold x_X9_crack_k30 x_X10_crack_k24
  obtain ⟨b0, b1, w, q1, q2, q3⟩ := push_note hN RQ h7 h6
  unfold kr
  simp only [Option.bind_some, q1, q2]
  simp (disch := omega) only [li_0, li_1, li_2, li_3, li_4, li_5, li_6, li_7, li_8, li_9, li_10, li_11, li_15, li_16, li_20, li_30, li_32, li_48, li_57, li_58, li_59, li_60, li_61, li_63, li_64, li_80, li_85, li_88, li_99, li_100, li_112, li_115, li_152, li_162, li_172, li_173, li_174, li_240, li_255, li_348, li_1000, li_3306, nI_add, nI_ltI, nI_clamp, if_neg, xl]
  refine ⟨_, _, rfl, rfl, (h6.2.2.2.1 j (by omega)).1, ?_⟩
  refine Rel_push (F := va_up (C 4) 3 (upd (C 4 3) j x2)) hn hrel hs (fun pl' hq hf hpa => ?_) rfl rfl rfl rfl rfl rfl rfl rfl rfl rfl rfl rfl rfl rfl rfl rfl rfl rfl rfl rfl rfl rfl rfl rfl rfl rfl rfl rfl rfl rfl
  obtain ⟨b0', b1', w', q1', q2', q3'⟩ := push_note hN RQ hpa hf
  rw [q1] at q1'
  rw [q2] at q2'
  cases q1'
  cases q2'
  exact ⟨q3', (hf.crk hj (hx pl' hq)).mono (by omega)⟩
theorem P_crack {N n : Nat} (hN : 4096 ≤ N) (hn : n < 64) {C RF : Nat → St} {M : St} (h : Rel n C RF M) (RQ : Nat → Ad) (x1 : Int32) (x2 : Int32) : ∃ (v : Int32 × (Nat → Int32) × Int32 × Int32 × Int32 × Int32 × (Nat → Int32) × (Nat → Int32) × (Nat → Int32) × (Nat → Int32) × (Nat → Int32)) (w : Int32 × (Nat → Int32) × (Nat → Int32) × Int32), x_X9_crack (RQ (kr C) 7) (C 0) (C 4) (C 6) (fun i => some (RQ i 7)) (RF (kr C)) (C 2) x1 x2 = some v ∧ x_X10_crack N M x1 x2 = some w ∧ v.1 = w.1 ∧ Rel (n + 1) (va_up (va_up C 4 (va_up (C 4) 3 v.2.1)) 6 (va_up (va_up (C 6) 0 (fun _ => v.2.2.1)) 1 (fun _ => v.2.2.2.1))) (va_up RF (kr C) (va_up (va_up (va_up (va_up (va_up (va_up (va_up (RF (kr C)) 0 (fun _ => v.2.2.2.2.1)) 1 (fun _ => v.2.2.2.2.2.1)) 2 v.2.2.2.2.2.2.1) 3 v.2.2.2.2.2.2.2.1) 4 v.2.2.2.2.2.2.2.2.1) 5 v.2.2.2.2.2.2.2.2.2.1) 6 v.2.2.2.2.2.2.2.2.2.2)) (va_up (va_up (va_up M 20 w.2.1) 22 w.2.2.1) 23 (fun _ => w.2.2.2)) := by
  have hrel := h
  obtain ⟨h1, h2, h3, h4, pl, ch, D, hPR, h6, h7, h8⟩ := h
  unfold x_X9_crack x_X10_crack
  rcases hp_chan hPR.2.2.2.2.2.1 hPR.2.2.2.2.2.2.1 hPR.2.1 x1 with ⟨j, hj, rfl, e1, e2⟩ | ⟨e1, e2⟩
  · have hch := hPR.2.1
    rw [e1, e2]
    simp only [Option.bind_some, if_neg z10]
    by_cases hx : x2 = -1
    · rw [if_pos hx, if_pos hx]
      exact crack_go hN hn hrel RQ (by omega) (fun _ _ => Or.inl hx)
    · rw [if_neg hx, if_neg hx]
      rcases hp_place hPR.2.2.2.1 hPR.2.2.2.2.1 hPR.1 x2 with ⟨q, hq, rfl, e3, e4⟩ | ⟨e3, e4⟩
      · rw [e3, e4]
        simp only [Option.bind_some, if_neg z10]
        refine crack_go hN hn hrel RQ (by omega) (fun pl' hq' => Or.inr ⟨q, ?_, rfl⟩)
        obtain ⟨ch', D', hq'⟩ := hq'
        have e := nI_inj (by have := hq'.1; omega) (by have := hPR.1; omega) (hq'.2.2.2.1.symm.trans hPR.2.2.2.1)
        omega
      · rw [e3, e4]
        exact ⟨_, _, rfl, rfl, rfl, Rel_refp hn hrel _ rfl rfl rfl rfl rfl rfl rfl rfl rfl rfl rfl rfl rfl rfl rfl rfl rfl rfl rfl rfl rfl rfl rfl rfl rfl rfl rfl rfl rfl rfl rfl rfl rfl rfl rfl rfl⟩
  · rw [e1, e2]
    exact ⟨_, _, rfl, rfl, rfl, Rel_refp hn hrel _ rfl rfl rfl rfl rfl rfl rfl rfl rfl rfl rfl rfl rfl rfl rfl rfl rfl rfl rfl rfl rfl rfl rfl rfl rfl rfl rfl rfl rfl rfl rfl rfl rfl rfl rfl rfl⟩
