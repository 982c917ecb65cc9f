/-! gates, undo, images -/
theorem va_up_id {α : Type} (f : Nat → α) (k : Nat) : va_up f k (f k) = f := by
  funext j
  unfold va_up
  by_cases h : j = k
  · rw [if_pos h, h]
  · rw [if_neg h]
theorem PR_pl {pl pl' ch ch' : Nat} {D D' : Nat → Nat → Nat} {P : St} {a b c : Int32} {d e : Nat → Int32} (h : PR pl ch D P a b c d e) (h' : PR pl' ch' D' P a b c d e) : pl' = pl := nI_inj (by have := h'.1; omega) (by have := h.1; omega) (h'.2.2.2.1.symm.trans h.2.2.2.1)
theorem gate9 {C0 F B G P : St} {R : Nat → Option Nat} {q : Nat} {j z : Nat} (hj : j < 10) (hz : z < 1024) (hF : F 1 0 = nI z) (e1 : x_X4_hasChannel P (nI j) = some 1) {b0 b1 t0 t1 : Int32} {t2 t3 t4 t5 t6 : Nat → Int32} (q1 : x_X3_push q B R G F = some (b0, b1, t0, t1, t2, t3, t4, t5, t6)) {x2 : Int32} (hx2 : x2 = 0 ∨ x2 = 1) : x_X9_gate q C0 F B R G P (nI j) x2 = some (nI (z / 2 ^ j % 2), if x2 = 0 then F 1 0 &&& (((1 : Int32) <<< (nI j &&& 31)) ^^^ (-1 : Int32)) else F 1 0 ||| ((1 : Int32) <<< (nI j &&& 31)), b0, b1, t0, t1, t2, t3, t4, t5, t6) := by
  have hb := has_eq (z := z) (k := j) (by omega) (by omega)
  have h3 : z.testBit j = decide (z / 2 ^ j % 2 = 1) := Nat.testBit_eq_decide_div_mod_eq
  unfold x_X9_gate
  rw [e1]
  show Option.bind (x_X3_push q B R G F) _ = _
  rw [q1]
  show Option.bind (x_X9_has (F 1 0) (nI j)) _ = _
  rw [hF, hb, h3]
  unfold x_X9_gate_k44 x_X9_gate_k80
  rcases Nat.mod_two_eq_zero_or_one (z / 2 ^ j) with h | h
  · rw [h]
    rcases hx2 with rfl | rfl
    · rw [← hF]; rfl
    · rw [← hF]; rfl
  · rw [h]
    rcases hx2 with rfl | rfl
    · rw [← hF]; rfl
    · rw [← hF]; rfl
theorem gate10 {N : Nat} {M : St} {j z : Nat} (hj : j < 10) (hz : z < 1024) (hF : M 20 172 = nI z) (e1 : x_X10_isChannel M (nI j) = some 1) {w : (Nat → Int32) × Int32} (q1 : x_X10_note N M = some w) {x2 : Int32} (hx2 : x2 = 0 ∨ x2 = 1) : x_X10_gate N M (nI j) x2 = some (nI (z / 2 ^ j % 2), upd (M 20) 172 (if x2 = 0 then M 20 172 &&& (((1 : Int32) <<< (nI j &&& 31)) ^^^ (-1 : Int32)) else M 20 172 ||| ((1 : Int32) <<< (nI j &&& 31))), w.1, w.2) := by
  have c1 : (172 : Int32).toNatClampNeg = 172 := cl (k := 172) (by omega)
  have c2 : ¬ ((172 : Int32) < 0 ∨ 174 ≤ 172) := by decide
  unfold x_X10_gate x_X10_gate_k68
  rw [e1]
  simp only [Option.bind_some, if_neg z10]
  rw [q1]
  simp only [Option.bind_some, xl, c1, if_neg c2]
  rcases hx2 with rfl | rfl
  · rw [if_pos rfl, if_pos rfl, hF, shr1 (by omega) (by omega), ← hF]
    rfl
  · rw [if_neg z10, if_neg z10, hF, shr1 (by omega) (by omega), ← hF]
    rfl
theorem gate_z {z j : Nat} (hz : z < 1024) (hj : j < 10) {x2 : Int32} : ∃ z', z' < 1024 ∧ (if x2 = 0 then nI z &&& (((1 : Int32) <<< (nI j &&& 31)) ^^^ (-1 : Int32)) else nI z ||| ((1 : Int32) <<< (nI j &&& 31))) = nI z' := by
  by_cases h : x2 = 0
  · rw [if_pos h]
    exact and_lt z hz _
  · rw [if_neg h, s_l10 j (by omega), nI_or]
    exact ⟨_, Nat.or_lt_two_pow (n := 10) hz (Nat.pow_lt_pow_right (by omega) hj), rfl⟩
theorem P_gate {N n : Nat} (hN : 4096 ≤ N) (hn : n < 64) {C RF : Nat → St} {M : St} (h : Rel n C RF M) (RQ : Nat → Ad) (x1 : Int32) (x2 : Int32) (hx2 : x2 = 0 ∨ x2 = 1) : ∃ (v : Int32 × Int32 × Int32 × Int32 × Int32 × Int32 × (Nat → Int32) × (Nat → Int32) × (Nat → Int32) × (Nat → Int32) × (Nat → Int32)) (w : Int32 × (Nat → Int32) × (Nat → Int32) × Int32), x_X9_gate (RQ (kr C) 7) (C 0) (C 4) (C 6) (fun i => some (RQ i 7)) (RF (kr C)) (C 2) x1 x2 = some v ∧ x_X10_gate N M x1 x2 = some w ∧ v.1 = w.1 ∧ Rel (n + 1) (va_up (va_up C 4 (va_up (C 4) 1 (fun _ => v.2.1))) 6 (va_up (va_up (C 6) 0 (fun _ => v.2.2.1)) 1 (fun _ => v.2.2.2.1))) (va_up RF (kr C) (va_up (va_up (va_up (va_up (va_up (va_up (va_up (RF (kr C)) 0 (fun _ => v.2.2.2.2.1)) 1 (fun _ => v.2.2.2.2.2.1)) 2 v.2.2.2.2.2.2.1) 3 v.2.2.2.2.2.2.2.1) 4 v.2.2.2.2.2.2.2.2.1) 5 v.2.2.2.2.2.2.2.2.2.1) 6 v.2.2.2.2.2.2.2.2.2.2)) (va_up (va_up (va_up M 20 w.2.1) 22 w.2.2.1) 23 (fun _ => w.2.2.2)) := by
  have hs := h.2.2.1
  have hrel := h
  obtain ⟨h1, h2, h3, h4, pl, ch, D, hPR, h6, h7, h8⟩ := h
  rcases hp_chan hPR.2.2.2.2.2.1 hPR.2.2.2.2.2.2.1 hPR.2.1 x1 with ⟨j, hj, rfl, e1, e2⟩ | ⟨e1, e2⟩
  · have hch := hPR.2.1
    obtain ⟨b0, b1, w, q1, q2, q3⟩ := push_note hN RQ h7 h6
    obtain ⟨z, z1, z2, z3⟩ := h6.2.1
    obtain ⟨z', y1, y2⟩ := gate_z (z := z) (j := j) (x2 := x2) z1 (by omega)
    unfold kr
    rw [gate9 (by omega) z1 z2 e1 q1 hx2, gate10 (by omega) z1 z3 e2 q2 hx2, z2, z3, y2]
    refine ⟨_, _, rfl, rfl, rfl, ?_⟩
    refine Rel_push (F := va_up (C 4) 1 (fun _ => nI z')) hn hrel hs (fun pl' _ hf hpa => ?_) rfl rfl rfl rfl rfl rfl rfl rfl rfl rfl rfl rfl rfl rfl rfl rfl rfl rfl rfl rfl rfl rfl rfl rfl rfl rfl rfl rfl rfl rfl
    obtain ⟨b0', b1', w', q1', q2', q3'⟩ := push_note hN RQ hpa hf
    rw [q1] at q1'
    rw [q2] at q2'
    cases q1'
    cases q2'
    rw [← z2]
    exact ⟨q3', (hf.sht y1).mono (by omega)⟩
  · unfold x_X9_gate x_X10_gate
    rw [e1, e2]
    exact ⟨_, _, rfl, rfl, rfl, Rel_refp hn hrel _ rfl rfl rfl rfl rfl rfl rfl rfl rfl rfl rfl rfl rfl rfl rfl rfl rfl rfl rfl rfl rfl rfl rfl rfl rfl rfl rfl rfl rfl rfl rfl rfl rfl rfl rfl rfl⟩
theorem P_undo {N n : Nat} (hN : 4096 ≤ N) (hn : n < 64) {C RF : Nat → St} {M : St} (h : Rel n C RF M) (RQ : Nat → Ad) : ∃ (v : Int32 × Int32 × Int32 × (Nat → Int32) × (Nat → Int32) × (Nat → Int32) × (Nat → Int32) × (Nat → Int32) × Int32 × Int32) (w : Int32 × (Nat → Int32) × Int32), x_X9_undo (RQ (kp C) 7) (C 0) (C 4) (C 6) (fun i => some (RQ i 7)) (RF (kp C)) = some v ∧ x_X10_undo N M = some w ∧ v.1 = w.1 ∧ Rel (n + 1) (va_up (va_up C 4 (va_up (va_up (va_up (va_up (va_up (va_up (va_up (C 4) 0 (fun _ => v.2.1)) 1 (fun _ => v.2.2.1)) 2 v.2.2.2.1) 3 v.2.2.2.2.1) 4 v.2.2.2.2.2.1) 5 v.2.2.2.2.2.2.1) 6 v.2.2.2.2.2.2.2.1)) 6 (va_up (va_up (C 6) 0 (fun _ => v.2.2.2.2.2.2.2.2.1)) 1 (fun _ => v.2.2.2.2.2.2.2.2.2))) (va_up RF (kp C) (RF (kp C))) (va_up (va_up M 20 w.2.1) 23 (fun _ => w.2.2)) := by
  have hs := h.2.2.1
  have hrel := h
  obtain ⟨h1, h2, h3, h4, pl, ch, D, hPR, h6, ⟨cnt, nx, a1, a2, a3, a4, a5, a6⟩, h8⟩ := h
  by_cases hc : cnt = 0
  · subst hc
    have e1 : x_X9_undo (RQ (kp C) 7) (C 0) (C 4) (C 6) (fun i => some (RQ i 7)) (RF (kp C)) = some (-1000000003, C 4 0 0, C 4 1 0, C 4 2, C 4 3, C 4 4, C 4 5, C 4 6, C 6 0 0, C 6 1 0) := by
      unfold x_X9_undo x_X3_pop
      rw [if_pos (show C 6 0 0 = 0 from a3)]
      rfl
    have e2 : x_X10_undo N M = some (-1000000003, M 20, M 23 0) := by
      unfold x_X10_undo
      rw [if_pos (show M 23 0 = 0 from a5)]
    rw [e1, e2]
    refine ⟨_, _, rfl, rfl, rfl, ?_⟩
    rw [va_up_id]
    exact Rel_push (F := sfF (C 4)) hn hrel hs (fun pl' _ hf hpa => ⟨hpa, (hf.of rfl rfl rfl rfl rfl rfl rfl).mono (by omega)⟩) rfl rfl rfl rfl rfl rfl rfl rfl rfl rfl rfl rfl rfl rfl rfl rfl rfl rfl rfl rfl rfl rfl rfl rfl rfl rfl rfl rfl rfl rfl
  · obtain ⟨r, r1, r2⟩ := copy_eq (N := N) hN (na := 3480) (nb := 174) (fr := 174 * (cnt - 1)) (to := 0) (a := M 22) (b := M 20) (by omega) (by omega) (by omega) (by omega)
    have hk : kp C = (nx + 19) % 20 := by unfold kp; rw [a4, kp_eq a2, cl (by omega)]
    have e1 : x_X9_undo (RQ (kp C) 7) (C 0) (C 4) (C 6) (fun i => some (RQ i 7)) (RF (kp C)) = some (nI (cnt - 1), RF (kp C) 0 0, RF (kp C) 1 0, va_cpy (RF (kp C) 2) (C 4 2) 0 0 10, va_cpy (RF (kp C) 3) (C 4 3) 0 0 10, va_cpy (RF (kp C) 4) (C 4 4) 0 0 8, va_cpy (RF (kp C) 5) (C 4 5) 0 0 64, va_cpy (RF (kp C) 6) (C 4 6) 0 0 80, nI (cnt - 1), nI ((nx + 19) % 20)) := by
      unfold x_X9_undo x_X3_pop x_X0_copyFrom
      rw [a3, a4, if_neg (show ¬ nI cnt = 0 from fun h => hc (nI_inj (b := 0) (by omega) (by omega) h)), kp_eq a2, hk]
      simp only [xl]
      rw [ix (by omega) (by omega), cl (by omega), if_pos rfl, show nI cnt - (1 : Int32) = nI (cnt - 1) from pk_sub (b := 1) (by omega)]
      rfl
    have e2 : x_X10_undo N M = some (nI (cnt - 1), r, nI (cnt - 1)) := by
      unfold x_X10_undo
      rw [a5, if_neg (show ¬ nI cnt = 0 from fun h => hc (nI_inj (b := 0) (by omega) (by omega) h))]
      simp only [xl]
      rw [show nI cnt - (1 : Int32) = nI (cnt - 1) from pk_sub (b := 1) (by omega), show (174 : Int32) * nI (cnt - 1) = nI (174 * (cnt - 1)) from pk_mul 174 _, show (0 : Int32) = nI 0 from rfl, r1]
      rfl
    rw [e1, e2]
    refine ⟨_, _, rfl, rfl, rfl, ?_⟩
    rw [va_up_id]
    refine Rel_push (F := cpF (C 4) (RF (kp C))) hn hrel hs (fun pl' hq hf hpa => ?_) rfl rfl rfl rfl rfl rfl rfl rfl rfl rfl rfl rfl rfl rfl rfl rfl rfl rfl rfl rfl rfl rfl rfl rfl rfl rfl rfl rfl rfl rfl
    obtain ⟨ch', D', hq⟩ := hq
    have e := PR_pl hPR hq
    subst e
    refine ⟨⟨cnt - 1, (nx + 19) % 20, by omega, by omega, rfl, rfl, rfl, fun i hi => ?_⟩, ?_⟩
    · have := a6 i (by omega)
      rw [show (nx + 20 - cnt + i) % 20 = ((nx + 19) % 20 + 20 - (cnt - 1) + i) % 20 by omega] at this
      exact this
    · have := a6 (cnt - 1) (by omega)
      rw [show (nx + 20 - cnt + (cnt - 1)) % 20 = (nx + 19) % 20 by omega, ← hk] at this
      exact ((this.cp (G := C 4)).row (fun j hj => by show r j = _; rw [r2, if_pos (by omega)]; rfl)).mono (by omega)
