/-! 'p' -/
theorem lpc_0 {σ ε : Type} {body : σ → Option (σ ⊕ ε)} {N : Nat} {z : σ} {x : ε} (hN : 3 ≤ N) (h : body z = some (.inr x)) : lpc body N z = some x := by
  obtain ⟨N, rfl⟩ : ∃ N', N = N' + 1 := ⟨N - 1, by omega⟩
  simp only [lpc, h, Option.bind_some]
theorem lpc_1 {σ ε : Type} {body : σ → Option (σ ⊕ ε)} {N : Nat} {z z1 : σ} {x : ε} (hN : 3 ≤ N) (h : body z = some (.inl z1)) (h1 : body z1 = some (.inr x)) : lpc body N z = some x := by
  obtain ⟨N, rfl⟩ : ∃ N', N = N' + 2 := ⟨N - 2, by omega⟩
  simp only [lpc, h, h1, Option.bind_some]
theorem lpc_2 {σ ε : Type} {body : σ → Option (σ ⊕ ε)} {N : Nat} {z z1 z2 : σ} {x : ε} (hN : 3 ≤ N) (h : body z = some (.inl z1)) (h1 : body z1 = some (.inl z2)) (h2 : body z2 = some (.inr x)) : lpc body N z = some x := by
  obtain ⟨N, rfl⟩ : ∃ N', N = N' + 3 := ⟨N - 3, by omega⟩
  simp only [lpc, h, h1, h2, Option.bind_some]
theorem pk34_ok {N pl e b v : Nat} {M : St} {x1 lo hi fg : Int32} {k : Nat} (hpl : pl < 8) (hM : M 11 0 = nI pl) (hk : k < 2) (hx : x1 = nI k) (y : x_X10_isNumber N M lo hi = some (1, nI e, nI b, -1, nI v, fg, M 7 0, M 8 0)) : x_X10_isPlaceItem_b17_k34 N M x1 lo hi = some (.inl (nI (k + 1), nI e, nI b, -1, nI v, fg, M 7 0, M 8 0, upd (M 13) (2 * pl + k) (nI v))) := by
  have e1 : (2 : Int32) * nI pl + nI k = nI (2 * pl + k) := by rw [show (2 : Int32) = nI 2 from rfl, pk_mul, nI_add]
  have e2 : nI k + (1 : Int32) = nI (k + 1) := nI_add k 1
  unfold x_X10_isPlaceItem_b17_k34
  rw [y]
  simp only [Option.bind_some]
  rw [if_neg z10, hM, hx, e1, e2, ix (show 2 * pl + k < 16 by omega) (by omega), cl (by omega)]
theorem pk34_no {N : Nat} {M : St} {x1 lo hi : Int32} {w : Int32 × Int32 × Int32 × Int32 × Int32 × Int32 × Int32 × Int32} (y : x_X10_isNumber N M lo hi = some w) (y0 : w.1 = 0) : x_X10_isPlaceItem_b17_k34 N M x1 lo hi = some (.inr (.inl (w.2.1, w.2.2.1, w.2.2.2.1, w.2.2.2.2.1, w.2.2.2.2.2.1, w.2.2.2.2.2.2.1, w.2.2.2.2.2.2.2, M 13))) := by
  unfold x_X10_isPlaceItem_b17_k34
  rw [y]
  simp only [Option.bind_some]
  rw [if_pos y0]
theorem addPlace_val {pl : Nat} {P : St} {x y : Int32} (hpl : pl < 8) (h1 : P 1 0 = nI pl) : x_X4_addPlace P x y = some (nI (pl + 1), upd (P 3) pl x, upd (P 4) pl y) := by
  have e2 : nI pl + (1 : Int32) = nI (pl + 1) := nI_add pl 1
  have i2 : ¬ (nI pl < 0 ∨ 8 ≤ pl) := by have := nI_in (c := pl) (N := 8) (by omega) (by omega); rwa [cl (by omega)] at this
  unfold x_X4_addPlace xl
  rw [h1, if_pos (show nI pl < (8 : Int32) from nI_lt (b := 8) hpl (by omega)), cl (by omega), if_neg i2, if_neg i2, e2]
theorem place_both {N : Nat} (hN : 4096 ≤ N) {tx : Nat → Nat} {len a pl : Nat} {F M P : St} (h : RS tx len a F M) (hpl : pl < 8) (hP : P 1 0 = nI pl) (hM : M 11 0 = nI pl) : (∃ v1 v2 e nA y2 y3 y4 y5, v1 ≤ 3 ∧ v2 ≤ 99 ∧ a < e ∧ e ≤ len ∧ x_X5_readPlace N F P = some (0, F 3 0, nI e, nA, nI (pl + 1), upd (P 3) pl (nI v1), upd (P 4) pl (nI v2)) ∧ x_X10_isPlaceItem N M = some (1, nI e, y2, y3, y4, y5, M 7 0, M 8 0, nI (pl + 1), upd (upd (M 13) (2 * pl) (nI v1)) (2 * pl + 1) (nI v2))) ∨ (∃ k b e v w, (1 ≤ k ∧ k ≤ 4) ∧ e ≤ len ∧ x_X5_readPlace N F P = some v ∧ v.1 = nI k ∧ v.2.1 = nI b ∧ v.2.2.1 = nI e ∧ x_X10_isPlaceItem N M = some w ∧ w.1 = 0 ∧ w.2.2.2.2.2.2.1 = nI b ∧ w.2.2.2.2.2.2.2.1 = nI k) := by
  have f2 : F 2 0 = 0 := h.2.2.2.2.1
  have hle := h.2.1
  obtain ⟨B, hB⟩ : ∃ B, B = (fun (z : Int32 × Int32 × Int32 × Int32 × Int32 × Int32 × Int32 × Int32 × (Nat → Int32)) => x_X10_isPlaceItem_b17 N (va_up (va_up (va_up (va_up (va_up (va_up (va_up (va_up M 2 (fun _ => z.2.1)) 3 (fun _ => z.2.2.1)) 4 (fun _ => z.2.2.2.1)) 5 (fun _ => z.2.2.2.2.1)) 6 (fun _ => z.2.2.2.2.2.1)) 7 (fun _ => z.2.2.2.2.2.2.1)) 8 (fun _ => z.2.2.2.2.2.2.2.1)) 13 z.2.2.2.2.2.2.2.2) z.1) := ⟨_, rfl⟩
  unfold x_X5_readPlace x_X10_isPlaceItem
  rw [if_neg (show ¬ M 11 0 = 8 by rw [hM]; intro h9; have := nI_inj (b := 8) (by omega) (by omega) h9; omega), ← hB]
  have hB0 : ∀ c1 c2 c3 c4 c5 c6 c7 c8 A, B (c1, c2, c3, c4, c5, c6, c7, c8, A) = x_X10_isPlaceItem_b17 N (va_up (va_up (va_up (va_up (va_up (va_up (va_up (va_up M 2 (fun _ => c2)) 3 (fun _ => c3)) 4 (fun _ => c4)) 5 (fun _ => c5)) 6 (fun _ => c6)) 7 (fun _ => c7)) 8 (fun _ => c8)) 13 A) c1 := fun _ _ _ _ _ _ _ _ _ => by rw [hB]
  have hbody0 : ∀ M', x_X10_isPlaceItem_b17 N M' (0 : Int32) = x_X10_isPlaceItem_b17_k34 N M' (0 : Int32) (0 : Int32) (3 : Int32) := fun M' => by
    unfold x_X10_isPlaceItem_b17
    rw [if_neg (show ¬ (2 : Int32) ≤ 0 by decide), if_pos rfl]
  have hbody1 : ∀ M', x_X10_isPlaceItem_b17 N M' (nI (0 + 1)) = x_X10_isPlaceItem_b17_k34 N M' (nI (0 + 1)) (0 : Int32) (99 : Int32) := fun M' => by
    unfold x_X10_isPlaceItem_b17
    rw [if_neg (show ¬ (2 : Int32) ≤ nI (0 + 1) by decide), if_neg (show ¬ nI (0 + 1) = 0 by decide)]
  have hbody2 : ∀ M', x_X10_isPlaceItem_b17 N M' (nI (1 + 1)) = some (.inr (.inr ((M' 2 0), (M' 3 0), (M' 4 0), (M' 5 0), (M' 6 0), (M' 7 0), (M' 8 0), (M' 13)))) := fun M' => by
    unfold x_X10_isPlaceItem_b17
    rw [if_pos (show (2 : Int32) ≤ nI (1 + 1) by decide)]
  obtain ⟨b, e, g1, g2, g⟩ := num_both hN 0 3 (F := F) (M := va_up (va_up (va_up (va_up (va_up (va_up (va_up (va_up M 2 (fun _ => M 2 0)) 3 (fun _ => M 3 0)) 4 (fun _ => M 4 0)) 5 (fun _ => M 5 0)) 6 (fun _ => M 6 0)) 7 (fun _ => M 7 0)) 8 (fun _ => M 8 0)) 13 (M 13)) h
  rcases g with ⟨v, fg, v1, v2, v3, v4, y1, y2⟩ | ⟨k, x, w, k1, y1, y2, y3, y4, y5⟩
  · have s0 := (hB0 0 (M 2 0) (M 3 0) (M 4 0) (M 5 0) (M 6 0) (M 7 0) (M 8 0) (M 13)).trans ((hbody0 _).trans (pk34_ok (x1 := 0) (k := 0) hpl hM (by omega) rfl y2))
    rw [y1]
    simp only [Option.bind_some]
    obtain ⟨b2, e2, q1, q2, q⟩ := num_both hN 0 99 (tx := tx) (len := len) (a := e) (F := va_up (va_up (va_up (va_up F 2 (fun _ => F 2 0)) 3 (fun _ => F 3 0)) 4 (fun _ => nI e)) 5 (fun _ => nI b)) (M := va_up (va_up (va_up (va_up (va_up (va_up (va_up (va_up M 2 (fun _ => nI e)) 3 (fun _ => nI b)) 4 (fun _ => (-1 : Int32))) 5 (fun _ => nI v)) 6 (fun _ => fg)) 7 (fun _ => M 7 0)) 8 (fun _ => M 8 0)) 13 (upd (M 13) (2 * pl + 0) (nI v))) ⟨h.1, g2, h.2.2.1, h.2.2.2.1, f2, rfl, h.2.2.2.2.2.2.1, h.2.2.2.2.2.2.2.1, rfl⟩
    rcases q with ⟨v', fg', v1', v2', v3', v4', y1', y2'⟩ | ⟨k, x, w, k1, y1', y2', y3', y4', y5'⟩
    · have s1 := (hB0 (nI (0 + 1)) (nI e) (nI b) (-1) (nI v) fg (M 7 0) (M 8 0) (upd (M 13) (2 * pl + 0) (nI v))).trans ((hbody1 _).trans (pk34_ok (x1 := nI (0 + 1)) (k := 1) hpl hM (by omega) rfl y2'))
      have s2 := (hB0 (nI (1 + 1)) (nI e2) (nI b2) (-1) (nI v') fg' (M 7 0) (M 8 0) (upd (upd (M 13) (2 * pl + 0) (nI v)) (2 * pl + 1) (nI v'))).trans (hbody2 _)
      rw [y1', lpc_2 (by omega) s0 s1 s2]
      simp only [Option.bind_some, Sum.elim_inr]
      have e9 : M 11 0 + (1 : Int32) = nI (pl + 1) := by rw [hM]; exact nI_add pl 1
      obtain ⟨b3, p1, p2, ⟨z2, z3, z4, z5, p3, p4, p5⟩ | ⟨w, p3, p4, p5, p6, p7⟩⟩ := end_both hN (tx := tx) (len := len) (a := e2) (F := va_up (va_up (va_up (va_up F 2 (fun _ => F 2 0)) 3 (fun _ => F 3 0)) 4 (fun _ => nI e2)) 5 (fun _ => nI b2)) (M := va_up (va_up (va_up (va_up (va_up (va_up (va_up (va_up (va_up M 2 (fun _ => nI e2)) 3 (fun _ => nI b2)) 4 (fun _ => (-1 : Int32))) 5 (fun _ => nI v')) 6 (fun _ => fg')) 7 (fun _ => M 7 0)) 8 (fun _ => M 8 0)) 11 (fun _ => nI (pl + 1))) 13 (upd (upd (M 13) (2 * pl + 0) (nI v)) (2 * pl + 1) (nI v'))) ⟨h.1, q2, h.2.2.1, h.2.2.2.1, f2, rfl, h.2.2.2.2.2.2.1, h.2.2.2.2.2.2.2.1, rfl⟩
      · left
        unfold xl
        rw [e9]
        refine ⟨v, v', b3 + 1, nI b2, z2, z3, z4, z5, num_hi v2 (by omega) v4, num_hi v2' (by omega) v4', by omega, by omega, ?_, ?_⟩
        · refine (congrArg (fun o => Option.bind o _) p4).trans ?_
          show Option.bind (x_X4_addPlace P (nI v) (nI v')) (fun v_5 => some (F 2 0, F 3 0, nI (b3 + 1), nI b2, v_5.1, v_5.2.1, v_5.2.2)) = _
          rw [addPlace_val hpl hP, f2]
          rfl
        · refine (congrArg (fun o => Option.bind o _) p5).trans ?_
          rfl
      · right
        unfold xl
        rw [e9]
        refine ⟨1, b3, b3, (nI 1, nI b3, nI b3, nI b2, P 1 0, P 3, P 4), (w.1, w.2.1, w.2.2.1, w.2.2.2.1, w.2.2.2.2.1, w.2.2.2.2.2.1, w.2.2.2.2.2.2.1, w.2.2.2.2.2.2.2, nI (pl + 1), upd (upd (M 13) (2 * pl + 0) (nI v)) (2 * pl + 1) (nI v')), by omega, p2, ?_, rfl, rfl, rfl, ?_, p5, p6, p7⟩
        · refine (congrArg (fun o => Option.bind o _) p3).trans ?_
          rfl
        · refine (congrArg (fun o => Option.bind o _) p4).trans ?_
          show (if w.1 = 0 ∨ w.1 = 1 then _ else _) = _
          rw [if_pos (Or.inl p5)]
          rfl
    · right
      have hk : 1 ≤ k ∧ k ≤ 4 := by omega
      have s1 := (hB0 (nI (0 + 1)) (nI e) (nI b) (-1) (nI v) fg (M 7 0) (M 8 0) (upd (M 13) (2 * pl + 0) (nI v))).trans ((hbody1 _).trans (pk34_no (x1 := nI (0 + 1)) y2' y3'))
      rw [y1', lpc_1 (by omega) s0 s1]
      simp only [Option.bind_some, Sum.elim_inl]
      rw [closes_no (F := va_up (va_up (va_up (va_up F 2 (fun _ => nI k)) 3 (fun _ => nI b2)) 4 (fun _ => nI e2)) 5 (fun _ => nI b2)) (k_ne hk)]
      exact ⟨k, b2, e2, _, _, hk, q2, rfl, rfl, rfl, rfl, rfl, rfl, y4', y5'⟩
  · right
    have hk : 1 ≤ k ∧ k ≤ 4 := by omega
    have s0 := (hB0 0 (M 2 0) (M 3 0) (M 4 0) (M 5 0) (M 6 0) (M 7 0) (M 8 0) (M 13)).trans ((hbody0 _).trans (pk34_no (x1 := 0) y2 y3))
    rw [y1, lpc_0 (by omega) s0]
    simp only [Option.bind_some, Sum.elim_inl]
    rw [num_no (F := va_up (va_up (va_up (va_up F 2 (fun _ => nI k)) 3 (fun _ => nI b)) 4 (fun _ => nI e)) 5 (fun _ => nI b)) (k_ne hk)]
    simp only [Option.bind_some]
    refine ⟨k, b, e, (nI k, nI b, nI e, nI b, P 1 0, P 3, P 4), _, hk, g2, ?_, rfl, rfl, rfl, rfl, rfl, y4, y5⟩
    refine (congrArg (fun o => Option.bind o _) (closes_no (F := va_up (va_up (va_up (va_up F 2 (fun _ => nI k)) 3 (fun _ => nI b)) 4 (fun _ => nI e)) 5 (fun _ => nI b)) (k_ne hk))).trans ?_
    rfl
