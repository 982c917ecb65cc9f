/-! the text -/
def TX (tx : Nat → Nat) (len : Nat) (f : Nat → Int32) : Prop := ∀ i, i < len → tx i < 256 ∧ f i = nI (tx i)
def isd (x : Nat) : Prop := 48 ≤ x ∧ x ≤ 57
def SKP (tx : Nat → Nat) (len a b : Nat) : Prop := a ≤ b ∧ b ≤ len ∧ (∀ j, a ≤ j → j < b → tx j = 32) ∧ (b < len → ¬ tx b = 32)
def RUN (tx : Nat → Nat) (len a b : Nat) : Prop := a ≤ b ∧ b ≤ len ∧ (∀ j, a ≤ j → j < b → isd (tx j)) ∧ (b < len → ¬ isd (tx b))
theorem run_ex (P : Nat → Prop) (len : Nat) : ∀ n a, a + n = len → ∃ b, a ≤ b ∧ b ≤ len ∧ (∀ j, a ≤ j → j < b → P j) ∧ (b < len → ¬ P b)
  | 0, a, h => ⟨a, Nat.le_refl _, by omega, fun j h1 h2 => by omega, fun h1 => by omega⟩
  | n + 1, a, h => by
    by_cases hp : P a
    · obtain ⟨b, b1, b2, b3, b4⟩ := run_ex P len n (a + 1) (by omega)
      refine ⟨b, by omega, b2, fun j h1 h2 => ?_, b4⟩
      by_cases hj : j = a
      · rw [hj]; exact hp
      · exact b3 j (by omega) h2
    · exact ⟨a, Nat.le_refl _, by omega, fun j h1 h2 => by omega, fun _ => hp⟩
theorem SKP.ex (tx : Nat → Nat) {len a : Nat} (h : a ≤ len) : ∃ b, SKP tx len a b := run_ex (fun j => tx j = 32) len (len - a) a (by omega)
theorem RUN.ex (tx : Nat → Nat) {len a : Nat} (h : a ≤ len) : ∃ b, RUN tx len a b := run_ex (fun j => isd (tx j)) len (len - a) a (by omega)
/-- the value of the first three figures -/
def vl (tx : Nat → Nat) (b : Nat) : Nat → Nat
  | 0 => 0
  | k + 1 => if k < 3 then vl tx b k * 10 + tx (b + k) - 48 else vl tx b k
theorem vl_bd {tx : Nat → Nat} {b : Nat} : ∀ k, (∀ j, j < k → isd (tx (b + j))) → vl tx b k < 1000 ∧ (k ≤ 2 → vl tx b k < 100) ∧ (k ≤ 1 → vl tx b k < 10) ∧ (k = 0 → vl tx b k = 0)
  | 0, _ => ⟨show 0 < 1000 by decide, fun _ => show 0 < 100 by decide, fun _ => show 0 < 10 by decide, fun _ => rfl⟩
  | k + 1, h => by
    obtain ⟨h1, h2, h3, h4⟩ := vl_bd (tx := tx) (b := b) k (fun j hj => h j (by omega))
    obtain ⟨d1, d2⟩ := h k (by omega)
    show (if k < 3 then vl tx b k * 10 + tx (b + k) - 48 else vl tx b k) < 1000 ∧ (k + 1 ≤ 2 → (if k < 3 then vl tx b k * 10 + tx (b + k) - 48 else vl tx b k) < 100) ∧ (k + 1 ≤ 1 → (if k < 3 then vl tx b k * 10 + tx (b + k) - 48 else vl tx b k) < 10) ∧ _
    by_cases hk : k < 3
    · rw [if_pos hk]
      refine ⟨?_, fun _ => ?_, fun _ => ?_, fun h => absurd h (by omega)⟩
      · have := h2 (by omega); omega
      · have := h3 (by omega); omega
      · have := h4 (by omega); omega
    · rw [if_neg hk]
      exact ⟨h1, fun h => absurd h (by omega), fun h => absurd h (by omega), fun h => absurd h (by omega)⟩
/-! the class's reader -/
theorem cur_lt {tx : Nat → Nat} {len a : Nat} {F : St} (hl : len ≤ 64) (h0 : TX tx len (F 0)) (h1 : F 1 0 = nI len) (h4 : F 4 0 = nI a) (ha : a < len) : x_X5_current F = some (nI (tx a)) := by
  unfold x_X5_current
  rw [h1, h4, if_neg (nI_pos (by omega)), if_neg (nleI ha (by omega)), if_neg (show ¬ (240 : Int32) ≤ nI a from nI_ge (b := 240) (by omega) (by omega)), ix (show a < 240 by omega) (by omega), cl (by omega), (h0 a ha).2]
theorem cur_ge {len a : Nat} {F : St} (hl : len ≤ 64) (h1 : F 1 0 = nI len) (h4 : F 4 0 = nI a) (ha : a = len) : x_X5_current F = some (-1) := by
  unfold x_X5_current
  rw [h1, h4, if_neg (nI_pos (by omega)), if_pos (nI_le (by omega) (by omega))]
theorem skip_val {N : Nat} (hN : 4096 ≤ N) {tx : Nat → Nat} {len a b : Nat} {F : St} (hl : len ≤ 64) (h0 : TX tx len (F 0)) (h1 : F 1 0 = nI len) (h4 : F 4 0 = nI a) (hs : SKP tx len a b) : x_X5_skipBlanks N F = some (nI b) := by
  obtain ⟨s1, s2, s3, s4⟩ := hs
  unfold x_X5_skipBlanks
  rw [h4]
  obtain ⟨x, u1, u2⟩ := lpc_run (body := fun (z : Int32) => x_X5_skipBlanks_b0 N (va_up F 4 (fun _ => z))) (I := fun k z => z = nI (a + k) ∧ a + k ≤ b) (Pst := fun x => x = nI b) (b - a) (fun k z hk hI => by
    obtain ⟨rfl, hle⟩ := hI
    have t1 : (va_up F 4 (fun _ => nI (a + k))) 1 0 = nI len := h1
    have t4 : (va_up F 4 (fun _ => nI (a + k))) 4 0 = nI (a + k) := rfl
    have t0 : TX tx len ((va_up F 4 (fun _ => nI (a + k))) 0) := h0
    unfold x_X5_skipBlanks_b0
    rw [t1, t4]
    by_cases hb : a + k = b
    · right
      by_cases hlen : b = len
      · rw [if_pos (nI_le (by omega) (by omega))]
        exact ⟨_, rfl, by rw [hb]⟩
      · rw [if_neg (nleI (by omega) (by omega)), cur_lt hl t0 t1 t4 (by omega)]
        simp only [Option.bind_some]
        have hlt := (h0 (a + k) (by omega)).1
        rw [if_neg (show ¬ nI (tx (a + k)) = 32 from fun h => s4 (by omega) (by rw [← hb]; exact nI_inj (b := 32) (by omega) (by omega) h))]
        exact ⟨_, rfl, by rw [hb]⟩
    · left
      have e8 : nI (a + k) + (1 : Int32) = nI (a + (k + 1)) := by rw [show (1 : Int32) = nI 1 from rfl, nI_add, Nat.add_assoc]
      rw [if_neg (nleI (by omega) (by omega)), cur_lt hl t0 t1 t4 (by omega)]
      simp only [Option.bind_some]
      rw [if_pos (show nI (tx (a + k)) = 32 by rw [s3 (a + k) (by omega) (by omega)]; rfl), e8]
      exact ⟨_, rfl, by omega, rfl, by omega⟩) (N := N) (z := nI a) (by omega) ⟨rfl, s1⟩
  rw [u1, u2]
  rfl
theorem fig_1 {x : Nat} (h : isd x) : x_X5_isFigure (nI x) = some 1 := by
  obtain ⟨h1, h2⟩ := h
  unfold x_X5_isFigure
  rw [if_neg (show ¬ nI x < 48 from nI_nlt (b := 48) h1 (by omega)), if_neg (show ¬ (57 : Int32) < nI x from nI_nlt (a := 57) h2 (by omega))]
theorem fig_0 {x : Nat} (hx : x < 256) (h : ¬ isd x) : x_X5_isFigure (nI x) = some 0 := by
  unfold x_X5_isFigure
  by_cases h1 : x < 48
  · rw [if_pos (show nI x < 48 from nI_lt (b := 48) h1 (by omega))]
  · rw [if_neg (show ¬ nI x < 48 from nI_nlt (b := 48) (by omega) (by omega)), if_pos (show (57 : Int32) < nI x from nI_lt (a := 57) (Nat.lt_of_not_le (fun h2 => h ⟨by omega, h2⟩)) (by omega))]
theorem figs_val {N : Nat} (hN : 4096 ≤ N) {tx : Nat → Nat} {len b e : Nat} {F : St} {x1 x2 : Int32} (hl : len ≤ 64) (h0 : TX tx len (F 0)) (h1 : F 1 0 = nI len) (hr : RUN tx len b e) : lpc (fun (z : Int32 × Int32) => x_X5_number_b23 N (va_up (va_up F 4 (fun _ => z.2)) 5 (fun _ => nI b)) x1 x2 z.1) N ((0 : Int32), nI b) = some (nI (vl tx b (e - b)), nI e) := by
  obtain ⟨s1, s2, s3, s4⟩ := hr
  obtain ⟨x, u1, u2⟩ := lpc_run (body := fun (z : Int32 × Int32) => x_X5_number_b23 N (va_up (va_up F 4 (fun _ => z.2)) 5 (fun _ => nI b)) x1 x2 z.1) (I := fun k z => z = (nI (vl tx b k), nI (b + k)) ∧ b + k ≤ e) (Pst := fun x => x = (nI (vl tx b (e - b)), nI e)) (e - b) (fun k z hk hI => by
    obtain ⟨rfl, hle⟩ := hI
    dsimp only
    have t1 : (va_up (va_up F 4 (fun _ => nI (b + k))) 5 (fun _ => nI b)) 1 0 = nI len := h1
    have t4 : (va_up (va_up F 4 (fun _ => nI (b + k))) 5 (fun _ => nI b)) 4 0 = nI (b + k) := rfl
    have t5 : (va_up (va_up F 4 (fun _ => nI (b + k))) 5 (fun _ => nI b)) 5 0 = nI b := rfl
    have t0 : TX tx len ((va_up (va_up F 4 (fun _ => nI (b + k))) 5 (fun _ => nI b)) 0) := h0
    unfold x_X5_number_b23
    rw [t1, t4, t5]
    by_cases hb : b + k = e
    · right
      have hke : k = e - b := by omega
      by_cases hlen : e = len
      · rw [if_pos (nI_le (by omega) (by omega))]
        exact ⟨_, rfl, by rw [← hke, hb]⟩
      · rw [if_neg (nleI (by omega) (by omega)), cur_lt hl t0 t1 t4 (by omega)]
        simp only [Option.bind_some]
        rw [fig_0 (h0 (b + k) (by omega)).1 (by rw [hb]; exact s4 (by omega))]
        simp only [Option.bind_some, if_true]
        exact ⟨_, rfl, by rw [← hke, hb]⟩
    · left
      have e8 : nI (b + k) + (1 : Int32) = nI (b + (k + 1)) := by rw [show (1 : Int32) = nI 1 from rfl, nI_add, Nat.add_assoc]
      have ed : nI (b + k) - nI b = nI k := by rw [pk_sub (by omega), Nat.add_sub_cancel_left]
      have hd := s3 (b + k) (by omega) (by omega)
      rw [if_neg (nleI (by omega) (by omega)), cur_lt hl t0 t1 t4 (by omega)]
      simp only [Option.bind_some]
      rw [fig_1 hd]
      simp only [Option.bind_some]
      rw [if_neg z10, ed]
      unfold x_X5_number_b23_k70 xl
      rw [t4, e8]
      refine ⟨(nI (vl tx b (k + 1)), nI (b + (k + 1))), ?_, by omega, rfl, by omega⟩
      have hv : vl tx b (k + 1) = if k < 3 then vl tx b k * 10 + tx (b + k) - 48 else vl tx b k := rfl
      by_cases hk3 : k < 3
      · rw [if_neg (show ¬ (3 : Int32) ≤ nI k from nI_ge (b := 3) hk3 (by omega)), hv, if_pos hk3, show (10 : Int32) = nI 10 from rfl, show (48 : Int32) = nI 48 from rfl, pk_mul, nI_add, pk_sub (by have := hd.1; omega)]
      · rw [if_pos (show (3 : Int32) ≤ nI k from nI_le (a := 3) (by omega) (by omega)), hv, if_neg hk3]) (N := N) (z := ((0 : Int32), nI b)) (by omega) ⟨rfl, s1⟩
  rw [u1, u2]
/-- a number, in the class -/
theorem num_val {N : Nat} (hN : 4096 ≤ N) {tx : Nat → Nat} {len a b e : Nat} {F : St} {x1 x2 : Int32} (hl : len ≤ 64) (h0 : TX tx len (F 0)) (h1 : F 1 0 = nI len) (h2 : F 2 0 = 0) (h4 : F 4 0 = nI a) (hs : SKP tx len a b) (hr : RUN tx len b e) : (e = b → x_X5_number N F x1 x2 = some (nI 0, 1, nI b, nI e, nI b)) ∧ (b < e → (3 < e - b ∨ nI (vl tx b (e - b)) < x1 ∨ ¬ nI (vl tx b (e - b)) ≤ x2) → x_X5_number N F x1 x2 = some (nI (vl tx b (e - b)), 2, nI b, nI e, nI b)) ∧ (b < e → e - b ≤ 3 → ¬ nI (vl tx b (e - b)) < x1 → nI (vl tx b (e - b)) ≤ x2 → x_X5_number N F x1 x2 = some (nI (vl tx b (e - b)), F 2 0, F 3 0, nI e, nI b)) := by
  obtain ⟨s1, s2, s3, s4⟩ := hr
  have ed : nI e - nI b = nI (e - b) := pk_sub s1
  have hd : e - b < 2 ^ 31 := by omega
  have hx := figs_val hN (F := F) (x1 := x1) (x2 := x2) hl h0 h1 ⟨s1, s2, s3, s4⟩
  unfold x_X5_number
  rw [if_pos h2, skip_val hN hl h0 h1 h4 hs]
  simp only [Option.bind_some]
  rw [hx]
  simp only [Option.bind_some]
  unfold xl
  dsimp only
  rw [ed]
  refine ⟨fun heb => ?_, fun hlt hbad => ?_, fun hlt hf h5 h6 => ?_⟩
  · subst heb
    rw [Nat.sub_self, if_pos (show nI 0 = 0 from rfl)]
    rfl
  · rw [if_neg (show ¬ nI (e - b) = 0 from nI_ne0 (by omega) hd)]
    have k127 : x_X5_number_k127 N (va_up (va_up F 4 (fun _ => nI e)) 5 (fun _ => nI b)) (nI (vl tx b (e - b))) = some (nI (vl tx b (e - b)), 2, nI b, nI e, nI b) := rfl
    rw [k127]
    by_cases hf : 3 < e - b
    · rw [if_pos (show (3 : Int32) < nI (e - b) from nI_lt (a := 3) hf hd)]
    · rw [if_neg (show ¬ (3 : Int32) < nI (e - b) from nI_nlt (b := e - b) (a := 3) (by omega) (by omega))]
      by_cases h5 : nI (vl tx b (e - b)) < x1
      · rw [if_pos h5]
      · rw [if_neg h5, if_neg ((hbad.resolve_left hf).resolve_left h5)]
  · rw [if_neg (show ¬ nI (e - b) = 0 from nI_ne0 (by omega) hd), if_neg (show ¬ (3 : Int32) < nI (e - b) from nI_nlt (b := e - b) (a := 3) hf (by omega)), if_neg h5, if_pos h6]
theorem num_no {N : Nat} {F : St} {x1 x2 : Int32} (h2 : ¬ F 2 0 = 0) : x_X5_number N F x1 x2 = some ((0 : Int32), F 2 0, F 3 0, F 4 0, F 5 0) := by
  unfold x_X5_number
  rw [if_neg h2]
theorem closes_no {N : Nat} {F : St} (h2 : ¬ F 2 0 = 0) : x_X5_closes N F = some ((0 : Int32), F 2 0, F 3 0, F 4 0) := by
  unfold x_X5_closes
  rw [if_neg h2]
theorem closes_val {N : Nat} (hN : 4096 ≤ N) {tx : Nat → Nat} {len a b : Nat} {F : St} (hl : len ≤ 64) (h0 : TX tx len (F 0)) (h1 : F 1 0 = nI len) (h2 : F 2 0 = 0) (h4 : F 4 0 = nI a) (hs : SKP tx len a b) : (b < len → tx b = 59 → x_X5_closes N F = some (1, F 2 0, F 3 0, nI (b + 1))) ∧ ((b < len → ¬ tx b = 59) → x_X5_closes N F = some (0, 1, nI b, nI b)) := by
  have t1 : (va_up F 4 (fun _ => nI b)) 1 0 = nI len := h1
  have t4 : (va_up F 4 (fun _ => nI b)) 4 0 = nI b := rfl
  have t0 : TX tx len ((va_up F 4 (fun _ => nI b)) 0) := h0
  have e8 : nI b + (1 : Int32) = nI (b + 1) := nI_add b 1
  have hb := hs.2.1
  unfold x_X5_closes
  rw [if_pos h2, skip_val hN hl h0 h1 h4 hs]
  simp only [Option.bind_some]
  refine ⟨fun h5 h6 => ?_, fun h5 => ?_⟩
  · rw [cur_lt hl t0 t1 t4 h5]
    simp only [Option.bind_some]
    rw [if_pos (show nI (tx b) = 59 by rw [h6]; rfl), e8]
    rfl
  · by_cases hlen : b = len
    · rw [cur_ge hl t1 t4 hlen]
      simp only [Option.bind_some]
      rw [if_neg (show ¬ (-1 : Int32) = 59 by decide)]
      rfl
    · rw [cur_lt hl t0 t1 t4 (by omega)]
      simp only [Option.bind_some]
      rw [if_neg (show ¬ nI (tx b) = 59 from fun h => h5 (by omega) (nI_inj (b := 59) (by have := (h0 b (by omega)).1; omega) (by omega) h))]
      rfl
/-! the reference's tokens -/
theorem rskip_val {N : Nat} (hN : 4096 ≤ N) {tx : Nat → Nat} {len a b : Nat} {M : St} (hl : len ≤ 64) (h1 : TX tx len (M 1)) (h0 : M 0 0 = nI len) (hs : SKP tx len a b) : lpc (fun (z : Int32) => x_X10_nextToken_b0 N (va_up M 2 (fun _ => z))) N (nI a) = some (nI b) := by
  obtain ⟨s1, s2, s3, s4⟩ := hs
  obtain ⟨x, u1, u2⟩ := lpc_run (body := fun (z : Int32) => x_X10_nextToken_b0 N (va_up M 2 (fun _ => z))) (I := fun k z => z = nI (a + k) ∧ a + k ≤ b) (Pst := fun x => x = nI b) (b - a) (fun k z hk hI => by
    obtain ⟨rfl, hle⟩ := hI
    have t0 : (va_up M 2 (fun _ => nI (a + k))) 0 0 = nI len := h0
    have t2 : (va_up M 2 (fun _ => nI (a + k))) 2 0 = nI (a + k) := rfl
    have t1 : (va_up M 2 (fun _ => nI (a + k))) 1 = M 1 := rfl
    unfold x_X10_nextToken_b0
    rw [t0, t2, t1]
    by_cases hb : a + k = b
    · right
      by_cases hlen : b = len
      · rw [if_pos (nI_le (by omega) (by omega))]
        exact ⟨_, rfl, by rw [hb]⟩
      · have hlt := (h1 (a + k) (by omega)).1
        rw [if_neg (nleI (by omega) (by omega)), ix (show a + k < 240 by omega) (by omega), cl (by omega), (h1 (a + k) (by omega)).2, if_neg (show ¬ nI (tx (a + k)) = 32 from fun h => s4 (by omega) (by rw [← hb]; exact nI_inj (b := 32) (by omega) (by omega) h))]
        exact ⟨_, rfl, by rw [hb]⟩
    · left
      have e8 : nI (a + k) + (1 : Int32) = nI (a + (k + 1)) := by rw [show (1 : Int32) = nI 1 from rfl, nI_add, Nat.add_assoc]
      rw [if_neg (nleI (by omega) (by omega)), ix (show a + k < 240 by omega) (by omega), cl (by omega), (h1 (a + k) (by omega)).2, if_pos (show nI (tx (a + k)) = 32 by rw [s3 (a + k) (by omega) (by omega)]; rfl), e8]
      exact ⟨_, rfl, by omega, rfl, by omega⟩) (N := N) (z := nI a) (by omega) ⟨rfl, s1⟩
  rw [u1, u2]
theorem dig_1 {x : Nat} (h : isd x) : x_X10_in (nI x) 48 57 = some 1 := by
  obtain ⟨h1, h2⟩ := h
  exact in_1 (by rw [show (48 : Int32) = nI 48 from rfl, nI_toInt (by omega), nI_toInt (by omega)]; omega) (by rw [show (57 : Int32) = nI 57 from rfl, nI_toInt (by omega), nI_toInt (by omega)]; omega)
theorem dig_0 {x : Nat} (hx : x < 256) (h : ¬ isd x) : x_X10_in (nI x) 48 57 = some 0 := by
  refine in_0 ?_
  rw [show (48 : Int32) = nI 48 from rfl, show (57 : Int32) = nI 57 from rfl, nI_toInt (by omega), nI_toInt (by omega), nI_toInt (by omega)]
  unfold isd at h
  omega
theorem rfigs_val {N : Nat} (hN : 4096 ≤ N) {tx : Nat → Nat} {len b e : Nat} {M : St} {v5 : Int32} (hl : len ≤ 64) (h1 : TX tx len (M 1)) (h0 : M 0 0 = nI len) (hr : RUN tx len b e) : lpc (fun (z : Int32 × Int32 × Int32) => x_X10_nextToken_b95 N (va_up (va_up (va_up (va_up M 2 (fun _ => z.1)) 3 (fun _ => v5)) 5 (fun _ => z.2.1)) 6 (fun _ => z.2.2))) N (nI b, (0 : Int32), (0 : Int32)) = some (nI e, nI (vl tx b (e - b)), nI (e - b)) := by
  obtain ⟨s1, s2, s3, s4⟩ := hr
  obtain ⟨x, u1, u2⟩ := lpc_run (body := fun (z : Int32 × Int32 × Int32) => x_X10_nextToken_b95 N (va_up (va_up (va_up (va_up M 2 (fun _ => z.1)) 3 (fun _ => v5)) 5 (fun _ => z.2.1)) 6 (fun _ => z.2.2))) (I := fun k z => z = (nI (b + k), nI (vl tx b k), nI k) ∧ b + k ≤ e) (Pst := fun x => x = (nI e, nI (vl tx b (e - b)), nI (e - b))) (e - b) (fun k z hk hI => by
    obtain ⟨rfl, hle⟩ := hI
    dsimp only
    obtain ⟨M', hM'⟩ : ∃ M', M' = va_up (va_up (va_up (va_up M 2 (fun _ => nI (b + k))) 3 (fun _ => v5)) 5 (fun _ => nI (vl tx b k))) 6 (fun _ => nI k) := ⟨_, rfl⟩
    have t0 : M' 0 0 = nI len := by rw [hM']; exact h0
    have t1 : M' 1 = M 1 := by rw [hM']; rfl
    have t2 : M' 2 0 = nI (b + k) := by rw [hM']; rfl
    have t5 : M' 5 0 = nI (vl tx b k) := by rw [hM']; rfl
    have t6 : M' 6 0 = nI k := by rw [hM']; rfl
    rw [← hM']
    unfold x_X10_nextToken_b95
    rw [t0, t1, t2, t5, t6]
    by_cases hb : b + k = e
    · right
      have hke : k = e - b := by omega
      by_cases hlen : e = len
      · rw [if_pos (nI_le (by omega) (by omega))]
        exact ⟨_, rfl, by rw [← hke, hb]⟩
      · rw [if_neg (nleI (by omega) (by omega)), ix (show b + k < 240 by omega) (by omega), cl (by omega), (h1 (b + k) (by omega)).2, dig_0 (h1 (b + k) (by omega)).1 (by rw [hb]; exact s4 (by omega))]
        simp only [Option.bind_some, if_true]
        exact ⟨_, rfl, by rw [← hke, hb]⟩
    · left
      have e8 : nI (b + k) + (1 : Int32) = nI (b + (k + 1)) := by rw [show (1 : Int32) = nI 1 from rfl, nI_add, Nat.add_assoc]
      have e9 : nI k + (1 : Int32) = nI (k + 1) := nI_add k 1
      have hd := s3 (b + k) (by omega) (by omega)
      rw [if_neg (nleI (by omega) (by omega)), ix (show b + k < 240 by omega) (by omega), cl (by omega), (h1 (b + k) (by omega)).2, dig_1 hd]
      simp only [Option.bind_some]
      have i240 : ¬ (nI (b + k) < 0 ∨ 240 ≤ b + k) := by have := nI_in (c := b + k) (N := 240) (by omega) (by omega); rwa [cl (by omega)] at this
      rw [if_neg z10, if_neg i240]
      unfold x_X10_nextToken_b95_k161 xl
      rw [t2, t6, e8, e9]
      refine ⟨(nI (b + (k + 1)), nI (vl tx b (k + 1)), nI (k + 1)), ?_, by omega, rfl, by omega⟩
      have hv : vl tx b (k + 1) = if k < 3 then vl tx b k * 10 + tx (b + k) - 48 else vl tx b k := rfl
      by_cases hk3 : k < 3
      · rw [if_neg (show ¬ (3 : Int32) ≤ nI k from nI_ge (b := 3) hk3 (by omega)), hv, if_pos hk3, show (10 : Int32) = nI 10 from rfl, show (48 : Int32) = nI 48 from rfl, pk_mul, nI_add, pk_sub (by have := hd.1; omega), Nat.mul_comm 10]
      · rw [if_pos (show (3 : Int32) ≤ nI k from nI_le (a := 3) (by omega) (by omega)), hv, if_neg hk3]) (N := N) (z := (nI b, (0 : Int32), (0 : Int32))) (by omega) ⟨rfl, s1⟩
  rw [u1, u2]
theorem tok_val {N : Nat} (hN : 4096 ≤ N) {tx : Nat → Nat} {len a b e : Nat} {M : St} (hl : len ≤ 64) (h1 : TX tx len (M 1)) (h0 : M 0 0 = nI len) (h2 : M 2 0 = nI a) (hs : SKP tx len a b) (hr : RUN tx len b e) : (b = len → x_X10_nextToken N M = some (nI b, nI b, -2, 0, 0)) ∧ (b < e → x_X10_nextToken N M = some (nI e, nI b, -1, nI (vl tx b (e - b)), nI (e - b))) ∧ (b < len → e = b → x_X10_nextToken N M = some (nI (b + 1), nI b, nI (tx b), 0, 0)) := by
  have hsb := hs.2.1
  have hx := rfigs_val hN (M := M) (v5 := nI b) hl h1 h0 hr
  obtain ⟨s1, s2, s3, s4⟩ := hr
  unfold x_X10_nextToken
  rw [h2, rskip_val hN hl h1 h0 hs, h0]
  simp only [Option.bind_some]
  refine ⟨fun hlen => ?_, fun hlt => ?_, fun hlt heb => ?_⟩
  · rw [if_pos (congrArg nI hlen)]
  · rw [if_neg (fun h => by have := nI_inj (by omega) (by omega) h; omega), ix (show b < 240 by omega) (by omega), cl (by omega), (h1 b (by omega)).2, dig_1 (s3 b (by omega) hlt)]
    simp only [Option.bind_some]
    rw [if_neg z10, hx]
    rfl
  · have i240 : ¬ (nI b < 0 ∨ 240 ≤ b) := by have := nI_in (c := b) (N := 240) (by omega) (by omega); rwa [cl (by omega)] at this
    have e8 : nI b + (1 : Int32) = nI (b + 1) := nI_add b 1
    rw [if_neg (fun h => by have := nI_inj (by omega) (by omega) h; omega), cl (by omega), if_neg i240, (h1 b (by omega)).2, dig_0 (h1 b (by omega)).1 (by rw [← heb]; exact s4 (by omega))]
    simp only [Option.bind_some, if_true]
    rw [if_neg i240, e8]
    rfl
