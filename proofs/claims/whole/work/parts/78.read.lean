/-! two loops, the first of which sees a fault one step later -/
theorem lpc_sim3 {σ ε σ' ε' : Type} {b1 : σ → Option (σ ⊕ ε)} {b2 : σ' → Option (σ' ⊕ ε')} (I : Nat → σ → σ' → Prop) (Pst : ε → ε' → Prop) (K : Nat) (hstep : ∀ k z z', k ≤ K → I k z z' → (∃ y y', b1 z = some (.inl y) ∧ b2 z' = some (.inl y') ∧ k < K ∧ I (k + 1) y y') ∨ (∃ x x', b1 z = some (.inr x) ∧ b2 z' = some (.inr x') ∧ Pst x x') ∨ (∃ y x x', b1 z = some (.inl y) ∧ b1 y = some (.inr x) ∧ b2 z' = some (.inr x') ∧ Pst x x')) {N : Nat} {z : σ} {z' : σ'} (hN : K + 1 < N) (h0 : I 0 z z') : ∃ x x', lpc b1 N z = some x ∧ lpc b2 N z' = some x' ∧ Pst x x' := by
  have key : ∀ (n k : Nat) (z : σ) (z' : σ') (N : Nat), k + n = K → n + 1 < N → I k z z' → ∃ x x', lpc b1 N z = some x ∧ lpc b2 N z' = some x' ∧ Pst x x' := by
    intro n
    induction n with
    | zero =>
      intro k z z' N hk hN hI
      obtain ⟨N, rfl⟩ : ∃ N', N = N' + 2 := ⟨N - 2, by omega⟩
      rcases hstep k z z' (by omega) hI with ⟨y, y', h1, h2, h3, h4⟩ | ⟨x, x', h1, h2, h3⟩ | ⟨y, x, x', h1, h2, h3, h4⟩
      · omega
      · exact ⟨x, x', by simp only [lpc, h1, Option.bind_some], by simp only [lpc, h2, Option.bind_some], h3⟩
      · exact ⟨x, x', by simp only [lpc, h1, h2, Option.bind_some], by simp only [lpc, h3, Option.bind_some], h4⟩
    | succ n ih =>
      intro k z z' N hk hN hI
      obtain ⟨N, rfl⟩ : ∃ N', N = N' + 2 := ⟨N - 2, by omega⟩
      rcases hstep k z z' (by omega) hI with ⟨y, y', h1, h2, h3, h4⟩ | ⟨x, x', h1, h2, h3⟩ | ⟨y, x, x', h1, h2, h3, h4⟩
      · obtain ⟨x, x', h5, h6, h7⟩ := ih (k + 1) y y' (N + 1) (by omega) (by omega) h4
        exact ⟨x, x', by rw [lpc, h1, Option.bind_some]; exact h5, by rw [lpc, h2, Option.bind_some]; exact h6, h7⟩
      · exact ⟨x, x', by simp only [lpc, h1, Option.bind_some], by simp only [lpc, h2, Option.bind_some], h3⟩
      · exact ⟨x, x', by simp only [lpc, h1, h2, Option.bind_some], by simp only [lpc, h3, Option.bind_some], h4⟩
  exact key K 0 z z' N (by omega) hN h0
theorem tokS {N : Nat} (hN : 4096 ≤ N) {tx : Nat → Nat} {len e a : Nat} {M : St} (hl : len ≤ 64) (h1 : TX tx len (M 1)) (h0 : M 0 0 = nI len) (h2 : M 2 0 = nI e) (hs : SKP tx len e a) : ∃ t, x_X10_nextToken N M = some t ∧ TOK tx len a t.1 t.2.1 t.2.2.1 := by
  obtain ⟨c, hr⟩ := RUN.ex tx hs.2.1
  obtain ⟨t1, t2, t3⟩ := tok_val hN hl h1 h0 h2 hs hr
  have hsb := hs.2.1
  by_cases hlen : a = len
  · exact ⟨_, t1 hlen, Or.inl ⟨hlen, rfl⟩⟩
  · by_cases hca : c = a
    · refine ⟨_, t3 (by omega) hca, Or.inr ⟨by omega, rfl, Or.inr ⟨?_, rfl, rfl⟩⟩⟩
      have := hr.2.2.2 (by omega)
      rwa [hca] at this
    · have hlt : a < c := by have := hr.1; omega
      exact ⟨_, t2 hlt, Or.inr ⟨by omega, rfl, Or.inl ⟨hr.2.2.1 a (Nat.le_refl _) hlt, rfl⟩⟩⟩
/-- what the reading gives, in the class and in the reference -/
def RDp (x : Int32 × Int32 × Int32 × Int32 × Int32 × Int32 × Int32 × (Nat → Int32) × (Nat → Int32) × (Nat → Int32) × (Nat → Int32) × (Nat → Int32) × (Nat → Int32)) (y : Int32 × Int32 × Int32 × Int32 × Int32 × Int32 × Int32 × Int32 × Int32 × Int32 × Int32 × (Nat → Int32) × (Nat → Int32)) : Prop :=
  ∃ pl ch D, PRt pl ch D x.2.2.2.2.1 x.2.2.2.2.2.1 x.2.2.2.2.2.2.1 x.2.2.2.2.2.2.2.1 x.2.2.2.2.2.2.2.2.1 x.2.2.2.2.2.2.2.2.2.1 x.2.2.2.2.2.2.2.2.2.2.1 x.2.2.2.2.2.2.2.2.2.2.2.1 x.2.2.2.2.2.2.2.2.2.2.2.2 y.2.2.2.2.2.2.2.2.1 y.2.2.2.2.2.2.2.2.2.1 y.2.2.2.2.2.2.2.2.2.2.1 y.2.2.2.2.2.2.2.2.2.2.2.1 y.2.2.2.2.2.2.2.2.2.2.2.2
theorem read_both {N : Nat} (hN : 4096 ≤ N) {tx : Nat → Nat} {len : Nat} {F M P : St} (hl : len ≤ 64) (f0 : TX tx len (F 0)) (f1 : F 1 0 = nI len) (m1 : TX tx len (M 1)) (m0 : M 0 0 = nI len) : (∃ x y, x_X5_read N F P = some ((0 : Int32), x) ∧ x_X10_isRead N M = some ((1 : Int32), y) ∧ x.1 = 0 ∧ x.2.1 = -1 ∧ RDp x y) ∨ (∃ x y k b, x_X5_read N F P = some ((0 : Int32), x) ∧ x_X10_isRead N M = some ((0 : Int32), y) ∧ (1 ≤ k ∧ k ≤ 4) ∧ x.1 = nI k ∧ x.2.1 = nI b ∧ y.2.2.2.2.2.1 = nI b ∧ y.2.2.2.2.2.2.1 = nI k) := by
  obtain ⟨a0, hs0⟩ := SKP.ex tx (Nat.zero_le len)
  obtain ⟨t, ht1, ht2⟩ := tokS hN (M := va_up (va_up (va_up (va_up (va_up M 2 (fun _ => (0 : Int32))) 9 (fun _ => (0 : Int32))) 10 (fun _ => (0 : Int32))) 11 (fun _ => (0 : Int32))) 12 (fun _ => (0 : Int32))) hl m1 m0 rfl hs0
  have hsk0 := skip_val hN (F := va_up (va_up (va_up F 2 (fun _ => (0 : Int32))) 3 (fun _ => (-1 : Int32))) 4 (fun _ => (0 : Int32))) hl f0 f1 rfl hs0
  obtain ⟨x, x', u1, u2, u3⟩ := lpc_sim3 (b1 := fun (z : Int32 × Int32 × Int32 × Int32 × Int32 × Int32 × Int32 × Int32 × (Nat → Int32) × (Nat → Int32) × (Nat → Int32) × (Nat → Int32) × (Nat → Int32) × (Nat → Int32)) => x_X5_read_b25 N (va_up (va_up (va_up (va_up F 2 (fun _ => z.2.1)) 3 (fun _ => z.2.2.1)) 4 (fun _ => z.2.2.2.1)) 5 (fun _ => z.2.2.2.2.1)) (va_up (va_up (va_up (va_up (va_up (va_up (va_up (va_up (va_up P 0 (fun _ => z.2.2.2.2.2.1)) 1 (fun _ => z.2.2.2.2.2.2.1)) 2 (fun _ => z.2.2.2.2.2.2.2.1)) 3 z.2.2.2.2.2.2.2.2.1) 4 z.2.2.2.2.2.2.2.2.2.1) 5 z.2.2.2.2.2.2.2.2.2.2.1) 6 z.2.2.2.2.2.2.2.2.2.2.2.1) 7 z.2.2.2.2.2.2.2.2.2.2.2.2.1) 8 z.2.2.2.2.2.2.2.2.2.2.2.2.2) z.1)
    (b2 := fun (z : Int32 × Int32 × Int32 × Int32 × Int32 × Int32 × Int32 × Int32 × Int32 × Int32 × Int32 × (Nat → Int32) × (Nat → Int32)) => x_X10_isRead_b29 N (va_up (va_up (va_up (va_up (va_up (va_up (va_up (va_up (va_up (va_up (va_up (va_up (va_up M 2 (fun _ => z.1)) 3 (fun _ => z.2.1)) 4 (fun _ => z.2.2.1)) 5 (fun _ => z.2.2.2.1)) 6 (fun _ => z.2.2.2.2.1)) 7 (fun _ => z.2.2.2.2.2.1)) 8 (fun _ => z.2.2.2.2.2.2.1)) 9 (fun _ => z.2.2.2.2.2.2.2.1)) 10 (fun _ => z.2.2.2.2.2.2.2.2.1)) 11 (fun _ => z.2.2.2.2.2.2.2.2.2.1)) 12 (fun _ => z.2.2.2.2.2.2.2.2.2.2.1)) 13 z.2.2.2.2.2.2.2.2.2.2.2.1) 14 z.2.2.2.2.2.2.2.2.2.2.2.2))
    (I := fun k z z' => z.1 = nI k ∧ z.2.1 = 0 ∧ z.2.2.1 = -1 ∧ (∃ a, k ≤ a ∧ a ≤ len ∧ z.2.2.2.1 = nI a ∧ TOK tx len a z'.1 z'.2.1 z'.2.2.1) ∧ RDp z.2 z' ∧ HM z'.2.2.2.2.2.2.2.1 z.2.2.2.2.2.1)
    (Pst := fun x x' => (∃ y, x' = .inr y ∧ x.1 = 0 ∧ x.2.1 = -1 ∧ RDp x y) ∨ (∃ y k b, x' = .inl y ∧ (1 ≤ k ∧ k ≤ 4) ∧ x.1 = nI k ∧ x.2.1 = nI b ∧ y.2.2.2.2.2.1 = nI b ∧ y.2.2.2.2.2.2.1 = nI k)) len (fun k z z' hk hI => by
      obtain ⟨z0, z1, z2, z3, z4, p0, p1, p2, p3, p4, p5, p6, p7, p8⟩ := z
      obtain ⟨c2, c3, c4, c5, c6, c7, c8, c9, c10, c11, c12, c13, c14⟩ := z'
      obtain ⟨h0, h1, h2, ⟨a, ha1, ha2, h3, htok⟩, ⟨pl, ch, D, hPR⟩, hm⟩ := hI
      dsimp only at h0 h1 h2 h3 htok hPR hm
      subst h0 h1 h2 h3
      obtain ⟨F', hF'⟩ : ∃ F', F' = va_up (va_up (va_up (va_up F 2 (fun _ => (0 : Int32))) 3 (fun _ => (-1 : Int32))) 4 (fun _ => nI a)) 5 (fun _ => z4) := ⟨_, rfl⟩
      obtain ⟨P', hP'⟩ : ∃ P', P' = va_up (va_up (va_up (va_up (va_up (va_up (va_up (va_up (va_up P 0 (fun _ => p0)) 1 (fun _ => p1)) 2 (fun _ => p2)) 3 p3) 4 p4) 5 p5) 6 p6) 7 p7) 8 p8 := ⟨_, rfl⟩
      obtain ⟨M', hM'⟩ : ∃ M', M' = va_up (va_up (va_up (va_up (va_up (va_up (va_up (va_up (va_up (va_up (va_up (va_up (va_up M 2 (fun _ => c2)) 3 (fun _ => c3)) 4 (fun _ => c4)) 5 (fun _ => c5)) 6 (fun _ => c6)) 7 (fun _ => c7)) 8 (fun _ => c8)) 9 (fun _ => c9)) 10 (fun _ => c10)) 11 (fun _ => c11)) 12 (fun _ => c12)) 13 c13) 14 c14 := ⟨_, rfl⟩
      dsimp only
      rw [← hF', ← hP', ← hM']
      have g0 : TX tx len (F' 0) := by rw [hF']; exact f0
      have g1 : F' 1 0 = nI len := by rw [hF']; exact f1
      have g2 : F' 2 0 = 0 := by rw [hF']; rfl
      have g3 : F' 3 0 = -1 := by rw [hF']; rfl
      have g4 : F' 4 0 = nI a := by rw [hF']; rfl
      have n1 : TX tx len (M' 1) := by rw [hM']; exact m1
      have n0 : M' 0 0 = nI len := by rw [hM']; exact m0
      have n2 : M' 2 0 = c2 := by rw [hM']; rfl
      have n3 : M' 3 0 = c3 := by rw [hM']; rfl
      have n4 : M' 4 0 = c4 := by rw [hM']; rfl
      have hPR' : PR pl ch D P' (M' 10 0) (M' 11 0) (M' 12 0) (M' 13) (M' 14) := by rw [hP', hM']; exact hPR
      have hm' : HM (M' 9 0) (P' 0 0) := by rw [hP', hM']; exact hm
      unfold x_X5_read_b25 x_X10_isRead_b29
      rw [g1, g2, g3, g4, n4]
      rw [if_neg (show ¬ (240 : Int32) ≤ nI k from nI_ge (b := 240) (by omega) (by omega))]
      rcases htok with ⟨t1, t2⟩ | ⟨t1, t2, t3⟩
      · right; left
        rw [if_pos (nI_le (by omega) (by omega)), if_pos t2]
        refine ⟨_, _, rfl, rfl, Or.inl ⟨_, rfl, rfl, rfl, pl, ch, D, ?_⟩⟩
        rw [hP', hM']
        exact hPR
      · have hne2 : ¬ c4 = -2 := by
          rcases t3 with ⟨_, t4⟩ | ⟨_, t4, _⟩
          · rw [t4]; decide
          · rw [t4]
            intro h9
            have h10 := congrArg Int32.toInt h9
            rw [nI_toInt (by have := (n1 a t1).1; omega)] at h10
            have : ((-2 : Int32)).toInt = -2 := by decide
            omega
        rw [if_neg (nleI t1 (by omega)), if_pos rfl, if_neg hne2]
        obtain ⟨v, w, q1, q2, q3⟩ := clause_both hN (F := F') (M := M') (P := P') hl t1 g0 g1 g2 g4 n1 n0 (n3.trans t2) (by
          rcases t3 with ⟨t4, t5⟩ | ⟨t4, t5, t6⟩
          · exact Or.inl ⟨t4, n4.trans t5⟩
          · exact Or.inr ⟨t4, n4.trans t5, n2.trans t6⟩) hPR' hm'
        rw [q1, q2]
        simp only [Option.bind_some]
        rcases q3 with ⟨v1, v2, w1, ⟨e, e1, e2, e3, e4⟩, ⟨pl', ch', D', v5⟩, v6⟩ | ⟨w1, kk, b, e, k1, e2, v1, v2, v3, w2, w3⟩
        · left
          obtain ⟨a', hs⟩ := SKP.ex tx e2
          have hsk := skip_val hN (F := va_up (va_up (va_up (va_up F' 2 (fun _ => v.1)) 3 (fun _ => v.2.1)) 4 (fun _ => v.2.2.1)) 5 (fun _ => v.2.2.2.1)) hl g0 g1 e3 hs
          obtain ⟨tt, tt1, tt2⟩ := tokS hN (M := va_up (va_up (va_up (va_up (va_up (va_up (va_up (va_up (va_up (va_up (va_up (va_up (va_up M' 2 (fun _ => w.2.1)) 3 (fun _ => w.2.2.1)) 4 (fun _ => w.2.2.2.1)) 5 (fun _ => w.2.2.2.2.1)) 6 (fun _ => w.2.2.2.2.2.1)) 7 (fun _ => w.2.2.2.2.2.2.1)) 8 (fun _ => w.2.2.2.2.2.2.2.1)) 9 (fun _ => w.2.2.2.2.2.2.2.2.1)) 10 (fun _ => w.2.2.2.2.2.2.2.2.2.1)) 11 (fun _ => w.2.2.2.2.2.2.2.2.2.2.1)) 12 (fun _ => w.2.2.2.2.2.2.2.2.2.2.2.1)) 13 w.2.2.2.2.2.2.2.2.2.2.2.2.1) 14 w.2.2.2.2.2.2.2.2.2.2.2.2.2) hl n1 n0 e4 hs
          rw [hsk, tt1, if_neg (show ¬ w.1 = 0 by rw [w1]; exact z10)]
          have ek : nI k + (1 : Int32) = nI (k + 1) := nI_add k 1
          have h11 := hs.1
          refine ⟨_, _, rfl, rfl, by omega, ek, v1, v2.trans g3, ⟨a', by omega, hs.2.1, rfl, tt2⟩, ⟨pl', ch', D', v5⟩, v6⟩
        · right; right
          obtain ⟨a', hs⟩ := SKP.ex tx e2
          have hsk := skip_val hN (F := va_up (va_up (va_up (va_up F' 2 (fun _ => v.1)) 3 (fun _ => v.2.1)) 4 (fun _ => v.2.2.1)) 5 (fun _ => v.2.2.2.1)) hl g0 g1 v3 hs
          have ek : nI k + (1 : Int32) = nI (k + 1) := nI_add k 1
          rw [hsk, if_pos w1]
          simp only [Option.bind_some]
          refine ⟨_, (v.1, v.2.1, nI a', v.2.2.2.1, v.2.2.2.2.1, v.2.2.2.2.2.1, v.2.2.2.2.2.2.1, v.2.2.2.2.2.2.2.1, v.2.2.2.2.2.2.2.2.1, v.2.2.2.2.2.2.2.2.2.1, v.2.2.2.2.2.2.2.2.2.2.1, v.2.2.2.2.2.2.2.2.2.2.2.1, v.2.2.2.2.2.2.2.2.2.2.2.2), _, rfl, ?_, rfl, Or.inr ⟨_, kk, b, rfl, k1, v1, v2, w2, w3⟩⟩
          dsimp only
          rw [ek, if_neg (show ¬ (240 : Int32) ≤ nI (k + 1) from nI_ge (b := 240) (by omega) (by omega))]
          have hk0 : ¬ v.1 = 0 := by rw [v1]; exact k_ne k1
          show (if F 1 0 ≤ nI a' then _ else if v.1 = 0 then _ else _) = _
          rw [if_neg hk0]
          split <;> rfl) (N := N) (z := ((0 : Int32), (0 : Int32), (-1 : Int32), nI a0, (F 5 0), (0 : Int32), (0 : Int32), (0 : Int32), (P 3), (P 4), (P 5), (P 6), (P 7), (P 8))) (z' := (t.1, t.2.1, t.2.2.1, t.2.2.2.1, t.2.2.2.2, (M 7 0), (M 8 0), (0 : Int32), (0 : Int32), (0 : Int32), (0 : Int32), (M 13), (M 14))) (by omega) ⟨rfl, rfl, rfl, ⟨a0, by omega, hs0.2.1, rfl, ht2⟩, ⟨0, 0, fun _ _ => 0, by omega, by omega, rfl, rfl, rfl, rfl, rfl, fun i hi => absurd hi (Nat.not_lt_zero i), fun i hi => absurd hi (Nat.not_lt_zero i), fun i hi => absurd hi (Nat.not_lt_zero i), fun i j _ hi => absurd hi (Nat.not_lt_zero j), fun i hi => absurd hi (Nat.not_lt_zero i)⟩, Or.inl ⟨rfl, rfl⟩⟩
  have hcl : x_X5_read N F P = some ((0 : Int32), x) := by
    unfold x_X5_read x_X4_wipe
    simp only [Option.bind_some]
    rw [hsk0]
    simp only [Option.bind_some]
    rw [u1]
    rfl
  rcases u3 with ⟨y, y1, y2, y3, y4⟩ | ⟨y, k, b, y1, y2, y3, y4, y5, y6⟩
  · left
    refine ⟨x, y, hcl, ?_, y2, y3, y4⟩
    unfold x_X10_isRead
    rw [ht1]
    simp only [Option.bind_some]
    rw [u2, y1]
    rfl
  · right
    refine ⟨x, y, k, b, hcl, ?_, y2, y3, y4, y5, y6⟩
    unfold x_X10_isRead
    rw [ht1]
    simp only [Option.bind_some]
    rw [u2, y1]
    rfl
