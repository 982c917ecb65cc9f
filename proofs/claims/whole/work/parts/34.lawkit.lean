abbrev swC (C : Nat → St) : Nat → St := va_up (va_up C 2 (C 3)) 3 (C 2)
abbrev swU (u : Nat → Ad) : Nat → Ad := va_up (va_up (va_up u 0 (va_up (va_up (u 0) 1 (u 0 2)) 2 (u 0 1))) 2 (u 3)) 3 (u 2)
abbrev smU (u : Nat → Ad) : Nat → Ad := va_up u 0 (va_up (va_up (u 0) 1 (u 0 1)) 2 (u 0 2))
theorem img_U {u u' : Nat → Ad} (h : ∀ k, 12 ≤ k → u' k = u k) : (fun i => some (u' (12 + i) 7)) = (fun i => some (u (12 + i) 7)) := by
  funext i
  rw [h (12 + i) (by omega)]
theorem P_ri {D : va_G} {cl : List vw_C} {ws : va_W} {H : Heap} {a n : Nat} {c : ClassId} {f f' : Nat → Option Nat} (e : f' = f) (k : Nat) (hk : ws[k]? = some (a, .inl (c, n, .inr (.inr (.inr (.inr f')))))) (h : va_P D cl ws H) : va_P D cl (ws.set k (a, .inl (c, n, .inr (.inr (.inr (.inr f)))))) H := P_rq h k hk (fun j _ => by rw [e])
section WRK
variable {p : Program} {l : Launch} {e : Env} {s : State} {m : MethodId} {below : List Frame} {meth : Method} {c : Code} {g : gG} {A : Nat → Prop} {Q : State → Prop} {cells slots b pc q qm : Nat} {x3 : Int32} {u RQ : Nat → Ad} {C : Nat → St} {CL : Nat → SL} {RF : Nat → St} {Qm : Ad} {M : St} {ML : SL}
set_option maxRecDepth 100000 in
theorem works_same (k : WL p l e s m below meth c g A Q cells slots pc b q qm x3 (smU u) RQ C CL RF Qm M ML) : WLx p l e s m below meth c g A Q cells slots pc b q qm x3 u RQ (u 0 1) (u 0 2) C CL RF Qm M ML := by
  intro H locs ls hP hD hS hl
  have ei := img_U (u := u) (u' := smU u) (fun k hk => if_neg (by omega))
  have hP := P_ri ei.symm 31 rfl hP
  have hD := hD.set (p := 31) (e := .inl (g.2.2.2.2.2, 2, .inr (.inr (.inr (.inr (fun i => some (smU u (12 + i) 7)))))) ) rfl
  exact k H locs ls hP hD hS hl
set_option maxRecDepth 100000 in
theorem works_swap (k : WL p l e s m below meth c g A Q cells slots pc b q qm x3 (swU u) RQ (swC C) CL RF Qm M ML) : WLx p l e s m below meth c g A Q cells slots pc b q qm x3 u RQ (u 0 2) (u 0 1) C CL RF Qm M ML := by
  intro H locs ls hP hD hS hl
  have ei := img_U (u := u) (u' := swU u) (fun k hk => by
    show va_up _ 3 _ k = u k
    simp [va_up, show ¬ k = 3 by omega, show ¬ k = 2 by omega, show ¬ k = 0 by omega])
  have hp : (fCx g q u RQ (u 0 2) (u 0 1) C CL ++ (wX10 g qm Qm M ML ++ pF g 20 RQ RF)).Perm (([oX9 q (va_up (va_up (u 0) 1 (u 0 2)) 2 (u 0 1)) (C 0 10 0), oX5 (u 0 0) (u 1) (C 1 1 0) (C 1 2 0) (C 1 3 0) (C 1 4 0) (C 1 5 0), ia g (u 1 0) 240 (C 1 0)] ++ ([oX4 (u 0 2) (u 3) (C 3 0 0) (C 3 1 0) (C 3 2 0), ia g (u 3 3) 8 (C 3 3), ia g (u 3 4) 8 (C 3 4), ia g (u 3 5) 10 (C 3 5), ia g (u 3 6) 10 (C 3 6), ia g (u 3 7) 10 (C 3 7), ia g (u 3 8) 10 (C 3 8)] ++ ([oX4 (u 0 1) (u 2) (C 2 0 0) (C 2 1 0) (C 2 2 0), ia g (u 2 3) 8 (C 2 3), ia g (u 2 4) 8 (C 2 4), ia g (u 2 5) 10 (C 2 5), ia g (u 2 6) 10 (C 2 6), ia g (u 2 7) 10 (C 2 7), ia g (u 2 8) 10 (C 2 8)] ++ [oX0 (u 0 3) (u 4) (C 4 0 0) (C 4 1 0), ia g (u 4 2) 10 (C 4 2), ia g (u 4 3) 10 (C 4 3), ia g (u 4 4) 8 (C 4 4), ia g (u 4 5) 64 (C 4 5), ia g (u 4 6) 80 (C 4 6), oX0 (u 0 4) (u 5) (C 5 0 0) (C 5 1 0), ia g (u 5 2) 10 (C 5 2), ia g (u 5 3) 10 (C 5 3), ia g (u 5 4) 8 (C 5 4), ia g (u 5 5) 64 (C 5 5), ia g (u 5 6) 80 (C 5 6), oX3 (u 0 5) (u 6) (C 6 0 0) (C 6 1 0), raF g (u 6 2) 20 (fun i => some (RQ i 7)), raI g (u 0 6) 2 (fun i => some (u (12 + i) 7)), oX2 (u 0 7) (u 7) (C 7 0 0) (C 7 1 0), ia g (u 7 2) 6 (C 7 2), ia g (u 7 3) 6 (C 7 3), ia g (u 7 4) 6 (C 7 4), ia g (u 7 5) 15 (C 7 5), ia g (u 7 6) 15 (C 7 6), oX7 (u 0 8) (u 8), oX8 (u 8 0) (u 9), la g (u 9 0) 8 (CL 9 0), la g (u 9 1) 8 (CL 9 1), oX8 (u 8 1) (u 10), la g (u 10 0) 8 (CL 10 0), la g (u 10 1) 8 (CL 10 1), ia g (u 8 2) 10 (C 8 2), ia g (u 8 3) 88 (C 8 3), oX6 (u 0 9) (u 11), ia g (u 11 0) 8 (C 11 0), ia g (u 11 1) 8 (C 11 1), oX1 (u 12 7) (u 12) (C 12 0 0) (C 12 1 0), oX0 (u 12 2) (u 14) (C 14 0 0) (C 14 1 0), ia g (u 14 2) 10 (C 14 2), ia g (u 14 3) 10 (C 14 3), ia g (u 14 4) 8 (C 14 4), ia g (u 14 5) 64 (C 14 5), ia g (u 14 6) 80 (C 14 6), oX1 (u 13 7) (u 13) (C 13 0 0) (C 13 1 0), oX0 (u 13 2) (u 15) (C 15 0 0) (C 15 1 0), ia g (u 15 2) 10 (C 15 2), ia g (u 15 3) 10 (C 15 3), ia g (u 15 4) 8 (C 15 4), ia g (u 15 5) 64 (C 15 5), ia g (u 15 6) 80 (C 15 6)]))) ++ (wX10 g qm Qm M ML ++ pF g 20 RQ RF)) :=
    List.Perm.append_right _ (List.Perm.append_left [oX9 q (va_up (va_up (u 0) 1 (u 0 2)) 2 (u 0 1)) (C 0 10 0), oX5 (u 0 0) (u 1) (C 1 1 0) (C 1 2 0) (C 1 3 0) (C 1 4 0) (C 1 5 0), ia g (u 1 0) 240 (C 1 0)] (List.perm_append_comm_assoc [oX4 (u 0 1) (u 2) (C 2 0 0) (C 2 1 0) (C 2 2 0), ia g (u 2 3) 8 (C 2 3), ia g (u 2 4) 8 (C 2 4), ia g (u 2 5) 10 (C 2 5), ia g (u 2 6) 10 (C 2 6), ia g (u 2 7) 10 (C 2 7), ia g (u 2 8) 10 (C 2 8)] [oX4 (u 0 2) (u 3) (C 3 0 0) (C 3 1 0) (C 3 2 0), ia g (u 3 3) 8 (C 3 3), ia g (u 3 4) 8 (C 3 4), ia g (u 3 5) 10 (C 3 5), ia g (u 3 6) 10 (C 3 6), ia g (u 3 7) 10 (C 3 7), ia g (u 3 8) 10 (C 3 8)] [oX0 (u 0 3) (u 4) (C 4 0 0) (C 4 1 0), ia g (u 4 2) 10 (C 4 2), ia g (u 4 3) 10 (C 4 3), ia g (u 4 4) 8 (C 4 4), ia g (u 4 5) 64 (C 4 5), ia g (u 4 6) 80 (C 4 6), oX0 (u 0 4) (u 5) (C 5 0 0) (C 5 1 0), ia g (u 5 2) 10 (C 5 2), ia g (u 5 3) 10 (C 5 3), ia g (u 5 4) 8 (C 5 4), ia g (u 5 5) 64 (C 5 5), ia g (u 5 6) 80 (C 5 6), oX3 (u 0 5) (u 6) (C 6 0 0) (C 6 1 0), raF g (u 6 2) 20 (fun i => some (RQ i 7)), raI g (u 0 6) 2 (fun i => some (u (12 + i) 7)), oX2 (u 0 7) (u 7) (C 7 0 0) (C 7 1 0), ia g (u 7 2) 6 (C 7 2), ia g (u 7 3) 6 (C 7 3), ia g (u 7 4) 6 (C 7 4), ia g (u 7 5) 15 (C 7 5), ia g (u 7 6) 15 (C 7 6), oX7 (u 0 8) (u 8), oX8 (u 8 0) (u 9), la g (u 9 0) 8 (CL 9 0), la g (u 9 1) 8 (CL 9 1), oX8 (u 8 1) (u 10), la g (u 10 0) 8 (CL 10 0), la g (u 10 1) 8 (CL 10 1), ia g (u 8 2) 10 (C 8 2), ia g (u 8 3) 88 (C 8 3), oX6 (u 0 9) (u 11), ia g (u 11 0) 8 (C 11 0), ia g (u 11 1) 8 (C 11 1), oX1 (u 12 7) (u 12) (C 12 0 0) (C 12 1 0), oX0 (u 12 2) (u 14) (C 14 0 0) (C 14 1 0), ia g (u 14 2) 10 (C 14 2), ia g (u 14 3) 10 (C 14 3), ia g (u 14 4) 8 (C 14 4), ia g (u 14 5) 64 (C 14 5), ia g (u 14 6) 80 (C 14 6), oX1 (u 13 7) (u 13) (C 13 0 0) (C 13 1 0), oX0 (u 13 2) (u 15) (C 15 0 0) (C 15 1 0), ia g (u 15 2) 10 (C 15 2), ia g (u 15 3) 10 (C 15 3), ia g (u 15 4) 8 (C 15 4), ia g (u 15 5) 64 (C 15 5), ia g (u 15 6) 80 (C 15 6)]))
  have hP := P_perm hp hP
  have hD := D_perm hp hD
  have hP := P_ri ei.symm 31 rfl hP
  have hD := hD.set (p := 31) (e := .inl (g.2.2.2.2.2, 2, .inr (.inr (.inr (.inr (fun i => some (swU u (12 + i) 7)))))) ) rfl
  exact k H locs ls hP hD hS hl
end WRK
theorem bz_01 (x : Int32) : bz x = 0 ∨ bz x = 1 := by
  unfold bz
  by_cases h : x = 0
  · rw [if_pos h]; exact Or.inl rfl
  · rw [if_neg h]; exact Or.inr rfl
theorem law_out {L n : Nat} (hL : L ≤ 256) (hn : n ≤ 64) (h : L < 4 * n) : Int32.ofNat L - 4 < nI (4 * n) := by
  have e : (nI L - nI 4).toInt = (L : Int) - (4 : Nat) := pk_sub_toInt (by omega) (by omega)
  have e2 : (nI (4 * n)).toInt = ((4 * n : Nat) : Int) := nI_toInt (by omega)
  show nI L - nI 4 < nI (4 * n)
  rw [Int32.lt_iff_toInt_lt, e, e2]
  omega
theorem law_more {L n : Nat} (hL : L ≤ 256) (hn : n ≤ 64) (h : ¬ Int32.ofNat L - 4 < nI (4 * n)) : 4 * n + 3 < L := by
  have e : (nI L - nI 4).toInt = (L : Int) - (4 : Nat) := pk_sub_toInt (by omega) (by omega)
  have e2 : (nI (4 * n)).toInt = ((4 * n : Nat) : Int) := nI_toInt (by omega)
  have h2 : ¬ nI L - nI 4 < nI (4 * n) := h
  rw [Int32.lt_iff_toInt_lt, e, e2] at h2
  omega
