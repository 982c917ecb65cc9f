def x_X10_layComes_b3_k29 (N : Nat) (F_t : St) (x1 : Int32) (x2 : Int32) (x3 : Int32) (x4 : Int32) (x5 : Int32) (s1 : Int32) (s2 : Int32) : Option ((Int32 × (Nat → Int32)) ⊕ ((Nat → Int32))) :=
  if s1 < 0 ∨ 8 ≤ s1.toNatClampNeg then none else some (.inl ((x5 + (1 : Int32)), (upd (F_t 32) s1.toNatClampNeg s2)))
set_option maxHeartbeats 4000000 in
set_option maxRecDepth 100000 in
theorem t_X10_layComes_b3_k29 {p : Program} {l : Launch} {e : Env} {s : State} {m : MethodId} {args : Array Value} {below : List Frame} {meth : Method} {c : Code} {g : gG} {A : Nat → Prop} {Q : State → Prop} (E : En p s m args meth c g A cX10_layComes 11 (.code yX10_layComes cX10_layComes 11 none :: gW) RX10 none) (q_t : Nat) (Q_t : Ad) (N : Nat) (F_t : St) (x1 : Int32) (x2 : Int32) (x3 : Int32) (x4 : Int32) (x5 : Int32) (s1 : Int32) (s2 : Int32) (o : (Int32 × (Nat → Int32)) ⊕ ((Nat → Int32))) (h : x_X10_layComes_b3_k29 N F_t x1 x2 x3 x4 x5 s1 s2 = some o) (hc : ∀ z, o = .inl z → WA p l e (rM 1 23) s m args below meth c g A Q 11 3 [oX10 q_t Q_t (F_t 0 0) (F_t 2 0) (F_t 3 0) (F_t 4 0) (F_t 5 0) (F_t 6 0) (F_t 7 0) (F_t 8 0) (F_t 9 0) (F_t 10 0) (F_t 11 0) (F_t 12 0) (F_t 15 0) (F_t 16 0) (F_t 17 0) (F_t 23 0) (F_t 27 0) (F_t 28 0) (F_t 30 0), ia g (Q_t 18) 16 (F_t 18), ia g (Q_t 19) 30 (F_t 19), ia g (Q_t 20) 174 (F_t 20), ia g (Q_t 32) 8 z.2, ia g (Q_t 33) 8 (F_t 33)] [(0, .ref q_t), (1, .int x1), (2, .int x2), (3, .int x3), (4, .int x4), (5, .int z.1)] []) (he : ∀ v, o = .inr v → WA p l e (rM 1 23) s m args below meth c g A Q 11 36 [oX10 q_t Q_t (F_t 0 0) (F_t 2 0) (F_t 3 0) (F_t 4 0) (F_t 5 0) (F_t 6 0) (F_t 7 0) (F_t 8 0) (F_t 9 0) (F_t 10 0) (F_t 11 0) (F_t 12 0) (F_t 15 0) (F_t 16 0) (F_t 17 0) (F_t 23 0) (F_t 27 0) (F_t 28 0) (F_t 30 0), ia g (Q_t 18) 16 (F_t 18), ia g (Q_t 19) 30 (F_t 19), ia g (Q_t 20) 174 (F_t 20), ia g (Q_t 32) 8 v, ia g (Q_t 33) 8 (F_t 33)] [(0, .ref q_t), (1, .int x1), (2, .int x2), (3, .int x3), (4, .int x4)] []) : WA p l e (rM 1 23) s m args below meth c g A Q 11 29 [oX10 q_t Q_t (F_t 0 0) (F_t 2 0) (F_t 3 0) (F_t 4 0) (F_t 5 0) (F_t 6 0) (F_t 7 0) (F_t 8 0) (F_t 9 0) (F_t 10 0) (F_t 11 0) (F_t 12 0) (F_t 15 0) (F_t 16 0) (F_t 17 0) (F_t 23 0) (F_t 27 0) (F_t 28 0) (F_t 30 0), ia g (Q_t 18) 16 (F_t 18), ia g (Q_t 19) 30 (F_t 19), ia g (Q_t 20) 174 (F_t 20), ia g (Q_t 32) 8 (F_t 32), ia g (Q_t 33) 8 (F_t 33)] [(0, .ref q_t), (1, .int x1), (2, .int x2), (3, .int x3), (4, .int x4), (5, .int x5)] [.int s2, .int s1, .ref (Q_t 32)] := by
  obtain ⟨⟨hx, hb, hml, hown, hts⟩, hr, hK, hA, hlk⟩ := id E
  intro H locs ls hP hD hS hl
  obtain ⟨hi_1, h⟩ := ox_chk h
  refine va_iast hx hb hK.1 hP hD hS 4 0 rfl rfl hi_1 dX10_layComes_29 (fun H locs hP hD hS => ?_)
  have hP : va_P g.1 vwCl [oX10 q_t Q_t (F_t 0 0) (F_t 2 0) (F_t 3 0) (F_t 4 0) (F_t 5 0) (F_t 6 0) (F_t 7 0) (F_t 8 0) (F_t 9 0) (F_t 10 0) (F_t 11 0) (F_t 12 0) (F_t 15 0) (F_t 16 0) (F_t 17 0) (F_t 23 0) (F_t 27 0) (F_t 28 0) (F_t 30 0), ia g (Q_t 18) 16 (F_t 18), ia g (Q_t 19) 30 (F_t 19), ia g (Q_t 20) 174 (F_t 20), ia g (Q_t 32) 8 (upd (F_t 32) s1.toNatClampNeg s2), ia g (Q_t 33) 8 (F_t 33)] H := hP
  have hD : va_D A [oX10 q_t Q_t (F_t 0 0) (F_t 2 0) (F_t 3 0) (F_t 4 0) (F_t 5 0) (F_t 6 0) (F_t 7 0) (F_t 8 0) (F_t 9 0) (F_t 10 0) (F_t 11 0) (F_t 12 0) (F_t 15 0) (F_t 16 0) (F_t 17 0) (F_t 23 0) (F_t 27 0) (F_t 28 0) (F_t 30 0), ia g (Q_t 18) 16 (F_t 18), ia g (Q_t 19) 30 (F_t 19), ia g (Q_t 20) 174 (F_t 20), ia g (Q_t 32) 8 (upd (F_t 32) s1.toNatClampNeg s2), ia g (Q_t 33) 8 (F_t 33)] := hD
  refine lv_iinc (v := (x5 + (1 : Int32))) (lv' := [(5, .int (x5 + (1 : Int32))), (0, .ref q_t), (1, .int x1), (2, .int x2), (3, .int x3), (4, .int x4)]) hx hb dX10_layComes_30 hl (k := 5) rfl rfl (by decide) rfl (fun ls hl => ?_)
  refine lv_goto (tgt := 3) hx hb dX10_layComes_33 (by decide) ?_
  obtain rfl := Option.some.inj h
  exact hc _ rfl H locs ls hP hD hS (lv_sub hl [1, 2, 3, 4, 5, 0] rfl)
def x_X10_layComes_b3 (N : Nat) (F_t : St) (x1 : Int32) (x2 : Int32) (x3 : Int32) (x4 : Int32) (x5 : Int32) : Option ((Int32 × (Nat → Int32)) ⊕ ((Nat → Int32))) :=
  if (F_t 16 0) ≤ x5 then (some (.inr (F_t 32))) else (if x5 = 0 then (x_X10_layComes_b3_k29 N F_t x1 x2 x3 x4 x5 x5 (0 : Int32)) else (x_X10_layComes_b3_k29 N F_t x1 x2 x3 x4 x5 x5 (99 : Int32)))
set_option maxHeartbeats 4000000 in
set_option maxRecDepth 100000 in
theorem t_X10_layComes_b3 {p : Program} {l : Launch} {e : Env} {s : State} {m : MethodId} {args : Array Value} {below : List Frame} {meth : Method} {c : Code} {g : gG} {A : Nat → Prop} {Q : State → Prop} (E : En p s m args meth c g A cX10_layComes 11 (.code yX10_layComes cX10_layComes 11 none :: gW) RX10 none) (q_t : Nat) (Q_t : Ad) (N : Nat) (F_t : St) (x1 : Int32) (x2 : Int32) (x3 : Int32) (x4 : Int32) (x5 : Int32) (o : (Int32 × (Nat → Int32)) ⊕ ((Nat → Int32))) (h : x_X10_layComes_b3 N F_t x1 x2 x3 x4 x5 = some o) (hc : ∀ z, o = .inl z → WA p l e (rM 1 23) s m args below meth c g A Q 11 3 [oX10 q_t Q_t (F_t 0 0) (F_t 2 0) (F_t 3 0) (F_t 4 0) (F_t 5 0) (F_t 6 0) (F_t 7 0) (F_t 8 0) (F_t 9 0) (F_t 10 0) (F_t 11 0) (F_t 12 0) (F_t 15 0) (F_t 16 0) (F_t 17 0) (F_t 23 0) (F_t 27 0) (F_t 28 0) (F_t 30 0), ia g (Q_t 18) 16 (F_t 18), ia g (Q_t 19) 30 (F_t 19), ia g (Q_t 20) 174 (F_t 20), ia g (Q_t 32) 8 z.2, ia g (Q_t 33) 8 (F_t 33)] [(0, .ref q_t), (1, .int x1), (2, .int x2), (3, .int x3), (4, .int x4), (5, .int z.1)] []) (he : ∀ v, o = .inr v → WA p l e (rM 1 23) s m args below meth c g A Q 11 36 [oX10 q_t Q_t (F_t 0 0) (F_t 2 0) (F_t 3 0) (F_t 4 0) (F_t 5 0) (F_t 6 0) (F_t 7 0) (F_t 8 0) (F_t 9 0) (F_t 10 0) (F_t 11 0) (F_t 12 0) (F_t 15 0) (F_t 16 0) (F_t 17 0) (F_t 23 0) (F_t 27 0) (F_t 28 0) (F_t 30 0), ia g (Q_t 18) 16 (F_t 18), ia g (Q_t 19) 30 (F_t 19), ia g (Q_t 20) 174 (F_t 20), ia g (Q_t 32) 8 v, ia g (Q_t 33) 8 (F_t 33)] [(0, .ref q_t), (1, .int x1), (2, .int x2), (3, .int x3), (4, .int x4)] []) : WA p l e (rM 1 23) s m args below meth c g A Q 11 3 [oX10 q_t Q_t (F_t 0 0) (F_t 2 0) (F_t 3 0) (F_t 4 0) (F_t 5 0) (F_t 6 0) (F_t 7 0) (F_t 8 0) (F_t 9 0) (F_t 10 0) (F_t 11 0) (F_t 12 0) (F_t 15 0) (F_t 16 0) (F_t 17 0) (F_t 23 0) (F_t 27 0) (F_t 28 0) (F_t 30 0), ia g (Q_t 18) 16 (F_t 18), ia g (Q_t 19) 30 (F_t 19), ia g (Q_t 20) 174 (F_t 20), ia g (Q_t 32) 8 (F_t 32), ia g (Q_t 33) 8 (F_t 33)] [(0, .ref q_t), (1, .int x1), (2, .int x2), (3, .int x3), (4, .int x4), (5, .int x5)] [] := by
  obtain ⟨⟨hx, hb, hml, hown, hts⟩, hr, hK, hA, hlk⟩ := id E
  intro H locs ls hP hD hS hl
  refine lv_iload hx hb dX10_layComes_3 (lv_at hl 5 rfl) ?_
  refine lv_aload_n hx hb dX10_layComes_5 rfl (lv_at hl 0 rfl) ?_
  refine va_get (ci := 10) (v := .int (F_t 16 0)) (C := RX10) (T := TX10) (N := 38) hx hb hts (fun w h => .tail _ (u_inX10 w h)) hown hK.1 hP 0 rfl rfl 16 (by decide) (hts _ (.tail _ u_fl_X10_80)) (fun _ h9 => h9) rfl dX10_layComes_6 ?_
  refine lv_icmp_ge (tgt := 36) hx hb dX10_layComes_9 (by decide) (fun c_2 => ?_) (fun c_2 => ?_)
  · have h := ox_t c_2 h
    obtain rfl := Option.some.inj h
    exact he _ rfl H locs ls hP hD hS (lv_sub hl [0, 1, 2, 3, 4] rfl)
  · have h := ox_f c_2 h
    refine lv_aload_n hx hb dX10_layComes_12 rfl (lv_at hl 0 rfl) ?_
    refine va_get (ci := 10) (v := .ref (Q_t 32)) (C := RX10) (T := TX10) (N := 38) hx hb hts (fun w h => .tail _ (u_inX10 w h)) hown hK.1 hP 0 rfl rfl 32 (by decide) (hts _ (.tail _ u_fl_X10_54)) (fun _ h9 => h9) rfl dX10_layComes_13 ?_
    refine lv_iload hx hb dX10_layComes_16 (lv_at hl 5 rfl) ?_
    refine lv_iload hx hb dX10_layComes_18 (lv_at hl 5 rfl) ?_
    refine lv_if_ne (tgt := 27) hx hb dX10_layComes_20 (by decide) (fun c_3 => ?_) (fun c_3 => ?_)
    · have h := ox_f c_3 h
      refine lv_bipush (v := (99 : Int32)) hx hb dX10_layComes_27 (by decide) ?_
      exact t_X10_layComes_b3_k29 E q_t Q_t N F_t x1 x2 x3 x4 x5 x5 (99 : Int32) _ h hc he H locs ls hP hD hS hl
    · have h := ox_t c_3 h
      refine lv_iconst (v := (0 : Int32)) hx hb dX10_layComes_23 (by decide) ?_
      refine lv_goto (tgt := 29) hx hb dX10_layComes_24 (by decide) ?_
      exact t_X10_layComes_b3_k29 E q_t Q_t N F_t x1 x2 x3 x4 x5 x5 (0 : Int32) _ h hc he H locs ls hP hD hS hl
def x_X10_layComes_b51_k185 (N : Nat) (F_t : St) (x1 : Int32) (x2 : Int32) (x3 : Int32) (x4 : Int32) (x5 : Int32) (x6 : Int32) (s1 : Int32) (s2 : Int32) : Option ((Int32 × (Nat → Int32)) ⊕ ((Nat → Int32))) :=
  if s1 < 0 ∨ 8 ≤ s1.toNatClampNeg then none else some (.inl ((x6 + (1 : Int32)), (upd (F_t 32) s1.toNatClampNeg s2)))
set_option maxHeartbeats 4000000 in
set_option maxRecDepth 100000 in
theorem t_X10_layComes_b51_k185 {p : Program} {l : Launch} {e : Env} {s : State} {m : MethodId} {args : Array Value} {below : List Frame} {meth : Method} {c : Code} {g : gG} {A : Nat → Prop} {Q : State → Prop} (E : En p s m args meth c g A cX10_layComes 11 (.code yX10_layComes cX10_layComes 11 none :: gW) RX10 none) (q_t : Nat) (Q_t : Ad) (N : Nat) (F_t : St) (x1 : Int32) (x2 : Int32) (x3 : Int32) (x4 : Int32) (x5 : Int32) (x6 : Int32) (s1 : Int32) (s2 : Int32) (o : (Int32 × (Nat → Int32)) ⊕ ((Nat → Int32))) (h : x_X10_layComes_b51_k185 N F_t x1 x2 x3 x4 x5 x6 s1 s2 = some o) (hc : ∀ z, o = .inl z → WA p l e (rM 1 23) s m args below meth c g A Q 11 51 [oX10 q_t Q_t (F_t 0 0) (F_t 2 0) (F_t 3 0) (F_t 4 0) (F_t 5 0) (F_t 6 0) (F_t 7 0) (F_t 8 0) (F_t 9 0) (F_t 10 0) (F_t 11 0) (F_t 12 0) (F_t 15 0) (F_t 16 0) (F_t 17 0) (F_t 23 0) (F_t 27 0) (F_t 28 0) (F_t 30 0), ia g (Q_t 18) 16 (F_t 18), ia g (Q_t 19) 30 (F_t 19), ia g (Q_t 20) 174 (F_t 20), ia g (Q_t 32) 8 z.2, ia g (Q_t 33) 8 (F_t 33)] [(0, .ref q_t), (1, .int x1), (2, .int x2), (3, .int x3), (4, .int x4), (5, .int x5), (6, .int z.1)] []) (he : ∀ v, o = .inr v → WA p l e (rM 1 23) s m args below meth c g A Q 11 192 [oX10 q_t Q_t (F_t 0 0) (F_t 2 0) (F_t 3 0) (F_t 4 0) (F_t 5 0) (F_t 6 0) (F_t 7 0) (F_t 8 0) (F_t 9 0) (F_t 10 0) (F_t 11 0) (F_t 12 0) (F_t 15 0) (F_t 16 0) (F_t 17 0) (F_t 23 0) (F_t 27 0) (F_t 28 0) (F_t 30 0), ia g (Q_t 18) 16 (F_t 18), ia g (Q_t 19) 30 (F_t 19), ia g (Q_t 20) 174 (F_t 20), ia g (Q_t 32) 8 v, ia g (Q_t 33) 8 (F_t 33)] [(0, .ref q_t), (1, .int x1), (2, .int x2), (3, .int x3), (4, .int x4), (5, .int x5)] []) : WA p l e (rM 1 23) s m args below meth c g A Q 11 185 [oX10 q_t Q_t (F_t 0 0) (F_t 2 0) (F_t 3 0) (F_t 4 0) (F_t 5 0) (F_t 6 0) (F_t 7 0) (F_t 8 0) (F_t 9 0) (F_t 10 0) (F_t 11 0) (F_t 12 0) (F_t 15 0) (F_t 16 0) (F_t 17 0) (F_t 23 0) (F_t 27 0) (F_t 28 0) (F_t 30 0), ia g (Q_t 18) 16 (F_t 18), ia g (Q_t 19) 30 (F_t 19), ia g (Q_t 20) 174 (F_t 20), ia g (Q_t 32) 8 (F_t 32), ia g (Q_t 33) 8 (F_t 33)] [(0, .ref q_t), (1, .int x1), (2, .int x2), (3, .int x3), (4, .int x4), (5, .int x5), (6, .int x6)] [.int s2, .int s1, .ref (Q_t 32)] := by
  obtain ⟨⟨hx, hb, hml, hown, hts⟩, hr, hK, hA, hlk⟩ := id E
  intro H locs ls hP hD hS hl
  obtain ⟨hi_6, h⟩ := ox_chk h
  refine va_iast hx hb hK.1 hP hD hS 4 0 rfl rfl hi_6 dX10_layComes_185 (fun H locs hP hD hS => ?_)
  have hP : va_P g.1 vwCl [oX10 q_t Q_t (F_t 0 0) (F_t 2 0) (F_t 3 0) (F_t 4 0) (F_t 5 0) (F_t 6 0) (F_t 7 0) (F_t 8 0) (F_t 9 0) (F_t 10 0) (F_t 11 0) (F_t 12 0) (F_t 15 0) (F_t 16 0) (F_t 17 0) (F_t 23 0) (F_t 27 0) (F_t 28 0) (F_t 30 0), ia g (Q_t 18) 16 (F_t 18), ia g (Q_t 19) 30 (F_t 19), ia g (Q_t 20) 174 (F_t 20), ia g (Q_t 32) 8 (upd (F_t 32) s1.toNatClampNeg s2), ia g (Q_t 33) 8 (F_t 33)] H := hP
  have hD : va_D A [oX10 q_t Q_t (F_t 0 0) (F_t 2 0) (F_t 3 0) (F_t 4 0) (F_t 5 0) (F_t 6 0) (F_t 7 0) (F_t 8 0) (F_t 9 0) (F_t 10 0) (F_t 11 0) (F_t 12 0) (F_t 15 0) (F_t 16 0) (F_t 17 0) (F_t 23 0) (F_t 27 0) (F_t 28 0) (F_t 30 0), ia g (Q_t 18) 16 (F_t 18), ia g (Q_t 19) 30 (F_t 19), ia g (Q_t 20) 174 (F_t 20), ia g (Q_t 32) 8 (upd (F_t 32) s1.toNatClampNeg s2), ia g (Q_t 33) 8 (F_t 33)] := hD
  refine lv_iinc (v := (x6 + (1 : Int32))) (lv' := [(6, .int (x6 + (1 : Int32))), (0, .ref q_t), (1, .int x1), (2, .int x2), (3, .int x3), (4, .int x4), (5, .int x5)]) hx hb dX10_layComes_186 hl (k := 6) rfl rfl (by decide) rfl (fun ls hl => ?_)
  refine lv_goto (tgt := 51) hx hb dX10_layComes_189 (by decide) ?_
  obtain rfl := Option.some.inj h
  exact hc _ rfl H locs ls hP hD hS (lv_sub hl [1, 2, 3, 4, 5, 6, 0] rfl)
def x_X10_layComes_b51_k153 (N : Nat) (F_t : St) (x1 : Int32) (x2 : Int32) (x3 : Int32) (x4 : Int32) (x5 : Int32) (x6 : Int32) (x8 : Int32) (s0 : Int32) : Option ((Int32 × (Nat → Int32)) ⊕ ((Nat → Int32))) :=
  if x8 < 0 ∨ 8 ≤ x8.toNatClampNeg then none else if ((F_t 32) x8.toNatClampNeg) ≤ s0 then (if x8 < 0 ∨ 8 ≤ x8.toNatClampNeg then none else x_X10_layComes_b51_k185 N F_t x1 x2 x3 x4 x5 x6 x8 ((F_t 32) x8.toNatClampNeg)) else (x_X10_layComes_b51_k185 N F_t x1 x2 x3 x4 x5 x6 x8 s0)
set_option maxHeartbeats 4000000 in
set_option maxRecDepth 100000 in
theorem t_X10_layComes_b51_k153 {p : Program} {l : Launch} {e : Env} {s : State} {m : MethodId} {args : Array Value} {below : List Frame} {meth : Method} {c : Code} {g : gG} {A : Nat → Prop} {Q : State → Prop} (E : En p s m args meth c g A cX10_layComes 11 (.code yX10_layComes cX10_layComes 11 none :: gW) RX10 none) (q_t : Nat) (Q_t : Ad) (N : Nat) (F_t : St) (x1 : Int32) (x2 : Int32) (x3 : Int32) (x4 : Int32) (x5 : Int32) (x6 : Int32) (x8 : Int32) (s0 : Int32) (o : (Int32 × (Nat → Int32)) ⊕ ((Nat → Int32))) (h : x_X10_layComes_b51_k153 N F_t x1 x2 x3 x4 x5 x6 x8 s0 = some o) (hc : ∀ z, o = .inl z → WA p l e (rM 1 23) s m args below meth c g A Q 11 51 [oX10 q_t Q_t (F_t 0 0) (F_t 2 0) (F_t 3 0) (F_t 4 0) (F_t 5 0) (F_t 6 0) (F_t 7 0) (F_t 8 0) (F_t 9 0) (F_t 10 0) (F_t 11 0) (F_t 12 0) (F_t 15 0) (F_t 16 0) (F_t 17 0) (F_t 23 0) (F_t 27 0) (F_t 28 0) (F_t 30 0), ia g (Q_t 18) 16 (F_t 18), ia g (Q_t 19) 30 (F_t 19), ia g (Q_t 20) 174 (F_t 20), ia g (Q_t 32) 8 z.2, ia g (Q_t 33) 8 (F_t 33)] [(0, .ref q_t), (1, .int x1), (2, .int x2), (3, .int x3), (4, .int x4), (5, .int x5), (6, .int z.1)] []) (he : ∀ v, o = .inr v → WA p l e (rM 1 23) s m args below meth c g A Q 11 192 [oX10 q_t Q_t (F_t 0 0) (F_t 2 0) (F_t 3 0) (F_t 4 0) (F_t 5 0) (F_t 6 0) (F_t 7 0) (F_t 8 0) (F_t 9 0) (F_t 10 0) (F_t 11 0) (F_t 12 0) (F_t 15 0) (F_t 16 0) (F_t 17 0) (F_t 23 0) (F_t 27 0) (F_t 28 0) (F_t 30 0), ia g (Q_t 18) 16 (F_t 18), ia g (Q_t 19) 30 (F_t 19), ia g (Q_t 20) 174 (F_t 20), ia g (Q_t 32) 8 v, ia g (Q_t 33) 8 (F_t 33)] [(0, .ref q_t), (1, .int x1), (2, .int x2), (3, .int x3), (4, .int x4), (5, .int x5)] []) : WA p l e (rM 1 23) s m args below meth c g A Q 11 153 [oX10 q_t Q_t (F_t 0 0) (F_t 2 0) (F_t 3 0) (F_t 4 0) (F_t 5 0) (F_t 6 0) (F_t 7 0) (F_t 8 0) (F_t 9 0) (F_t 10 0) (F_t 11 0) (F_t 12 0) (F_t 15 0) (F_t 16 0) (F_t 17 0) (F_t 23 0) (F_t 27 0) (F_t 28 0) (F_t 30 0), ia g (Q_t 18) 16 (F_t 18), ia g (Q_t 19) 30 (F_t 19), ia g (Q_t 20) 174 (F_t 20), ia g (Q_t 32) 8 (F_t 32), ia g (Q_t 33) 8 (F_t 33)] [(0, .ref q_t), (1, .int x1), (2, .int x2), (3, .int x3), (4, .int x4), (5, .int x5), (6, .int x6), (8, .int x8)] [.int s0] := by
  obtain ⟨⟨hx, hb, hml, hown, hts⟩, hr, hK, hA, hlk⟩ := id E
  intro H locs ls hP hD hS hl
  refine lv_istore (lv' := [(10, .int s0), (0, .ref q_t), (1, .int x1), (2, .int x2), (3, .int x3), (4, .int x4), (5, .int x5), (6, .int x6), (8, .int x8)]) hx hb dX10_layComes_153 hl (by decide) rfl (fun ls hl => ?_)
  refine lv_aload_n hx hb dX10_layComes_155 rfl (lv_at hl 1 rfl) ?_
  refine va_get (ci := 10) (v := .ref (Q_t 32)) (C := RX10) (T := TX10) (N := 38) hx hb hts (fun w h => .tail _ (u_inX10 w h)) hown hK.1 hP 0 rfl rfl 32 (by decide) (hts _ (.tail _ u_fl_X10_54)) (fun _ h9 => h9) rfl dX10_layComes_156 ?_
  refine lv_iload hx hb dX10_layComes_159 (lv_at hl 8 rfl) ?_
  refine lv_iload hx hb dX10_layComes_161 (lv_at hl 0 rfl) ?_
  refine lv_aload_n hx hb dX10_layComes_163 rfl (lv_at hl 1 rfl) ?_
  refine va_get (ci := 10) (v := .ref (Q_t 32)) (C := RX10) (T := TX10) (N := 38) hx hb hts (fun w h => .tail _ (u_inX10 w h)) hown hK.1 hP 0 rfl rfl 32 (by decide) (hts _ (.tail _ u_fl_X10_54)) (fun _ h9 => h9) rfl dX10_layComes_164 ?_
  refine lv_iload hx hb dX10_layComes_167 (lv_at hl 8 rfl) ?_
  obtain ⟨hi_7, h⟩ := ox_chk h
  refine va_iald hx hb hK.1 hP 4 0 rfl rfl hi_7 dX10_layComes_169 ?_
  refine lv_icmp_ge (tgt := 178) hx hb dX10_layComes_170 (by decide) (fun c_8 => ?_) (fun c_8 => ?_)
  · have h := ox_t c_8 h
    refine lv_aload_n hx hb dX10_layComes_178 rfl (lv_at hl 1 rfl) ?_
    refine va_get (ci := 10) (v := .ref (Q_t 32)) (C := RX10) (T := TX10) (N := 38) hx hb hts (fun w h => .tail _ (u_inX10 w h)) hown hK.1 hP 0 rfl rfl 32 (by decide) (hts _ (.tail _ u_fl_X10_54)) (fun _ h9 => h9) rfl dX10_layComes_179 ?_
    refine lv_iload hx hb dX10_layComes_182 (lv_at hl 8 rfl) ?_
    obtain ⟨hi_9, h⟩ := ox_chk h
    refine va_iald hx hb hK.1 hP 4 0 rfl rfl hi_9 dX10_layComes_184 ?_
    exact t_X10_layComes_b51_k185 E q_t Q_t N F_t x1 x2 x3 x4 x5 x6 x8 ((F_t 32) x8.toNatClampNeg) _ h hc he H locs ls hP hD hS (lv_sub hl [1, 2, 3, 4, 5, 6, 7] rfl)
  · have h := ox_f c_8 h
    refine lv_iload hx hb dX10_layComes_173 (lv_at hl 0 rfl) ?_
    refine lv_goto (tgt := 185) hx hb dX10_layComes_175 (by decide) ?_
    exact t_X10_layComes_b51_k185 E q_t Q_t N F_t x1 x2 x3 x4 x5 x6 x8 s0 _ h hc he H locs ls hP hD hS (lv_sub hl [1, 2, 3, 4, 5, 6, 7] rfl)
def x_X10_layComes_b51_k122 (N : Nat) (F_t : St) (x1 : Int32) (x2 : Int32) (x3 : Int32) (x4 : Int32) (x5 : Int32) (x6 : Int32) (x7 : Int32) (x8 : Int32) (s0 : Int32) : Option ((Int32 × (Nat → Int32)) ⊕ ((Nat → Int32))) :=
  if s0 = 0 then (x_X10_layComes_b51_k153 N F_t x1 x2 x3 x4 x5 x6 x8 (99 : Int32)) else (if x7 < 0 ∨ 8 ≤ x7.toNatClampNeg then none else if (((3 : Int32) * x6) + (2 : Int32)) < 0 ∨ 30 ≤ (((3 : Int32) * x6) + (2 : Int32)).toNatClampNeg then none else x_X10_layComes_b51_k153 N F_t x1 x2 x3 x4 x5 x6 x8 (((F_t 32) x7.toNatClampNeg) + ((F_t 19) (((3 : Int32) * x6) + (2 : Int32)).toNatClampNeg)))
set_option maxHeartbeats 4000000 in
set_option maxRecDepth 100000 in
theorem t_X10_layComes_b51_k122 {p : Program} {l : Launch} {e : Env} {s : State} {m : MethodId} {args : Array Value} {below : List Frame} {meth : Method} {c : Code} {g : gG} {A : Nat → Prop} {Q : State → Prop} (E : En p s m args meth c g A cX10_layComes 11 (.code yX10_layComes cX10_layComes 11 none :: gW) RX10 none) (q_t : Nat) (Q_t : Ad) (N : Nat) (F_t : St) (x1 : Int32) (x2 : Int32) (x3 : Int32) (x4 : Int32) (x5 : Int32) (x6 : Int32) (x7 : Int32) (x8 : Int32) (s0 : Int32) (o : (Int32 × (Nat → Int32)) ⊕ ((Nat → Int32))) (h : x_X10_layComes_b51_k122 N F_t x1 x2 x3 x4 x5 x6 x7 x8 s0 = some o) (hc : ∀ z, o = .inl z → WA p l e (rM 1 23) s m args below meth c g A Q 11 51 [oX10 q_t Q_t (F_t 0 0) (F_t 2 0) (F_t 3 0) (F_t 4 0) (F_t 5 0) (F_t 6 0) (F_t 7 0) (F_t 8 0) (F_t 9 0) (F_t 10 0) (F_t 11 0) (F_t 12 0) (F_t 15 0) (F_t 16 0) (F_t 17 0) (F_t 23 0) (F_t 27 0) (F_t 28 0) (F_t 30 0), ia g (Q_t 18) 16 (F_t 18), ia g (Q_t 19) 30 (F_t 19), ia g (Q_t 20) 174 (F_t 20), ia g (Q_t 32) 8 z.2, ia g (Q_t 33) 8 (F_t 33)] [(0, .ref q_t), (1, .int x1), (2, .int x2), (3, .int x3), (4, .int x4), (5, .int x5), (6, .int z.1)] []) (he : ∀ v, o = .inr v → WA p l e (rM 1 23) s m args below meth c g A Q 11 192 [oX10 q_t Q_t (F_t 0 0) (F_t 2 0) (F_t 3 0) (F_t 4 0) (F_t 5 0) (F_t 6 0) (F_t 7 0) (F_t 8 0) (F_t 9 0) (F_t 10 0) (F_t 11 0) (F_t 12 0) (F_t 15 0) (F_t 16 0) (F_t 17 0) (F_t 23 0) (F_t 27 0) (F_t 28 0) (F_t 30 0), ia g (Q_t 18) 16 (F_t 18), ia g (Q_t 19) 30 (F_t 19), ia g (Q_t 20) 174 (F_t 20), ia g (Q_t 32) 8 v, ia g (Q_t 33) 8 (F_t 33)] [(0, .ref q_t), (1, .int x1), (2, .int x2), (3, .int x3), (4, .int x4), (5, .int x5)] []) : WA p l e (rM 1 23) s m args below meth c g A Q 11 122 [oX10 q_t Q_t (F_t 0 0) (F_t 2 0) (F_t 3 0) (F_t 4 0) (F_t 5 0) (F_t 6 0) (F_t 7 0) (F_t 8 0) (F_t 9 0) (F_t 10 0) (F_t 11 0) (F_t 12 0) (F_t 15 0) (F_t 16 0) (F_t 17 0) (F_t 23 0) (F_t 27 0) (F_t 28 0) (F_t 30 0), ia g (Q_t 18) 16 (F_t 18), ia g (Q_t 19) 30 (F_t 19), ia g (Q_t 20) 174 (F_t 20), ia g (Q_t 32) 8 (F_t 32), ia g (Q_t 33) 8 (F_t 33)] [(0, .ref q_t), (1, .int x1), (2, .int x2), (3, .int x3), (4, .int x4), (5, .int x5), (6, .int x6), (7, .int x7), (8, .int x8)] [.int s0] := by
  obtain ⟨⟨hx, hb, hml, hown, hts⟩, hr, hK, hA, hlk⟩ := id E
  intro H locs ls hP hD hS hl
  refine lv_istore (lv' := [(9, .int s0), (0, .ref q_t), (1, .int x1), (2, .int x2), (3, .int x3), (4, .int x4), (5, .int x5), (6, .int x6), (7, .int x7), (8, .int x8)]) hx hb dX10_layComes_122 hl (by decide) rfl (fun ls hl => ?_)
  refine lv_iload hx hb dX10_layComes_124 (lv_at hl 0 rfl) ?_
  refine lv_if_eq (tgt := 151) hx hb dX10_layComes_126 (by decide) (fun c_10 => ?_) (fun c_10 => ?_)
  · have h := ox_t c_10 h
    refine lv_bipush (v := (99 : Int32)) hx hb dX10_layComes_151 (by decide) ?_
    exact t_X10_layComes_b51_k153 E q_t Q_t N F_t x1 x2 x3 x4 x5 x6 x8 (99 : Int32) _ h hc he H locs ls hP hD hS (lv_sub hl [1, 2, 3, 4, 5, 6, 7, 9] rfl)
  · have h := ox_f c_10 h
    refine lv_aload_n hx hb dX10_layComes_129 rfl (lv_at hl 1 rfl) ?_
    refine va_get (ci := 10) (v := .ref (Q_t 32)) (C := RX10) (T := TX10) (N := 38) hx hb hts (fun w h => .tail _ (u_inX10 w h)) hown hK.1 hP 0 rfl rfl 32 (by decide) (hts _ (.tail _ u_fl_X10_54)) (fun _ h9 => h9) rfl dX10_layComes_130 ?_
    refine lv_iload hx hb dX10_layComes_133 (lv_at hl 8 rfl) ?_
    obtain ⟨hi_11, h⟩ := ox_chk h
    refine va_iald hx hb hK.1 hP 4 0 rfl rfl hi_11 dX10_layComes_135 ?_
    refine lv_aload_n hx hb dX10_layComes_136 rfl (lv_at hl 1 rfl) ?_
    refine va_get (ci := 10) (v := .ref (Q_t 19)) (C := RX10) (T := TX10) (N := 38) hx hb hts (fun w h => .tail _ (u_inX10 w h)) hown hK.1 hP 0 rfl rfl 19 (by decide) (hts _ (.tail _ u_fl_X10_26)) (fun _ h9 => h9) rfl dX10_layComes_137 ?_
    refine lv_iconst (v := (3 : Int32)) hx hb dX10_layComes_140 (by decide) ?_
    refine lv_iload hx hb dX10_layComes_141 (lv_at hl 7 rfl) ?_
    refine lv_imul hx hb dX10_layComes_143 ?_
    refine lv_iconst (v := (2 : Int32)) hx hb dX10_layComes_144 (by decide) ?_
    refine lv_iadd hx hb dX10_layComes_145 ?_
    obtain ⟨hi_12, h⟩ := ox_chk h
    refine va_iald hx hb hK.1 hP 2 0 rfl rfl hi_12 dX10_layComes_146 ?_
    refine lv_iadd hx hb dX10_layComes_147 ?_
    refine lv_goto (tgt := 153) hx hb dX10_layComes_148 (by decide) ?_
    exact t_X10_layComes_b51_k153 E q_t Q_t N F_t x1 x2 x3 x4 x5 x6 x8 (((F_t 32) x7.toNatClampNeg) + ((F_t 19) (((3 : Int32) * x6) + (2 : Int32)).toNatClampNeg)) _ h hc he H locs ls hP hD hS (lv_sub hl [1, 2, 3, 4, 5, 6, 7, 9] rfl)
def x_X10_layComes_b51_k121 (N : Nat) (F_t : St) (x1 : Int32) (x2 : Int32) (x3 : Int32) (x4 : Int32) (x5 : Int32) (x6 : Int32) (x7 : Int32) (x8 : Int32) : Option ((Int32 × (Nat → Int32)) ⊕ ((Nat → Int32))) :=
  x_X10_layComes_b51_k122 N F_t x1 x2 x3 x4 x5 x6 x7 x8 (0 : Int32)
set_option maxHeartbeats 4000000 in
set_option maxRecDepth 100000 in
theorem t_X10_layComes_b51_k121 {p : Program} {l : Launch} {e : Env} {s : State} {m : MethodId} {args : Array Value} {below : List Frame} {meth : Method} {c : Code} {g : gG} {A : Nat → Prop} {Q : State → Prop} (E : En p s m args meth c g A cX10_layComes 11 (.code yX10_layComes cX10_layComes 11 none :: gW) RX10 none) (q_t : Nat) (Q_t : Ad) (N : Nat) (F_t : St) (x1 : Int32) (x2 : Int32) (x3 : Int32) (x4 : Int32) (x5 : Int32) (x6 : Int32) (x7 : Int32) (x8 : Int32) (o : (Int32 × (Nat → Int32)) ⊕ ((Nat → Int32))) (h : x_X10_layComes_b51_k121 N F_t x1 x2 x3 x4 x5 x6 x7 x8 = some o) (hc : ∀ z, o = .inl z → WA p l e (rM 1 23) s m args below meth c g A Q 11 51 [oX10 q_t Q_t (F_t 0 0) (F_t 2 0) (F_t 3 0) (F_t 4 0) (F_t 5 0) (F_t 6 0) (F_t 7 0) (F_t 8 0) (F_t 9 0) (F_t 10 0) (F_t 11 0) (F_t 12 0) (F_t 15 0) (F_t 16 0) (F_t 17 0) (F_t 23 0) (F_t 27 0) (F_t 28 0) (F_t 30 0), ia g (Q_t 18) 16 (F_t 18), ia g (Q_t 19) 30 (F_t 19), ia g (Q_t 20) 174 (F_t 20), ia g (Q_t 32) 8 z.2, ia g (Q_t 33) 8 (F_t 33)] [(0, .ref q_t), (1, .int x1), (2, .int x2), (3, .int x3), (4, .int x4), (5, .int x5), (6, .int z.1)] []) (he : ∀ v, o = .inr v → WA p l e (rM 1 23) s m args below meth c g A Q 11 192 [oX10 q_t Q_t (F_t 0 0) (F_t 2 0) (F_t 3 0) (F_t 4 0) (F_t 5 0) (F_t 6 0) (F_t 7 0) (F_t 8 0) (F_t 9 0) (F_t 10 0) (F_t 11 0) (F_t 12 0) (F_t 15 0) (F_t 16 0) (F_t 17 0) (F_t 23 0) (F_t 27 0) (F_t 28 0) (F_t 30 0), ia g (Q_t 18) 16 (F_t 18), ia g (Q_t 19) 30 (F_t 19), ia g (Q_t 20) 174 (F_t 20), ia g (Q_t 32) 8 v, ia g (Q_t 33) 8 (F_t 33)] [(0, .ref q_t), (1, .int x1), (2, .int x2), (3, .int x3), (4, .int x4), (5, .int x5)] []) : WA p l e (rM 1 23) s m args below meth c g A Q 11 121 [oX10 q_t Q_t (F_t 0 0) (F_t 2 0) (F_t 3 0) (F_t 4 0) (F_t 5 0) (F_t 6 0) (F_t 7 0) (F_t 8 0) (F_t 9 0) (F_t 10 0) (F_t 11 0) (F_t 12 0) (F_t 15 0) (F_t 16 0) (F_t 17 0) (F_t 23 0) (F_t 27 0) (F_t 28 0) (F_t 30 0), ia g (Q_t 18) 16 (F_t 18), ia g (Q_t 19) 30 (F_t 19), ia g (Q_t 20) 174 (F_t 20), ia g (Q_t 32) 8 (F_t 32), ia g (Q_t 33) 8 (F_t 33)] [(0, .ref q_t), (1, .int x1), (2, .int x2), (3, .int x3), (4, .int x4), (5, .int x5), (6, .int x6), (7, .int x7), (8, .int x8)] [] := by
  obtain ⟨⟨hx, hb, hml, hown, hts⟩, hr, hK, hA, hlk⟩ := id E
  intro H locs ls hP hD hS hl
  refine lv_iconst (v := (0 : Int32)) hx hb dX10_layComes_121 (by decide) ?_
  exact t_X10_layComes_b51_k122 E q_t Q_t N F_t x1 x2 x3 x4 x5 x6 x7 x8 (0 : Int32) _ h hc he H locs ls hP hD hS hl
def x_X10_layComes_b51 (N : Nat) (F_t : St) (x1 : Int32) (x2 : Int32) (x3 : Int32) (x4 : Int32) (x5 : Int32) (x6 : Int32) : Option ((Int32 × (Nat → Int32)) ⊕ ((Nat → Int32))) :=
  if (F_t 17 0) ≤ x6 then (some (.inr (F_t 32))) else (if ((3 : Int32) * x6) < 0 ∨ 30 ≤ ((3 : Int32) * x6).toNatClampNeg then none else xl ((F_t 19) ((3 : Int32) * x6).toNatClampNeg) (fun y_15 => if (((3 : Int32) * x6) + (1 : Int32)) < 0 ∨ 30 ≤ (((3 : Int32) * x6) + (1 : Int32)).toNatClampNeg then none else xl ((F_t 19) (((3 : Int32) * x6) + (1 : Int32)).toNatClampNeg) (fun y_17 => if y_15 < 0 ∨ 8 ≤ y_15.toNatClampNeg then none else if (60 : Int32) < ((F_t 32) y_15.toNatClampNeg) then (x_X10_layComes_b51_k121 N F_t x1 x2 x3 x4 x5 x6 y_15 y_17) else (Option.bind (x_X10_has x2 x6) (fun v_20 => if v_20 = 0 then (Option.bind (x_X10_goesOn F_t y_15 ((1 : Int32) <<< (x1 &&& 31))) (fun v_22 => if v_22 = 0 then (x_X10_layComes_b51_k121 N F_t x1 x2 x3 x4 x5 x6 y_15 y_17) else (x_X10_layComes_b51_k122 N F_t x1 x2 x3 x4 x5 x6 y_15 y_17 (1 : Int32)))) else (x_X10_layComes_b51_k121 N F_t x1 x2 x3 x4 x5 x6 y_15 y_17))))))
set_option maxHeartbeats 4000000 in
set_option maxRecDepth 100000 in
theorem t_X10_layComes_b51 {p : Program} {l : Launch} {e : Env} {s : State} {m : MethodId} {args : Array Value} {below : List Frame} {meth : Method} {c : Code} {g : gG} {A : Nat → Prop} {Q : State → Prop} (E : En p s m args meth c g A cX10_layComes 11 (.code yX10_layComes cX10_layComes 11 none :: gW) RX10 none) (q_t : Nat) (Q_t : Ad) (N : Nat) (F_t : St) (x1 : Int32) (x2 : Int32) (x3 : Int32) (x4 : Int32) (x5 : Int32) (x6 : Int32) (o : (Int32 × (Nat → Int32)) ⊕ ((Nat → Int32))) (h : x_X10_layComes_b51 N F_t x1 x2 x3 x4 x5 x6 = some o) (hc : ∀ z, o = .inl z → WA p l e (rM 1 23) s m args below meth c g A Q 11 51 [oX10 q_t Q_t (F_t 0 0) (F_t 2 0) (F_t 3 0) (F_t 4 0) (F_t 5 0) (F_t 6 0) (F_t 7 0) (F_t 8 0) (F_t 9 0) (F_t 10 0) (F_t 11 0) (F_t 12 0) (F_t 15 0) (F_t 16 0) (F_t 17 0) (F_t 23 0) (F_t 27 0) (F_t 28 0) (F_t 30 0), ia g (Q_t 18) 16 (F_t 18), ia g (Q_t 19) 30 (F_t 19), ia g (Q_t 20) 174 (F_t 20), ia g (Q_t 32) 8 z.2, ia g (Q_t 33) 8 (F_t 33)] [(0, .ref q_t), (1, .int x1), (2, .int x2), (3, .int x3), (4, .int x4), (5, .int x5), (6, .int z.1)] []) (he : ∀ v, o = .inr v → WA p l e (rM 1 23) s m args below meth c g A Q 11 192 [oX10 q_t Q_t (F_t 0 0) (F_t 2 0) (F_t 3 0) (F_t 4 0) (F_t 5 0) (F_t 6 0) (F_t 7 0) (F_t 8 0) (F_t 9 0) (F_t 10 0) (F_t 11 0) (F_t 12 0) (F_t 15 0) (F_t 16 0) (F_t 17 0) (F_t 23 0) (F_t 27 0) (F_t 28 0) (F_t 30 0), ia g (Q_t 18) 16 (F_t 18), ia g (Q_t 19) 30 (F_t 19), ia g (Q_t 20) 174 (F_t 20), ia g (Q_t 32) 8 v, ia g (Q_t 33) 8 (F_t 33)] [(0, .ref q_t), (1, .int x1), (2, .int x2), (3, .int x3), (4, .int x4), (5, .int x5)] []) : WA p l e (rM 1 23) s m args below meth c g A Q 11 51 [oX10 q_t Q_t (F_t 0 0) (F_t 2 0) (F_t 3 0) (F_t 4 0) (F_t 5 0) (F_t 6 0) (F_t 7 0) (F_t 8 0) (F_t 9 0) (F_t 10 0) (F_t 11 0) (F_t 12 0) (F_t 15 0) (F_t 16 0) (F_t 17 0) (F_t 23 0) (F_t 27 0) (F_t 28 0) (F_t 30 0), ia g (Q_t 18) 16 (F_t 18), ia g (Q_t 19) 30 (F_t 19), ia g (Q_t 20) 174 (F_t 20), ia g (Q_t 32) 8 (F_t 32), ia g (Q_t 33) 8 (F_t 33)] [(0, .ref q_t), (1, .int x1), (2, .int x2), (3, .int x3), (4, .int x4), (5, .int x5), (6, .int x6)] [] := by
  obtain ⟨⟨hx, hb, hml, hown, hts⟩, hr, hK, hA, hlk⟩ := id E
  intro H locs ls hP hD hS hl
  refine lv_iload hx hb dX10_layComes_51 (lv_at hl 6 rfl) ?_
  refine lv_aload_n hx hb dX10_layComes_53 rfl (lv_at hl 0 rfl) ?_
  refine va_get (ci := 10) (v := .int (F_t 17 0)) (C := RX10) (T := TX10) (N := 38) hx hb hts (fun w h => .tail _ (u_inX10 w h)) hown hK.1 hP 0 rfl rfl 17 (by decide) (hts _ (.tail _ u_fl_X10_87)) (fun _ h9 => h9) rfl dX10_layComes_54 ?_
  refine lv_icmp_ge (tgt := 192) hx hb dX10_layComes_57 (by decide) (fun c_13 => ?_) (fun c_13 => ?_)
  · have h := ox_t c_13 h
    obtain rfl := Option.some.inj h
    exact he _ rfl H locs ls hP hD hS (lv_sub hl [0, 1, 2, 3, 4, 5] rfl)
  · have h := ox_f c_13 h
    refine lv_aload_n hx hb dX10_layComes_60 rfl (lv_at hl 0 rfl) ?_
    refine va_get (ci := 10) (v := .ref (Q_t 19)) (C := RX10) (T := TX10) (N := 38) hx hb hts (fun w h => .tail _ (u_inX10 w h)) hown hK.1 hP 0 rfl rfl 19 (by decide) (hts _ (.tail _ u_fl_X10_26)) (fun _ h9 => h9) rfl dX10_layComes_61 ?_
    refine lv_iconst (v := (3 : Int32)) hx hb dX10_layComes_64 (by decide) ?_
    refine lv_iload hx hb dX10_layComes_65 (lv_at hl 6 rfl) ?_
    refine lv_imul hx hb dX10_layComes_67 ?_
    obtain ⟨hi_14, h⟩ := ox_chk h
    refine va_iald hx hb hK.1 hP 2 0 rfl rfl hi_14 dX10_layComes_68 ?_
    refine lv_topi (fun y_15 ey_15 => ?_)
    have h := xl_at ey_15 h
    refine lv_istore (lv' := [(7, .int y_15), (0, .ref q_t), (1, .int x1), (2, .int x2), (3, .int x3), (4, .int x4), (5, .int x5), (6, .int x6)]) hx hb dX10_layComes_69 hl (by decide) rfl (fun ls hl => ?_)
    refine lv_aload_n hx hb dX10_layComes_71 rfl (lv_at hl 1 rfl) ?_
    refine va_get (ci := 10) (v := .ref (Q_t 19)) (C := RX10) (T := TX10) (N := 38) hx hb hts (fun w h => .tail _ (u_inX10 w h)) hown hK.1 hP 0 rfl rfl 19 (by decide) (hts _ (.tail _ u_fl_X10_26)) (fun _ h9 => h9) rfl dX10_layComes_72 ?_
    refine lv_iconst (v := (3 : Int32)) hx hb dX10_layComes_75 (by decide) ?_
    refine lv_iload hx hb dX10_layComes_76 (lv_at hl 7 rfl) ?_
    refine lv_imul hx hb dX10_layComes_78 ?_
    refine lv_iconst (v := (1 : Int32)) hx hb dX10_layComes_79 (by decide) ?_
    refine lv_iadd hx hb dX10_layComes_80 ?_
    obtain ⟨hi_16, h⟩ := ox_chk h
    refine va_iald hx hb hK.1 hP 2 0 rfl rfl hi_16 dX10_layComes_81 ?_
    refine lv_topi (fun y_17 ey_17 => ?_)
    have h := xl_at ey_17 h
    refine lv_istore (lv' := [(8, .int y_17), (7, .int y_15), (0, .ref q_t), (1, .int x1), (2, .int x2), (3, .int x3), (4, .int x4), (5, .int x5), (6, .int x6)]) hx hb dX10_layComes_82 hl (by decide) rfl (fun ls hl => ?_)
    refine lv_aload_n hx hb dX10_layComes_84 rfl (lv_at hl 2 rfl) ?_
    refine va_get (ci := 10) (v := .ref (Q_t 32)) (C := RX10) (T := TX10) (N := 38) hx hb hts (fun w h => .tail _ (u_inX10 w h)) hown hK.1 hP 0 rfl rfl 32 (by decide) (hts _ (.tail _ u_fl_X10_54)) (fun _ h9 => h9) rfl dX10_layComes_85 ?_
    refine lv_iload hx hb dX10_layComes_88 (lv_at hl 1 rfl) ?_
    obtain ⟨hi_18, h⟩ := ox_chk h
    refine va_iald hx hb hK.1 hP 4 0 rfl rfl hi_18 dX10_layComes_90 ?_
    refine lv_bipush (v := (60 : Int32)) hx hb dX10_layComes_91 (by decide) ?_
    refine lv_icmp_gt (tgt := 121) hx hb dX10_layComes_93 (by decide) (fun c_19 => ?_) (fun c_19 => ?_)
    · have h := ox_t c_19 h
      exact t_X10_layComes_b51_k121 E q_t Q_t N F_t x1 x2 x3 x4 x5 x6 y_15 y_17 _ h hc he H locs ls hP hD hS (lv_sub hl [2, 3, 4, 5, 6, 7, 8, 1, 0] rfl)
    · have h := ox_f c_19 h
      refine lv_iload_n hx hb dX10_layComes_96 rfl (lv_at hl 4 rfl) ?_
      refine lv_iload hx hb dX10_layComes_97 (lv_at hl 8 rfl) ?_
      obtain ⟨v_20, hv_20, h⟩ := ox_bind h
      refine kSi ⟨hx, hb, hml, hown, hts⟩ (c_X10_has l g x2 x6 v_20 hv_20 H.size) (gS u_ml_X10_194 u_st_X10_has u_ini_X10 u_co_X10_has) hd_X10_has ⟨rfl, rfl⟩ hK hP hD hS hA [] [0, 1, 2, 3, 4, 5] rfl rfl 0 rfl (w2 := [oX10 q_t Q_t (F_t 0 0) (F_t 2 0) (F_t 3 0) (F_t 4 0) (F_t 5 0) (F_t 6 0) (F_t 7 0) (F_t 8 0) (F_t 9 0) (F_t 10 0) (F_t 11 0) (F_t 12 0) (F_t 15 0) (F_t 16 0) (F_t 17 0) (F_t 23 0) (F_t 27 0) (F_t 28 0) (F_t 30 0), ia g (Q_t 18) 16 (F_t 18), ia g (Q_t 19) 30 (F_t 19), ia g (Q_t 20) 174 (F_t 20), ia g (Q_t 32) 8 (F_t 32), ia g (Q_t 33) 8 (F_t 33)]) rfl rfl (As := [.int x2, .int x6]) (rest := []) rfl hl.1 rfl rfl dX10_layComes_99 (fun H locs hP hD hS => ?_)
      refine lv_if_ne (tgt := 121) hx hb dX10_layComes_102 (by decide) (fun c_21 => ?_) (fun c_21 => ?_)
      · have h := ox_f c_21 h
        exact t_X10_layComes_b51_k121 E q_t Q_t N F_t x1 x2 x3 x4 x5 x6 y_15 y_17 _ h hc he H locs ls hP hD hS (lv_sub hl [2, 3, 4, 5, 6, 7, 8, 1, 0] rfl)
      · have h := ox_t c_21 h
        refine lv_aload_n hx hb dX10_layComes_105 rfl (lv_at hl 2 rfl) ?_
        refine lv_iload hx hb dX10_layComes_106 (lv_at hl 1 rfl) ?_
        refine lv_iconst (v := (1 : Int32)) hx hb dX10_layComes_108 (by decide) ?_
        refine lv_iload_n hx hb dX10_layComes_109 rfl (lv_at hl 3 rfl) ?_
        refine lv_ishl hx hb dX10_layComes_110 ?_
        obtain ⟨v_22, hv_22, h⟩ := ox_bind h
        refine kVi ⟨hx, hb, hml, hown, hts⟩ (c_X10_goesOn l g q_t Q_t F_t y_15 ((1 : Int32) <<< (x1 &&& 31)) v_22 hv_22 H.size) (gV u_ml_X10_201 u_im_X10_goesOn u_se_X10_goesOn u_ini_X10 u_co_X10_goesOn) hd_X10_goesOn ⟨rfl, rfl⟩ hK hP hD hS hA 0 10 rfl rfl [0, 1] [0, 1, 4, 5, 6, 7] rfl rfl 2 rfl (w2 := [oX10 q_t Q_t (F_t 0 0) (F_t 2 0) (F_t 3 0) (F_t 4 0) (F_t 5 0) (F_t 6 0) (F_t 7 0) (F_t 8 0) (F_t 9 0) (F_t 10 0) (F_t 11 0) (F_t 12 0) (F_t 15 0) (F_t 16 0) (F_t 17 0) (F_t 23 0) (F_t 27 0) (F_t 28 0) (F_t 30 0), ia g (Q_t 18) 16 (F_t 18), ia g (Q_t 19) 30 (F_t 19), ia g (Q_t 20) 174 (F_t 20), ia g (Q_t 32) 8 (F_t 32), ia g (Q_t 33) 8 (F_t 33)]) rfl rfl (As := [.int y_15, .int ((1 : Int32) <<< (x1 &&& 31))]) (rest := []) rfl hl.1 rfl rfl dX10_layComes_111 (fun H locs hP hD hS => ?_)
        refine lv_if_eq (tgt := 121) hx hb dX10_layComes_114 (by decide) (fun c_23 => ?_) (fun c_23 => ?_)
        · have h := ox_t c_23 h
          exact t_X10_layComes_b51_k121 E q_t Q_t N F_t x1 x2 x3 x4 x5 x6 y_15 y_17 _ h hc he H locs ls hP hD hS (lv_sub hl [2, 3, 4, 5, 6, 7, 8, 1, 0] rfl)
        · have h := ox_f c_23 h
          refine lv_iconst (v := (1 : Int32)) hx hb dX10_layComes_117 (by decide) ?_
          refine lv_goto (tgt := 122) hx hb dX10_layComes_118 (by decide) ?_
          exact t_X10_layComes_b51_k122 E q_t Q_t N F_t x1 x2 x3 x4 x5 x6 y_15 y_17 (1 : Int32) _ h hc he H locs ls hP hD hS (lv_sub hl [2, 3, 4, 5, 6, 7, 8, 1, 0] rfl)
def x_X10_layComes_b39 (N : Nat) (F_t : St) (x1 : Int32) (x2 : Int32) (x3 : Int32) (x4 : Int32) (x5 : Int32) : Option ((Int32 × (Nat → Int32)) ⊕ ((Nat → Int32))) :=
  if (F_t 16 0) ≤ x5 then (some (.inr (F_t 32))) else (Option.bind (lpc (fun (z : Int32 × (Nat → Int32)) => x_X10_layComes_b51 N (va_up F_t 32 z.2) x1 x2 x3 x4 x5 z.1) N ((0 : Int32), (F_t 32))) (fun v_24 => some (.inl ((x5 + (1 : Int32)), v_24))))
set_option maxHeartbeats 4000000 in
set_option maxRecDepth 100000 in
theorem t_X10_layComes_b39 {p : Program} {l : Launch} {e : Env} {s : State} {m : MethodId} {args : Array Value} {below : List Frame} {meth : Method} {c : Code} {g : gG} {A : Nat → Prop} {Q : State → Prop} (E : En p s m args meth c g A cX10_layComes 11 (.code yX10_layComes cX10_layComes 11 none :: gW) RX10 none) (q_t : Nat) (Q_t : Ad) (N : Nat) (F_t : St) (x1 : Int32) (x2 : Int32) (x3 : Int32) (x4 : Int32) (x5 : Int32) (o : (Int32 × (Nat → Int32)) ⊕ ((Nat → Int32))) (h : x_X10_layComes_b39 N F_t x1 x2 x3 x4 x5 = some o) (hc : ∀ z, o = .inl z → WA p l e (rM 1 23) s m args below meth c g A Q 11 39 [oX10 q_t Q_t (F_t 0 0) (F_t 2 0) (F_t 3 0) (F_t 4 0) (F_t 5 0) (F_t 6 0) (F_t 7 0) (F_t 8 0) (F_t 9 0) (F_t 10 0) (F_t 11 0) (F_t 12 0) (F_t 15 0) (F_t 16 0) (F_t 17 0) (F_t 23 0) (F_t 27 0) (F_t 28 0) (F_t 30 0), ia g (Q_t 18) 16 (F_t 18), ia g (Q_t 19) 30 (F_t 19), ia g (Q_t 20) 174 (F_t 20), ia g (Q_t 32) 8 z.2, ia g (Q_t 33) 8 (F_t 33)] [(0, .ref q_t), (1, .int x1), (2, .int x2), (3, .int x3), (4, .int x4), (5, .int z.1)] []) (he : ∀ v, o = .inr v → WA p l e (rM 1 23) s m args below meth c g A Q 11 198 [oX10 q_t Q_t (F_t 0 0) (F_t 2 0) (F_t 3 0) (F_t 4 0) (F_t 5 0) (F_t 6 0) (F_t 7 0) (F_t 8 0) (F_t 9 0) (F_t 10 0) (F_t 11 0) (F_t 12 0) (F_t 15 0) (F_t 16 0) (F_t 17 0) (F_t 23 0) (F_t 27 0) (F_t 28 0) (F_t 30 0), ia g (Q_t 18) 16 (F_t 18), ia g (Q_t 19) 30 (F_t 19), ia g (Q_t 20) 174 (F_t 20), ia g (Q_t 32) 8 v, ia g (Q_t 33) 8 (F_t 33)] [(0, .ref q_t), (1, .int x1), (2, .int x2), (3, .int x3), (4, .int x4)] []) : WA p l e (rM 1 23) s m args below meth c g A Q 11 39 [oX10 q_t Q_t (F_t 0 0) (F_t 2 0) (F_t 3 0) (F_t 4 0) (F_t 5 0) (F_t 6 0) (F_t 7 0) (F_t 8 0) (F_t 9 0) (F_t 10 0) (F_t 11 0) (F_t 12 0) (F_t 15 0) (F_t 16 0) (F_t 17 0) (F_t 23 0) (F_t 27 0) (F_t 28 0) (F_t 30 0), ia g (Q_t 18) 16 (F_t 18), ia g (Q_t 19) 30 (F_t 19), ia g (Q_t 20) 174 (F_t 20), ia g (Q_t 32) 8 (F_t 32), ia g (Q_t 33) 8 (F_t 33)] [(0, .ref q_t), (1, .int x1), (2, .int x2), (3, .int x3), (4, .int x4), (5, .int x5)] [] := by
  obtain ⟨⟨hx, hb, hml, hown, hts⟩, hr, hK, hA, hlk⟩ := id E
  intro H locs ls hP hD hS hl
  refine lv_iload hx hb dX10_layComes_39 (lv_at hl 5 rfl) ?_
  refine lv_aload_n hx hb dX10_layComes_41 rfl (lv_at hl 0 rfl) ?_
  refine va_get (ci := 10) (v := .int (F_t 16 0)) (C := RX10) (T := TX10) (N := 38) hx hb hts (fun w h => .tail _ (u_inX10 w h)) hown hK.1 hP 0 rfl rfl 16 (by decide) (hts _ (.tail _ u_fl_X10_80)) (fun _ h9 => h9) rfl dX10_layComes_42 ?_
  refine lv_icmp_ge (tgt := 198) hx hb dX10_layComes_45 (by decide) (fun c_5 => ?_) (fun c_5 => ?_)
  · have h := ox_t c_5 h
    obtain rfl := Option.some.inj h
    exact he _ rfl H locs ls hP hD hS (lv_sub hl [0, 1, 2, 3, 4] rfl)
  · have h := ox_f c_5 h
    refine lv_iconst (v := (0 : Int32)) hx hb dX10_layComes_48 (by decide) ?_
    refine lv_istore (lv' := [(6, .int (0 : Int32)), (0, .ref q_t), (1, .int x1), (2, .int x2), (3, .int x3), (4, .int x4), (5, .int x5)]) hx hb dX10_layComes_49 hl (by decide) rfl (fun ls hl => ?_)
    obtain ⟨v_24, hv_24, h⟩ := ox_bind h
    refine lpc_W (Wh := fun (z : Int32 × (Nat → Int32)) => WA p l e (rM 1 23) s m args below meth c g A Q 11 51 [oX10 q_t Q_t (F_t 0 0) (F_t 2 0) (F_t 3 0) (F_t 4 0) (F_t 5 0) (F_t 6 0) (F_t 7 0) (F_t 8 0) (F_t 9 0) (F_t 10 0) (F_t 11 0) (F_t 12 0) (F_t 15 0) (F_t 16 0) (F_t 17 0) (F_t 23 0) (F_t 27 0) (F_t 28 0) (F_t 30 0), ia g (Q_t 18) 16 (F_t 18), ia g (Q_t 19) 30 (F_t 19), ia g (Q_t 20) 174 (F_t 20), ia g (Q_t 32) 8 z.2, ia g (Q_t 33) 8 (F_t 33)] [(0, .ref q_t), (1, .int x1), (2, .int x2), (3, .int x3), (4, .int x4), (5, .int x5), (6, .int z.1)] []) (We := fun (v : (Nat → Int32)) => WA p l e (rM 1 23) s m args below meth c g A Q 11 192 [oX10 q_t Q_t (F_t 0 0) (F_t 2 0) (F_t 3 0) (F_t 4 0) (F_t 5 0) (F_t 6 0) (F_t 7 0) (F_t 8 0) (F_t 9 0) (F_t 10 0) (F_t 11 0) (F_t 12 0) (F_t 15 0) (F_t 16 0) (F_t 17 0) (F_t 23 0) (F_t 27 0) (F_t 28 0) (F_t 30 0), ia g (Q_t 18) 16 (F_t 18), ia g (Q_t 19) 30 (F_t 19), ia g (Q_t 20) 174 (F_t 20), ia g (Q_t 32) 8 v, ia g (Q_t 33) 8 (F_t 33)] [(0, .ref q_t), (1, .int x1), (2, .int x2), (3, .int x3), (4, .int x4), (5, .int x5)] []) (fun z r hb hc he => t_X10_layComes_b51 E q_t Q_t N (va_up F_t 32 z.2) x1 x2 x3 x4 x5 z.1 r hb hc he) N ((0 : Int32), (F_t 32)) v_24 hv_24 ?_ H locs ls hP hD hS (lv_sub hl [1, 2, 3, 4, 5, 6, 0] rfl)
    intro H locs ls hP hD hS hl
    refine lv_iinc (v := (x5 + (1 : Int32))) (lv' := [(5, .int (x5 + (1 : Int32))), (0, .ref q_t), (1, .int x1), (2, .int x2), (3, .int x3), (4, .int x4)]) hx hb dX10_layComes_192 hl (k := 5) rfl rfl (by decide) rfl (fun ls hl => ?_)
    refine lv_goto (tgt := 39) hx hb dX10_layComes_195 (by decide) ?_
    obtain rfl := Option.some.inj h
    exact hc _ rfl H locs ls hP hD hS (lv_sub hl [1, 2, 3, 4, 5, 0] rfl)
def x_X10_layComes_b201_k240 (N : Nat) (F_t : St) (x1 : Int32) (x2 : Int32) (x3 : Int32) (x4 : Int32) (x5 : Int32) (s1 : Int32) (s2 : Int32) : Option ((Int32 × (Nat → Int32)) ⊕ ((Nat → Int32))) :=
  if s1 < 0 ∨ 8 ≤ s1.toNatClampNeg then none else some (.inl ((x5 + (1 : Int32)), (upd (F_t 33) s1.toNatClampNeg s2)))
set_option maxHeartbeats 4000000 in
set_option maxRecDepth 100000 in
theorem t_X10_layComes_b201_k240 {p : Program} {l : Launch} {e : Env} {s : State} {m : MethodId} {args : Array Value} {below : List Frame} {meth : Method} {c : Code} {g : gG} {A : Nat → Prop} {Q : State → Prop} (E : En p s m args meth c g A cX10_layComes 11 (.code yX10_layComes cX10_layComes 11 none :: gW) RX10 none) (q_t : Nat) (Q_t : Ad) (N : Nat) (F_t : St) (x1 : Int32) (x2 : Int32) (x3 : Int32) (x4 : Int32) (x5 : Int32) (s1 : Int32) (s2 : Int32) (o : (Int32 × (Nat → Int32)) ⊕ ((Nat → Int32))) (h : x_X10_layComes_b201_k240 N F_t x1 x2 x3 x4 x5 s1 s2 = some o) (hc : ∀ z, o = .inl z → WA p l e (rM 1 23) s m args below meth c g A Q 11 201 [oX10 q_t Q_t (F_t 0 0) (F_t 2 0) (F_t 3 0) (F_t 4 0) (F_t 5 0) (F_t 6 0) (F_t 7 0) (F_t 8 0) (F_t 9 0) (F_t 10 0) (F_t 11 0) (F_t 12 0) (F_t 15 0) (F_t 16 0) (F_t 17 0) (F_t 23 0) (F_t 27 0) (F_t 28 0) (F_t 30 0), ia g (Q_t 18) 16 (F_t 18), ia g (Q_t 19) 30 (F_t 19), ia g (Q_t 20) 174 (F_t 20), ia g (Q_t 32) 8 (F_t 32), ia g (Q_t 33) 8 z.2] [(0, .ref q_t), (1, .int x1), (2, .int x2), (3, .int x3), (4, .int x4), (5, .int z.1)] []) (he : ∀ v, o = .inr v → WA p l e (rM 1 23) s m args below meth c g A Q 11 247 [oX10 q_t Q_t (F_t 0 0) (F_t 2 0) (F_t 3 0) (F_t 4 0) (F_t 5 0) (F_t 6 0) (F_t 7 0) (F_t 8 0) (F_t 9 0) (F_t 10 0) (F_t 11 0) (F_t 12 0) (F_t 15 0) (F_t 16 0) (F_t 17 0) (F_t 23 0) (F_t 27 0) (F_t 28 0) (F_t 30 0), ia g (Q_t 18) 16 (F_t 18), ia g (Q_t 19) 30 (F_t 19), ia g (Q_t 20) 174 (F_t 20), ia g (Q_t 32) 8 (F_t 32), ia g (Q_t 33) 8 v] [(0, .ref q_t), (1, .int x1), (2, .int x2), (3, .int x3), (4, .int x4)] []) : WA p l e (rM 1 23) s m args below meth c g A Q 11 240 [oX10 q_t Q_t (F_t 0 0) (F_t 2 0) (F_t 3 0) (F_t 4 0) (F_t 5 0) (F_t 6 0) (F_t 7 0) (F_t 8 0) (F_t 9 0) (F_t 10 0) (F_t 11 0) (F_t 12 0) (F_t 15 0) (F_t 16 0) (F_t 17 0) (F_t 23 0) (F_t 27 0) (F_t 28 0) (F_t 30 0), ia g (Q_t 18) 16 (F_t 18), ia g (Q_t 19) 30 (F_t 19), ia g (Q_t 20) 174 (F_t 20), ia g (Q_t 32) 8 (F_t 32), ia g (Q_t 33) 8 (F_t 33)] [(0, .ref q_t), (1, .int x1), (2, .int x2), (3, .int x3), (4, .int x4), (5, .int x5)] [.int s2, .int s1, .ref (Q_t 33)] := by
  obtain ⟨⟨hx, hb, hml, hown, hts⟩, hr, hK, hA, hlk⟩ := id E
  intro H locs ls hP hD hS hl
  obtain ⟨hi_26, h⟩ := ox_chk h
  refine va_iast hx hb hK.1 hP hD hS 5 0 rfl rfl hi_26 dX10_layComes_240 (fun H locs hP hD hS => ?_)
  have hP : va_P g.1 vwCl [oX10 q_t Q_t (F_t 0 0) (F_t 2 0) (F_t 3 0) (F_t 4 0) (F_t 5 0) (F_t 6 0) (F_t 7 0) (F_t 8 0) (F_t 9 0) (F_t 10 0) (F_t 11 0) (F_t 12 0) (F_t 15 0) (F_t 16 0) (F_t 17 0) (F_t 23 0) (F_t 27 0) (F_t 28 0) (F_t 30 0), ia g (Q_t 18) 16 (F_t 18), ia g (Q_t 19) 30 (F_t 19), ia g (Q_t 20) 174 (F_t 20), ia g (Q_t 32) 8 (F_t 32), ia g (Q_t 33) 8 (upd (F_t 33) s1.toNatClampNeg s2)] H := hP
  have hD : va_D A [oX10 q_t Q_t (F_t 0 0) (F_t 2 0) (F_t 3 0) (F_t 4 0) (F_t 5 0) (F_t 6 0) (F_t 7 0) (F_t 8 0) (F_t 9 0) (F_t 10 0) (F_t 11 0) (F_t 12 0) (F_t 15 0) (F_t 16 0) (F_t 17 0) (F_t 23 0) (F_t 27 0) (F_t 28 0) (F_t 30 0), ia g (Q_t 18) 16 (F_t 18), ia g (Q_t 19) 30 (F_t 19), ia g (Q_t 20) 174 (F_t 20), ia g (Q_t 32) 8 (F_t 32), ia g (Q_t 33) 8 (upd (F_t 33) s1.toNatClampNeg s2)] := hD
  refine lv_iinc (v := (x5 + (1 : Int32))) (lv' := [(5, .int (x5 + (1 : Int32))), (0, .ref q_t), (1, .int x1), (2, .int x2), (3, .int x3), (4, .int x4)]) hx hb dX10_layComes_241 hl (k := 5) rfl rfl (by decide) rfl (fun ls hl => ?_)
  refine lv_goto (tgt := 201) hx hb dX10_layComes_244 (by decide) ?_
  obtain rfl := Option.some.inj h
  exact hc _ rfl H locs ls hP hD hS (lv_sub hl [1, 2, 3, 4, 5, 0] rfl)
def x_X10_layComes_b201 (N : Nat) (F_t : St) (x1 : Int32) (x2 : Int32) (x3 : Int32) (x4 : Int32) (x5 : Int32) : Option ((Int32 × (Nat → Int32)) ⊕ ((Nat → Int32))) :=
  if (F_t 16 0) ≤ x5 then (some (.inr (F_t 33))) else (if x5 < 0 ∨ 8 ≤ x5.toNatClampNeg then none else if (60 : Int32) < ((F_t 32) x5.toNatClampNeg) then (x_X10_layComes_b201_k240 N F_t x1 x2 x3 x4 x5 x5 (99 : Int32)) else (if x5 < 0 ∨ 8 ≤ x5.toNatClampNeg then none else x_X10_layComes_b201_k240 N F_t x1 x2 x3 x4 x5 x5 ((F_t 32) x5.toNatClampNeg)))
set_option maxHeartbeats 4000000 in
set_option maxRecDepth 100000 in
theorem t_X10_layComes_b201 {p : Program} {l : Launch} {e : Env} {s : State} {m : MethodId} {args : Array Value} {below : List Frame} {meth : Method} {c : Code} {g : gG} {A : Nat → Prop} {Q : State → Prop} (E : En p s m args meth c g A cX10_layComes 11 (.code yX10_layComes cX10_layComes 11 none :: gW) RX10 none) (q_t : Nat) (Q_t : Ad) (N : Nat) (F_t : St) (x1 : Int32) (x2 : Int32) (x3 : Int32) (x4 : Int32) (x5 : Int32) (o : (Int32 × (Nat → Int32)) ⊕ ((Nat → Int32))) (h : x_X10_layComes_b201 N F_t x1 x2 x3 x4 x5 = some o) (hc : ∀ z, o = .inl z → WA p l e (rM 1 23) s m args below meth c g A Q 11 201 [oX10 q_t Q_t (F_t 0 0) (F_t 2 0) (F_t 3 0) (F_t 4 0) (F_t 5 0) (F_t 6 0) (F_t 7 0) (F_t 8 0) (F_t 9 0) (F_t 10 0) (F_t 11 0) (F_t 12 0) (F_t 15 0) (F_t 16 0) (F_t 17 0) (F_t 23 0) (F_t 27 0) (F_t 28 0) (F_t 30 0), ia g (Q_t 18) 16 (F_t 18), ia g (Q_t 19) 30 (F_t 19), ia g (Q_t 20) 174 (F_t 20), ia g (Q_t 32) 8 (F_t 32), ia g (Q_t 33) 8 z.2] [(0, .ref q_t), (1, .int x1), (2, .int x2), (3, .int x3), (4, .int x4), (5, .int z.1)] []) (he : ∀ v, o = .inr v → WA p l e (rM 1 23) s m args below meth c g A Q 11 247 [oX10 q_t Q_t (F_t 0 0) (F_t 2 0) (F_t 3 0) (F_t 4 0) (F_t 5 0) (F_t 6 0) (F_t 7 0) (F_t 8 0) (F_t 9 0) (F_t 10 0) (F_t 11 0) (F_t 12 0) (F_t 15 0) (F_t 16 0) (F_t 17 0) (F_t 23 0) (F_t 27 0) (F_t 28 0) (F_t 30 0), ia g (Q_t 18) 16 (F_t 18), ia g (Q_t 19) 30 (F_t 19), ia g (Q_t 20) 174 (F_t 20), ia g (Q_t 32) 8 (F_t 32), ia g (Q_t 33) 8 v] [(0, .ref q_t), (1, .int x1), (2, .int x2), (3, .int x3), (4, .int x4)] []) : WA p l e (rM 1 23) s m args below meth c g A Q 11 201 [oX10 q_t Q_t (F_t 0 0) (F_t 2 0) (F_t 3 0) (F_t 4 0) (F_t 5 0) (F_t 6 0) (F_t 7 0) (F_t 8 0) (F_t 9 0) (F_t 10 0) (F_t 11 0) (F_t 12 0) (F_t 15 0) (F_t 16 0) (F_t 17 0) (F_t 23 0) (F_t 27 0) (F_t 28 0) (F_t 30 0), ia g (Q_t 18) 16 (F_t 18), ia g (Q_t 19) 30 (F_t 19), ia g (Q_t 20) 174 (F_t 20), ia g (Q_t 32) 8 (F_t 32), ia g (Q_t 33) 8 (F_t 33)] [(0, .ref q_t), (1, .int x1), (2, .int x2), (3, .int x3), (4, .int x4), (5, .int x5)] [] := by
  obtain ⟨⟨hx, hb, hml, hown, hts⟩, hr, hK, hA, hlk⟩ := id E
  intro H locs ls hP hD hS hl
  refine lv_iload hx hb dX10_layComes_201 (lv_at hl 5 rfl) ?_
  refine lv_aload_n hx hb dX10_layComes_203 rfl (lv_at hl 0 rfl) ?_
  refine va_get (ci := 10) (v := .int (F_t 16 0)) (C := RX10) (T := TX10) (N := 38) hx hb hts (fun w h => .tail _ (u_inX10 w h)) hown hK.1 hP 0 rfl rfl 16 (by decide) (hts _ (.tail _ u_fl_X10_80)) (fun _ h9 => h9) rfl dX10_layComes_204 ?_
  refine lv_icmp_ge (tgt := 247) hx hb dX10_layComes_207 (by decide) (fun c_27 => ?_) (fun c_27 => ?_)
  · have h := ox_t c_27 h
    obtain rfl := Option.some.inj h
    exact he _ rfl H locs ls hP hD hS (lv_sub hl [0, 1, 2, 3, 4] rfl)
  · have h := ox_f c_27 h
    refine lv_aload_n hx hb dX10_layComes_210 rfl (lv_at hl 0 rfl) ?_
    refine va_get (ci := 10) (v := .ref (Q_t 33)) (C := RX10) (T := TX10) (N := 38) hx hb hts (fun w h => .tail _ (u_inX10 w h)) hown hK.1 hP 0 rfl rfl 33 (by decide) (hts _ (.tail _ u_fl_X10_57)) (fun _ h9 => h9) rfl dX10_layComes_211 ?_
    refine lv_iload hx hb dX10_layComes_214 (lv_at hl 5 rfl) ?_
    refine lv_aload_n hx hb dX10_layComes_216 rfl (lv_at hl 0 rfl) ?_
    refine va_get (ci := 10) (v := .ref (Q_t 32)) (C := RX10) (T := TX10) (N := 38) hx hb hts (fun w h => .tail _ (u_inX10 w h)) hown hK.1 hP 0 rfl rfl 32 (by decide) (hts _ (.tail _ u_fl_X10_54)) (fun _ h9 => h9) rfl dX10_layComes_217 ?_
    refine lv_iload hx hb dX10_layComes_220 (lv_at hl 5 rfl) ?_
    obtain ⟨hi_28, h⟩ := ox_chk h
    refine va_iald hx hb hK.1 hP 4 0 rfl rfl hi_28 dX10_layComes_222 ?_
    refine lv_bipush (v := (60 : Int32)) hx hb dX10_layComes_223 (by decide) ?_
    refine lv_icmp_gt (tgt := 238) hx hb dX10_layComes_225 (by decide) (fun c_29 => ?_) (fun c_29 => ?_)
    · have h := ox_t c_29 h
      refine lv_bipush (v := (99 : Int32)) hx hb dX10_layComes_238 (by decide) ?_
      exact t_X10_layComes_b201_k240 E q_t Q_t N F_t x1 x2 x3 x4 x5 x5 (99 : Int32) _ h hc he H locs ls hP hD hS hl
    · have h := ox_f c_29 h
      refine lv_aload_n hx hb dX10_layComes_228 rfl (lv_at hl 0 rfl) ?_
      refine va_get (ci := 10) (v := .ref (Q_t 32)) (C := RX10) (T := TX10) (N := 38) hx hb hts (fun w h => .tail _ (u_inX10 w h)) hown hK.1 hP 0 rfl rfl 32 (by decide) (hts _ (.tail _ u_fl_X10_54)) (fun _ h9 => h9) rfl dX10_layComes_229 ?_
      refine lv_iload hx hb dX10_layComes_232 (lv_at hl 5 rfl) ?_
      obtain ⟨hi_30, h⟩ := ox_chk h
      refine va_iald hx hb hK.1 hP 4 0 rfl rfl hi_30 dX10_layComes_234 ?_
      refine lv_goto (tgt := 240) hx hb dX10_layComes_235 (by decide) ?_
      exact t_X10_layComes_b201_k240 E q_t Q_t N F_t x1 x2 x3 x4 x5 x5 ((F_t 32) x5.toNatClampNeg) _ h hc he H locs ls hP hD hS hl
def x_X10_layComes_b250_k341 (N : Nat) (F_t : St) (x1 : Int32) (x2 : Int32) (x3 : Int32) (x4 : Int32) (x5 : Int32) (x6 : Int32) (x7 : Int32) (s0 : Int32) : Option ((Int32 × (Nat → Int32)) ⊕ ((Nat → Int32))) :=
  if x7 = (-1 : Int32) then (some (.inl ((x5 + (1 : Int32)), (F_t 33)))) else (if s0 = 0 then (some (.inl ((x5 + (1 : Int32)), (F_t 33)))) else (if x6 < 0 ∨ 8 ≤ x6.toNatClampNeg then none else if x7 < 0 ∨ 8 ≤ x7.toNatClampNeg then none else if ((F_t 33) x7.toNatClampNeg) ≤ ((F_t 32) x6.toNatClampNeg) then (some (.inl ((x5 + (1 : Int32)), (F_t 33)))) else (if x6 < 0 ∨ 8 ≤ x6.toNatClampNeg then none else if x7 < 0 ∨ 8 ≤ x7.toNatClampNeg then none else xl ((F_t 32) x6.toNatClampNeg) (fun y_39 => some (.inl ((x5 + (1 : Int32)), (upd (F_t 33) x7.toNatClampNeg y_39)))))))
set_option maxHeartbeats 4000000 in
set_option maxRecDepth 100000 in
theorem t_X10_layComes_b250_k341 {p : Program} {l : Launch} {e : Env} {s : State} {m : MethodId} {args : Array Value} {below : List Frame} {meth : Method} {c : Code} {g : gG} {A : Nat → Prop} {Q : State → Prop} (E : En p s m args meth c g A cX10_layComes 11 (.code yX10_layComes cX10_layComes 11 none :: gW) RX10 none) (q_t : Nat) (Q_t : Ad) (N : Nat) (F_t : St) (x1 : Int32) (x2 : Int32) (x3 : Int32) (x4 : Int32) (x5 : Int32) (x6 : Int32) (x7 : Int32) (s0 : Int32) (o : (Int32 × (Nat → Int32)) ⊕ ((Nat → Int32))) (h : x_X10_layComes_b250_k341 N F_t x1 x2 x3 x4 x5 x6 x7 s0 = some o) (hc : ∀ z, o = .inl z → WA p l e (rM 1 23) s m args below meth c g A Q 11 250 [oX10 q_t Q_t (F_t 0 0) (F_t 2 0) (F_t 3 0) (F_t 4 0) (F_t 5 0) (F_t 6 0) (F_t 7 0) (F_t 8 0) (F_t 9 0) (F_t 10 0) (F_t 11 0) (F_t 12 0) (F_t 15 0) (F_t 16 0) (F_t 17 0) (F_t 23 0) (F_t 27 0) (F_t 28 0) (F_t 30 0), ia g (Q_t 18) 16 (F_t 18), ia g (Q_t 19) 30 (F_t 19), ia g (Q_t 20) 174 (F_t 20), ia g (Q_t 32) 8 (F_t 32), ia g (Q_t 33) 8 z.2] [(0, .ref q_t), (1, .int x1), (2, .int x2), (3, .int x3), (4, .int x4), (5, .int z.1)] []) (he : ∀ v, o = .inr v → WA p l e (rM 1 23) s m args below meth c g A Q 11 391 [oX10 q_t Q_t (F_t 0 0) (F_t 2 0) (F_t 3 0) (F_t 4 0) (F_t 5 0) (F_t 6 0) (F_t 7 0) (F_t 8 0) (F_t 9 0) (F_t 10 0) (F_t 11 0) (F_t 12 0) (F_t 15 0) (F_t 16 0) (F_t 17 0) (F_t 23 0) (F_t 27 0) (F_t 28 0) (F_t 30 0), ia g (Q_t 18) 16 (F_t 18), ia g (Q_t 19) 30 (F_t 19), ia g (Q_t 20) 174 (F_t 20), ia g (Q_t 32) 8 (F_t 32), ia g (Q_t 33) 8 v] [] []) : WA p l e (rM 1 23) s m args below meth c g A Q 11 341 [oX10 q_t Q_t (F_t 0 0) (F_t 2 0) (F_t 3 0) (F_t 4 0) (F_t 5 0) (F_t 6 0) (F_t 7 0) (F_t 8 0) (F_t 9 0) (F_t 10 0) (F_t 11 0) (F_t 12 0) (F_t 15 0) (F_t 16 0) (F_t 17 0) (F_t 23 0) (F_t 27 0) (F_t 28 0) (F_t 30 0), ia g (Q_t 18) 16 (F_t 18), ia g (Q_t 19) 30 (F_t 19), ia g (Q_t 20) 174 (F_t 20), ia g (Q_t 32) 8 (F_t 32), ia g (Q_t 33) 8 (F_t 33)] [(0, .ref q_t), (1, .int x1), (2, .int x2), (3, .int x3), (4, .int x4), (5, .int x5), (6, .int x6), (7, .int x7)] [.int s0] := by
  obtain ⟨⟨hx, hb, hml, hown, hts⟩, hr, hK, hA, hlk⟩ := id E
  intro H locs ls hP hD hS hl
  refine lv_istore (lv' := [(8, .int s0), (0, .ref q_t), (1, .int x1), (2, .int x2), (3, .int x3), (4, .int x4), (5, .int x5), (6, .int x6), (7, .int x7)]) hx hb dX10_layComes_341 hl (by decide) rfl (fun ls hl => ?_)
  refine lv_iload hx hb dX10_layComes_343 (lv_at hl 8 rfl) ?_
  refine lv_iconst (v := (-1 : Int32)) hx hb dX10_layComes_345 (by decide) ?_
  refine lv_icmp_eq (tgt := 385) hx hb dX10_layComes_346 (by decide) (fun c_32 => ?_) (fun c_32 => ?_)
  · have h := ox_t c_32 h
    refine lv_iinc (v := (x5 + (1 : Int32))) (lv' := [(5, .int (x5 + (1 : Int32))), (8, .int s0), (0, .ref q_t), (1, .int x1), (2, .int x2), (3, .int x3), (4, .int x4), (6, .int x6), (7, .int x7)]) hx hb dX10_layComes_385 hl (k := 6) rfl rfl (by decide) rfl (fun ls hl => ?_)
    refine lv_goto (tgt := 250) hx hb dX10_layComes_388 (by decide) ?_
    obtain rfl := Option.some.inj h
    exact hc _ rfl H locs ls hP hD hS (lv_sub hl [2, 3, 4, 5, 6, 0] rfl)
  · have h := ox_f c_32 h
    refine lv_iload hx hb dX10_layComes_349 (lv_at hl 0 rfl) ?_
    refine lv_if_eq (tgt := 385) hx hb dX10_layComes_351 (by decide) (fun c_33 => ?_) (fun c_33 => ?_)
    · have h := ox_t c_33 h
      refine lv_iinc (v := (x5 + (1 : Int32))) (lv' := [(5, .int (x5 + (1 : Int32))), (8, .int s0), (0, .ref q_t), (1, .int x1), (2, .int x2), (3, .int x3), (4, .int x4), (6, .int x6), (7, .int x7)]) hx hb dX10_layComes_385 hl (k := 6) rfl rfl (by decide) rfl (fun ls hl => ?_)
      refine lv_goto (tgt := 250) hx hb dX10_layComes_388 (by decide) ?_
      obtain rfl := Option.some.inj h
      exact hc _ rfl H locs ls hP hD hS (lv_sub hl [2, 3, 4, 5, 6, 0] rfl)
    · have h := ox_f c_33 h
      refine lv_aload_n hx hb dX10_layComes_354 rfl (lv_at hl 1 rfl) ?_
      refine va_get (ci := 10) (v := .ref (Q_t 32)) (C := RX10) (T := TX10) (N := 38) hx hb hts (fun w h => .tail _ (u_inX10 w h)) hown hK.1 hP 0 rfl rfl 32 (by decide) (hts _ (.tail _ u_fl_X10_54)) (fun _ h9 => h9) rfl dX10_layComes_355 ?_
      refine lv_iload hx hb dX10_layComes_358 (lv_at hl 7 rfl) ?_
      obtain ⟨hi_34, h⟩ := ox_chk h
      refine va_iald hx hb hK.1 hP 4 0 rfl rfl hi_34 dX10_layComes_360 ?_
      refine lv_aload_n hx hb dX10_layComes_361 rfl (lv_at hl 1 rfl) ?_
      refine va_get (ci := 10) (v := .ref (Q_t 33)) (C := RX10) (T := TX10) (N := 38) hx hb hts (fun w h => .tail _ (u_inX10 w h)) hown hK.1 hP 0 rfl rfl 33 (by decide) (hts _ (.tail _ u_fl_X10_57)) (fun _ h9 => h9) rfl dX10_layComes_362 ?_
      refine lv_iload hx hb dX10_layComes_365 (lv_at hl 8 rfl) ?_
      obtain ⟨hi_35, h⟩ := ox_chk h
      refine va_iald hx hb hK.1 hP 5 0 rfl rfl hi_35 dX10_layComes_367 ?_
      refine lv_icmp_ge (tgt := 385) hx hb dX10_layComes_368 (by decide) (fun c_36 => ?_) (fun c_36 => ?_)
      · have h := ox_t c_36 h
        refine lv_iinc (v := (x5 + (1 : Int32))) (lv' := [(5, .int (x5 + (1 : Int32))), (8, .int s0), (0, .ref q_t), (1, .int x1), (2, .int x2), (3, .int x3), (4, .int x4), (6, .int x6), (7, .int x7)]) hx hb dX10_layComes_385 hl (k := 6) rfl rfl (by decide) rfl (fun ls hl => ?_)
        refine lv_goto (tgt := 250) hx hb dX10_layComes_388 (by decide) ?_
        obtain rfl := Option.some.inj h
        exact hc _ rfl H locs ls hP hD hS (lv_sub hl [2, 3, 4, 5, 6, 0] rfl)
      · have h := ox_f c_36 h
        refine lv_aload_n hx hb dX10_layComes_371 rfl (lv_at hl 1 rfl) ?_
        refine va_get (ci := 10) (v := .ref (Q_t 33)) (C := RX10) (T := TX10) (N := 38) hx hb hts (fun w h => .tail _ (u_inX10 w h)) hown hK.1 hP 0 rfl rfl 33 (by decide) (hts _ (.tail _ u_fl_X10_57)) (fun _ h9 => h9) rfl dX10_layComes_372 ?_
        refine lv_iload hx hb dX10_layComes_375 (lv_at hl 8 rfl) ?_
        refine lv_aload_n hx hb dX10_layComes_377 rfl (lv_at hl 1 rfl) ?_
        refine va_get (ci := 10) (v := .ref (Q_t 32)) (C := RX10) (T := TX10) (N := 38) hx hb hts (fun w h => .tail _ (u_inX10 w h)) hown hK.1 hP 0 rfl rfl 32 (by decide) (hts _ (.tail _ u_fl_X10_54)) (fun _ h9 => h9) rfl dX10_layComes_378 ?_
        refine lv_iload hx hb dX10_layComes_381 (lv_at hl 7 rfl) ?_
        obtain ⟨hi_37, h⟩ := ox_chk h
        refine va_iald hx hb hK.1 hP 4 0 rfl rfl hi_37 dX10_layComes_383 ?_
        obtain ⟨hi_38, h⟩ := ox_chk h
        refine lv_topi (fun y_39 ey_39 => ?_)
        have h := xl_at ey_39 h
        refine va_iast hx hb hK.1 hP hD hS 5 0 rfl rfl hi_38 dX10_layComes_384 (fun H locs hP hD hS => ?_)
        have hP : va_P g.1 vwCl [oX10 q_t Q_t (F_t 0 0) (F_t 2 0) (F_t 3 0) (F_t 4 0) (F_t 5 0) (F_t 6 0) (F_t 7 0) (F_t 8 0) (F_t 9 0) (F_t 10 0) (F_t 11 0) (F_t 12 0) (F_t 15 0) (F_t 16 0) (F_t 17 0) (F_t 23 0) (F_t 27 0) (F_t 28 0) (F_t 30 0), ia g (Q_t 18) 16 (F_t 18), ia g (Q_t 19) 30 (F_t 19), ia g (Q_t 20) 174 (F_t 20), ia g (Q_t 32) 8 (F_t 32), ia g (Q_t 33) 8 (upd (F_t 33) x7.toNatClampNeg y_39)] H := hP
        have hD : va_D A [oX10 q_t Q_t (F_t 0 0) (F_t 2 0) (F_t 3 0) (F_t 4 0) (F_t 5 0) (F_t 6 0) (F_t 7 0) (F_t 8 0) (F_t 9 0) (F_t 10 0) (F_t 11 0) (F_t 12 0) (F_t 15 0) (F_t 16 0) (F_t 17 0) (F_t 23 0) (F_t 27 0) (F_t 28 0) (F_t 30 0), ia g (Q_t 18) 16 (F_t 18), ia g (Q_t 19) 30 (F_t 19), ia g (Q_t 20) 174 (F_t 20), ia g (Q_t 32) 8 (F_t 32), ia g (Q_t 33) 8 (upd (F_t 33) x7.toNatClampNeg y_39)] := hD
        refine lv_iinc (v := (x5 + (1 : Int32))) (lv' := [(5, .int (x5 + (1 : Int32))), (8, .int s0), (0, .ref q_t), (1, .int x1), (2, .int x2), (3, .int x3), (4, .int x4), (6, .int x6), (7, .int x7)]) hx hb dX10_layComes_385 hl (k := 6) rfl rfl (by decide) rfl (fun ls hl => ?_)
        refine lv_goto (tgt := 250) hx hb dX10_layComes_388 (by decide) ?_
        obtain rfl := Option.some.inj h
        exact hc _ rfl H locs ls hP hD hS (lv_sub hl [2, 3, 4, 5, 6, 0] rfl)
def x_X10_layComes_b250_k340 (N : Nat) (F_t : St) (x1 : Int32) (x2 : Int32) (x3 : Int32) (x4 : Int32) (x5 : Int32) (x6 : Int32) (x7 : Int32) : Option ((Int32 × (Nat → Int32)) ⊕ ((Nat → Int32))) :=
  x_X10_layComes_b250_k341 N F_t x1 x2 x3 x4 x5 x6 x7 (0 : Int32)
set_option maxHeartbeats 4000000 in
set_option maxRecDepth 100000 in
theorem t_X10_layComes_b250_k340 {p : Program} {l : Launch} {e : Env} {s : State} {m : MethodId} {args : Array Value} {below : List Frame} {meth : Method} {c : Code} {g : gG} {A : Nat → Prop} {Q : State → Prop} (E : En p s m args meth c g A cX10_layComes 11 (.code yX10_layComes cX10_layComes 11 none :: gW) RX10 none) (q_t : Nat) (Q_t : Ad) (N : Nat) (F_t : St) (x1 : Int32) (x2 : Int32) (x3 : Int32) (x4 : Int32) (x5 : Int32) (x6 : Int32) (x7 : Int32) (o : (Int32 × (Nat → Int32)) ⊕ ((Nat → Int32))) (h : x_X10_layComes_b250_k340 N F_t x1 x2 x3 x4 x5 x6 x7 = some o) (hc : ∀ z, o = .inl z → WA p l e (rM 1 23) s m args below meth c g A Q 11 250 [oX10 q_t Q_t (F_t 0 0) (F_t 2 0) (F_t 3 0) (F_t 4 0) (F_t 5 0) (F_t 6 0) (F_t 7 0) (F_t 8 0) (F_t 9 0) (F_t 10 0) (F_t 11 0) (F_t 12 0) (F_t 15 0) (F_t 16 0) (F_t 17 0) (F_t 23 0) (F_t 27 0) (F_t 28 0) (F_t 30 0), ia g (Q_t 18) 16 (F_t 18), ia g (Q_t 19) 30 (F_t 19), ia g (Q_t 20) 174 (F_t 20), ia g (Q_t 32) 8 (F_t 32), ia g (Q_t 33) 8 z.2] [(0, .ref q_t), (1, .int x1), (2, .int x2), (3, .int x3), (4, .int x4), (5, .int z.1)] []) (he : ∀ v, o = .inr v → WA p l e (rM 1 23) s m args below meth c g A Q 11 391 [oX10 q_t Q_t (F_t 0 0) (F_t 2 0) (F_t 3 0) (F_t 4 0) (F_t 5 0) (F_t 6 0) (F_t 7 0) (F_t 8 0) (F_t 9 0) (F_t 10 0) (F_t 11 0) (F_t 12 0) (F_t 15 0) (F_t 16 0) (F_t 17 0) (F_t 23 0) (F_t 27 0) (F_t 28 0) (F_t 30 0), ia g (Q_t 18) 16 (F_t 18), ia g (Q_t 19) 30 (F_t 19), ia g (Q_t 20) 174 (F_t 20), ia g (Q_t 32) 8 (F_t 32), ia g (Q_t 33) 8 v] [] []) : WA p l e (rM 1 23) s m args below meth c g A Q 11 340 [oX10 q_t Q_t (F_t 0 0) (F_t 2 0) (F_t 3 0) (F_t 4 0) (F_t 5 0) (F_t 6 0) (F_t 7 0) (F_t 8 0) (F_t 9 0) (F_t 10 0) (F_t 11 0) (F_t 12 0) (F_t 15 0) (F_t 16 0) (F_t 17 0) (F_t 23 0) (F_t 27 0) (F_t 28 0) (F_t 30 0), ia g (Q_t 18) 16 (F_t 18), ia g (Q_t 19) 30 (F_t 19), ia g (Q_t 20) 174 (F_t 20), ia g (Q_t 32) 8 (F_t 32), ia g (Q_t 33) 8 (F_t 33)] [(0, .ref q_t), (1, .int x1), (2, .int x2), (3, .int x3), (4, .int x4), (5, .int x5), (6, .int x6), (7, .int x7)] [] := by
  obtain ⟨⟨hx, hb, hml, hown, hts⟩, hr, hK, hA, hlk⟩ := id E
  intro H locs ls hP hD hS hl
  refine lv_iconst (v := (0 : Int32)) hx hb dX10_layComes_340 (by decide) ?_
  exact t_X10_layComes_b250_k341 E q_t Q_t N F_t x1 x2 x3 x4 x5 x6 x7 (0 : Int32) _ h hc he H locs ls hP hD hS hl
def x_X10_layComes_b250_k301 (N : Nat) (F_t : St) (x1 : Int32) (x2 : Int32) (x3 : Int32) (x4 : Int32) (x5 : Int32) (x6 : Int32) (s0 : Int32) : Option ((Int32 × (Nat → Int32)) ⊕ ((Nat → Int32))) :=
  if x6 < 0 ∨ 8 ≤ x6.toNatClampNeg then none else if (60 : Int32) < ((F_t 32) x6.toNatClampNeg) then (x_X10_layComes_b250_k340 N F_t x1 x2 x3 x4 x5 x6 s0) else (Option.bind (x_X10_has x2 x5) (fun v_42 => if v_42 = 0 then (Option.bind (x_X10_goesOn F_t x6 ((1 : Int32) <<< (x1 &&& 31))) (fun v_44 => if v_44 = 0 then (x_X10_layComes_b250_k340 N F_t x1 x2 x3 x4 x5 x6 s0) else (x_X10_layComes_b250_k341 N F_t x1 x2 x3 x4 x5 x6 s0 (1 : Int32)))) else (x_X10_layComes_b250_k340 N F_t x1 x2 x3 x4 x5 x6 s0)))
set_option maxHeartbeats 4000000 in
set_option maxRecDepth 100000 in
theorem t_X10_layComes_b250_k301 {p : Program} {l : Launch} {e : Env} {s : State} {m : MethodId} {args : Array Value} {below : List Frame} {meth : Method} {c : Code} {g : gG} {A : Nat → Prop} {Q : State → Prop} (E : En p s m args meth c g A cX10_layComes 11 (.code yX10_layComes cX10_layComes 11 none :: gW) RX10 none) (q_t : Nat) (Q_t : Ad) (N : Nat) (F_t : St) (x1 : Int32) (x2 : Int32) (x3 : Int32) (x4 : Int32) (x5 : Int32) (x6 : Int32) (s0 : Int32) (o : (Int32 × (Nat → Int32)) ⊕ ((Nat → Int32))) (h : x_X10_layComes_b250_k301 N F_t x1 x2 x3 x4 x5 x6 s0 = some o) (hc : ∀ z, o = .inl z → WA p l e (rM 1 23) s m args below meth c g A Q 11 250 [oX10 q_t Q_t (F_t 0 0) (F_t 2 0) (F_t 3 0) (F_t 4 0) (F_t 5 0) (F_t 6 0) (F_t 7 0) (F_t 8 0) (F_t 9 0) (F_t 10 0) (F_t 11 0) (F_t 12 0) (F_t 15 0) (F_t 16 0) (F_t 17 0) (F_t 23 0) (F_t 27 0) (F_t 28 0) (F_t 30 0), ia g (Q_t 18) 16 (F_t 18), ia g (Q_t 19) 30 (F_t 19), ia g (Q_t 20) 174 (F_t 20), ia g (Q_t 32) 8 (F_t 32), ia g (Q_t 33) 8 z.2] [(0, .ref q_t), (1, .int x1), (2, .int x2), (3, .int x3), (4, .int x4), (5, .int z.1)] []) (he : ∀ v, o = .inr v → WA p l e (rM 1 23) s m args below meth c g A Q 11 391 [oX10 q_t Q_t (F_t 0 0) (F_t 2 0) (F_t 3 0) (F_t 4 0) (F_t 5 0) (F_t 6 0) (F_t 7 0) (F_t 8 0) (F_t 9 0) (F_t 10 0) (F_t 11 0) (F_t 12 0) (F_t 15 0) (F_t 16 0) (F_t 17 0) (F_t 23 0) (F_t 27 0) (F_t 28 0) (F_t 30 0), ia g (Q_t 18) 16 (F_t 18), ia g (Q_t 19) 30 (F_t 19), ia g (Q_t 20) 174 (F_t 20), ia g (Q_t 32) 8 (F_t 32), ia g (Q_t 33) 8 v] [] []) : WA p l e (rM 1 23) s m args below meth c g A Q 11 301 [oX10 q_t Q_t (F_t 0 0) (F_t 2 0) (F_t 3 0) (F_t 4 0) (F_t 5 0) (F_t 6 0) (F_t 7 0) (F_t 8 0) (F_t 9 0) (F_t 10 0) (F_t 11 0) (F_t 12 0) (F_t 15 0) (F_t 16 0) (F_t 17 0) (F_t 23 0) (F_t 27 0) (F_t 28 0) (F_t 30 0), ia g (Q_t 18) 16 (F_t 18), ia g (Q_t 19) 30 (F_t 19), ia g (Q_t 20) 174 (F_t 20), ia g (Q_t 32) 8 (F_t 32), ia g (Q_t 33) 8 (F_t 33)] [(0, .ref q_t), (1, .int x1), (2, .int x2), (3, .int x3), (4, .int x4), (5, .int x5), (6, .int x6)] [.int s0] := by
  obtain ⟨⟨hx, hb, hml, hown, hts⟩, hr, hK, hA, hlk⟩ := id E
  intro H locs ls hP hD hS hl
  refine lv_istore (lv' := [(7, .int s0), (0, .ref q_t), (1, .int x1), (2, .int x2), (3, .int x3), (4, .int x4), (5, .int x5), (6, .int x6)]) hx hb dX10_layComes_301 hl (by decide) rfl (fun ls hl => ?_)
  refine lv_aload_n hx hb dX10_layComes_303 rfl (lv_at hl 1 rfl) ?_
  refine va_get (ci := 10) (v := .ref (Q_t 32)) (C := RX10) (T := TX10) (N := 38) hx hb hts (fun w h => .tail _ (u_inX10 w h)) hown hK.1 hP 0 rfl rfl 32 (by decide) (hts _ (.tail _ u_fl_X10_54)) (fun _ h9 => h9) rfl dX10_layComes_304 ?_
  refine lv_iload hx hb dX10_layComes_307 (lv_at hl 7 rfl) ?_
  obtain ⟨hi_40, h⟩ := ox_chk h
  refine va_iald hx hb hK.1 hP 4 0 rfl rfl hi_40 dX10_layComes_309 ?_
  refine lv_bipush (v := (60 : Int32)) hx hb dX10_layComes_310 (by decide) ?_
  refine lv_icmp_gt (tgt := 340) hx hb dX10_layComes_312 (by decide) (fun c_41 => ?_) (fun c_41 => ?_)
  · have h := ox_t c_41 h
    exact t_X10_layComes_b250_k340 E q_t Q_t N F_t x1 x2 x3 x4 x5 x6 s0 _ h hc he H locs ls hP hD hS (lv_sub hl [1, 2, 3, 4, 5, 6, 7, 0] rfl)
  · have h := ox_f c_41 h
    refine lv_iload_n hx hb dX10_layComes_315 rfl (lv_at hl 3 rfl) ?_
    refine lv_iload hx hb dX10_layComes_316 (lv_at hl 6 rfl) ?_
    obtain ⟨v_42, hv_42, h⟩ := ox_bind h
    refine kSi ⟨hx, hb, hml, hown, hts⟩ (c_X10_has l g x2 x5 v_42 hv_42 H.size) (gS u_ml_X10_194 u_st_X10_has u_ini_X10 u_co_X10_has) hd_X10_has ⟨rfl, rfl⟩ hK hP hD hS hA [] [0, 1, 2, 3, 4, 5] rfl rfl 0 rfl (w2 := [oX10 q_t Q_t (F_t 0 0) (F_t 2 0) (F_t 3 0) (F_t 4 0) (F_t 5 0) (F_t 6 0) (F_t 7 0) (F_t 8 0) (F_t 9 0) (F_t 10 0) (F_t 11 0) (F_t 12 0) (F_t 15 0) (F_t 16 0) (F_t 17 0) (F_t 23 0) (F_t 27 0) (F_t 28 0) (F_t 30 0), ia g (Q_t 18) 16 (F_t 18), ia g (Q_t 19) 30 (F_t 19), ia g (Q_t 20) 174 (F_t 20), ia g (Q_t 32) 8 (F_t 32), ia g (Q_t 33) 8 (F_t 33)]) rfl rfl (As := [.int x2, .int x5]) (rest := []) rfl hl.1 rfl rfl dX10_layComes_318 (fun H locs hP hD hS => ?_)
    refine lv_if_ne (tgt := 340) hx hb dX10_layComes_321 (by decide) (fun c_43 => ?_) (fun c_43 => ?_)
    · have h := ox_f c_43 h
      exact t_X10_layComes_b250_k340 E q_t Q_t N F_t x1 x2 x3 x4 x5 x6 s0 _ h hc he H locs ls hP hD hS (lv_sub hl [1, 2, 3, 4, 5, 6, 7, 0] rfl)
    · have h := ox_t c_43 h
      refine lv_aload_n hx hb dX10_layComes_324 rfl (lv_at hl 1 rfl) ?_
      refine lv_iload hx hb dX10_layComes_325 (lv_at hl 7 rfl) ?_
      refine lv_iconst (v := (1 : Int32)) hx hb dX10_layComes_327 (by decide) ?_
      refine lv_iload_n hx hb dX10_layComes_328 rfl (lv_at hl 2 rfl) ?_
      refine lv_ishl hx hb dX10_layComes_329 ?_
      obtain ⟨v_44, hv_44, h⟩ := ox_bind h
      refine kVi ⟨hx, hb, hml, hown, hts⟩ (c_X10_goesOn l g q_t Q_t F_t x6 ((1 : Int32) <<< (x1 &&& 31)) v_44 hv_44 H.size) (gV u_ml_X10_201 u_im_X10_goesOn u_se_X10_goesOn u_ini_X10 u_co_X10_goesOn) hd_X10_goesOn ⟨rfl, rfl⟩ hK hP hD hS hA 0 10 rfl rfl [0, 1] [0, 1, 4, 5, 6, 7] rfl rfl 2 rfl (w2 := [oX10 q_t Q_t (F_t 0 0) (F_t 2 0) (F_t 3 0) (F_t 4 0) (F_t 5 0) (F_t 6 0) (F_t 7 0) (F_t 8 0) (F_t 9 0) (F_t 10 0) (F_t 11 0) (F_t 12 0) (F_t 15 0) (F_t 16 0) (F_t 17 0) (F_t 23 0) (F_t 27 0) (F_t 28 0) (F_t 30 0), ia g (Q_t 18) 16 (F_t 18), ia g (Q_t 19) 30 (F_t 19), ia g (Q_t 20) 174 (F_t 20), ia g (Q_t 32) 8 (F_t 32), ia g (Q_t 33) 8 (F_t 33)]) rfl rfl (As := [.int x6, .int ((1 : Int32) <<< (x1 &&& 31))]) (rest := []) rfl hl.1 rfl rfl dX10_layComes_330 (fun H locs hP hD hS => ?_)
      refine lv_if_eq (tgt := 340) hx hb dX10_layComes_333 (by decide) (fun c_45 => ?_) (fun c_45 => ?_)
      · have h := ox_t c_45 h
        exact t_X10_layComes_b250_k340 E q_t Q_t N F_t x1 x2 x3 x4 x5 x6 s0 _ h hc he H locs ls hP hD hS (lv_sub hl [1, 2, 3, 4, 5, 6, 7, 0] rfl)
      · have h := ox_f c_45 h
        refine lv_iconst (v := (1 : Int32)) hx hb dX10_layComes_336 (by decide) ?_
        refine lv_goto (tgt := 341) hx hb dX10_layComes_337 (by decide) ?_
        exact t_X10_layComes_b250_k341 E q_t Q_t N F_t x1 x2 x3 x4 x5 x6 s0 (1 : Int32) _ h hc he H locs ls hP hD hS (lv_sub hl [1, 2, 3, 4, 5, 6, 7, 0] rfl)
def x_X10_layComes_b250 (N : Nat) (F_t : St) (x1 : Int32) (x2 : Int32) (x3 : Int32) (x4 : Int32) (x5 : Int32) : Option ((Int32 × (Nat → Int32)) ⊕ ((Nat → Int32))) :=
  if (F_t 17 0) ≤ x5 then (some (.inr (F_t 33))) else (if ((3 : Int32) * x5) < 0 ∨ 30 ≤ ((3 : Int32) * x5).toNatClampNeg then none else xl ((F_t 19) ((3 : Int32) * x5).toNatClampNeg) (fun y_48 => if x3 = (-1 : Int32) then (if ((162 : Int32) + x5) < 0 ∨ 174 ≤ ((162 : Int32) + x5).toNatClampNeg then none else x_X10_layComes_b250_k301 N F_t x1 x2 x3 x4 x5 y_48 ((F_t 20) ((162 : Int32) + x5).toNatClampNeg)) else (if x3 = x5 then (x_X10_layComes_b250_k301 N F_t x1 x2 x3 x4 x5 y_48 x4) else (x_X10_layComes_b250_k301 N F_t x1 x2 x3 x4 x5 y_48 (-1 : Int32)))))
set_option maxHeartbeats 4000000 in
set_option maxRecDepth 100000 in
theorem t_X10_layComes_b250 {p : Program} {l : Launch} {e : Env} {s : State} {m : MethodId} {args : Array Value} {below : List Frame} {meth : Method} {c : Code} {g : gG} {A : Nat → Prop} {Q : State → Prop} (E : En p s m args meth c g A cX10_layComes 11 (.code yX10_layComes cX10_layComes 11 none :: gW) RX10 none) (q_t : Nat) (Q_t : Ad) (N : Nat) (F_t : St) (x1 : Int32) (x2 : Int32) (x3 : Int32) (x4 : Int32) (x5 : Int32) (o : (Int32 × (Nat → Int32)) ⊕ ((Nat → Int32))) (h : x_X10_layComes_b250 N F_t x1 x2 x3 x4 x5 = some o) (hc : ∀ z, o = .inl z → WA p l e (rM 1 23) s m args below meth c g A Q 11 250 [oX10 q_t Q_t (F_t 0 0) (F_t 2 0) (F_t 3 0) (F_t 4 0) (F_t 5 0) (F_t 6 0) (F_t 7 0) (F_t 8 0) (F_t 9 0) (F_t 10 0) (F_t 11 0) (F_t 12 0) (F_t 15 0) (F_t 16 0) (F_t 17 0) (F_t 23 0) (F_t 27 0) (F_t 28 0) (F_t 30 0), ia g (Q_t 18) 16 (F_t 18), ia g (Q_t 19) 30 (F_t 19), ia g (Q_t 20) 174 (F_t 20), ia g (Q_t 32) 8 (F_t 32), ia g (Q_t 33) 8 z.2] [(0, .ref q_t), (1, .int x1), (2, .int x2), (3, .int x3), (4, .int x4), (5, .int z.1)] []) (he : ∀ v, o = .inr v → WA p l e (rM 1 23) s m args below meth c g A Q 11 391 [oX10 q_t Q_t (F_t 0 0) (F_t 2 0) (F_t 3 0) (F_t 4 0) (F_t 5 0) (F_t 6 0) (F_t 7 0) (F_t 8 0) (F_t 9 0) (F_t 10 0) (F_t 11 0) (F_t 12 0) (F_t 15 0) (F_t 16 0) (F_t 17 0) (F_t 23 0) (F_t 27 0) (F_t 28 0) (F_t 30 0), ia g (Q_t 18) 16 (F_t 18), ia g (Q_t 19) 30 (F_t 19), ia g (Q_t 20) 174 (F_t 20), ia g (Q_t 32) 8 (F_t 32), ia g (Q_t 33) 8 v] [] []) : WA p l e (rM 1 23) s m args below meth c g A Q 11 250 [oX10 q_t Q_t (F_t 0 0) (F_t 2 0) (F_t 3 0) (F_t 4 0) (F_t 5 0) (F_t 6 0) (F_t 7 0) (F_t 8 0) (F_t 9 0) (F_t 10 0) (F_t 11 0) (F_t 12 0) (F_t 15 0) (F_t 16 0) (F_t 17 0) (F_t 23 0) (F_t 27 0) (F_t 28 0) (F_t 30 0), ia g (Q_t 18) 16 (F_t 18), ia g (Q_t 19) 30 (F_t 19), ia g (Q_t 20) 174 (F_t 20), ia g (Q_t 32) 8 (F_t 32), ia g (Q_t 33) 8 (F_t 33)] [(0, .ref q_t), (1, .int x1), (2, .int x2), (3, .int x3), (4, .int x4), (5, .int x5)] [] := by
  obtain ⟨⟨hx, hb, hml, hown, hts⟩, hr, hK, hA, hlk⟩ := id E
  intro H locs ls hP hD hS hl
  refine lv_iload hx hb dX10_layComes_250 (lv_at hl 5 rfl) ?_
  refine lv_aload_n hx hb dX10_layComes_252 rfl (lv_at hl 0 rfl) ?_
  refine va_get (ci := 10) (v := .int (F_t 17 0)) (C := RX10) (T := TX10) (N := 38) hx hb hts (fun w h => .tail _ (u_inX10 w h)) hown hK.1 hP 0 rfl rfl 17 (by decide) (hts _ (.tail _ u_fl_X10_87)) (fun _ h9 => h9) rfl dX10_layComes_253 ?_
  refine lv_icmp_ge (tgt := 391) hx hb dX10_layComes_256 (by decide) (fun c_46 => ?_) (fun c_46 => ?_)
  · have h := ox_t c_46 h
    obtain rfl := Option.some.inj h
    exact he _ rfl H locs ls hP hD hS (lv_sub hl [] rfl)
  · have h := ox_f c_46 h
    refine lv_aload_n hx hb dX10_layComes_259 rfl (lv_at hl 0 rfl) ?_
    refine va_get (ci := 10) (v := .ref (Q_t 19)) (C := RX10) (T := TX10) (N := 38) hx hb hts (fun w h => .tail _ (u_inX10 w h)) hown hK.1 hP 0 rfl rfl 19 (by decide) (hts _ (.tail _ u_fl_X10_26)) (fun _ h9 => h9) rfl dX10_layComes_260 ?_
    refine lv_iconst (v := (3 : Int32)) hx hb dX10_layComes_263 (by decide) ?_
    refine lv_iload hx hb dX10_layComes_264 (lv_at hl 5 rfl) ?_
    refine lv_imul hx hb dX10_layComes_266 ?_
    obtain ⟨hi_47, h⟩ := ox_chk h
    refine va_iald hx hb hK.1 hP 2 0 rfl rfl hi_47 dX10_layComes_267 ?_
    refine lv_topi (fun y_48 ey_48 => ?_)
    have h := xl_at ey_48 h
    refine lv_istore (lv' := [(6, .int y_48), (0, .ref q_t), (1, .int x1), (2, .int x2), (3, .int x3), (4, .int x4), (5, .int x5)]) hx hb dX10_layComes_268 hl (by decide) rfl (fun ls hl => ?_)
    refine lv_iload_n hx hb dX10_layComes_270 rfl (lv_at hl 4 rfl) ?_
    refine lv_iconst (v := (-1 : Int32)) hx hb dX10_layComes_271 (by decide) ?_
    refine lv_icmp_ne (tgt := 289) hx hb dX10_layComes_272 (by decide) (fun c_49 => ?_) (fun c_49 => ?_)
    · have h := ox_f c_49 h
      refine lv_iload_n hx hb dX10_layComes_289 rfl (lv_at hl 4 rfl) ?_
      refine lv_iload hx hb dX10_layComes_290 (lv_at hl 6 rfl) ?_
      refine lv_icmp_ne (tgt := 300) hx hb dX10_layComes_292 (by decide) (fun c_50 => ?_) (fun c_50 => ?_)
      · have h := ox_f c_50 h
        refine lv_iconst (v := (-1 : Int32)) hx hb dX10_layComes_300 (by decide) ?_
        exact t_X10_layComes_b250_k301 E q_t Q_t N F_t x1 x2 x3 x4 x5 y_48 (-1 : Int32) _ h hc he H locs ls hP hD hS (lv_sub hl [1, 2, 3, 4, 5, 6, 0] rfl)
      · have h := ox_t c_50 h
        refine lv_iload hx hb dX10_layComes_295 (lv_at hl 5 rfl) ?_
        refine lv_goto (tgt := 301) hx hb dX10_layComes_297 (by decide) ?_
        exact t_X10_layComes_b250_k301 E q_t Q_t N F_t x1 x2 x3 x4 x5 y_48 x4 _ h hc he H locs ls hP hD hS (lv_sub hl [1, 2, 3, 4, 5, 6, 0] rfl)
    · have h := ox_t c_49 h
      refine lv_aload_n hx hb dX10_layComes_275 rfl (lv_at hl 1 rfl) ?_
      refine va_get (ci := 10) (v := .ref (Q_t 20)) (C := RX10) (T := TX10) (N := 38) hx hb hts (fun w h => .tail _ (u_inX10 w h)) hown hK.1 hP 0 rfl rfl 20 (by decide) (hts _ (.tail _ u_fl_X10_29)) (fun _ h9 => h9) rfl dX10_layComes_276 ?_
      refine lv_sipush (v := (162 : Int32)) hx hb dX10_layComes_279 (by decide) ?_
      refine lv_iload hx hb dX10_layComes_282 (lv_at hl 6 rfl) ?_
      refine lv_iadd hx hb dX10_layComes_284 ?_
      obtain ⟨hi_51, h⟩ := ox_chk h
      refine va_iald hx hb hK.1 hP 3 0 rfl rfl hi_51 dX10_layComes_285 ?_
      refine lv_goto (tgt := 301) hx hb dX10_layComes_286 (by decide) ?_
      exact t_X10_layComes_b250_k301 E q_t Q_t N F_t x1 x2 x3 x4 x5 y_48 ((F_t 20) ((162 : Int32) + x5).toNatClampNeg) _ h hc he H locs ls hP hD hS (lv_sub hl [1, 2, 3, 4, 5, 6, 0] rfl)
def x_X10_layComes (N : Nat) (F_t : St) (x1 : Int32) (x2 : Int32) (x3 : Int32) (x4 : Int32) : Option ((Nat → Int32) × (Nat → Int32)) :=
  Option.bind (lpc (fun (z : Int32 × (Nat → Int32)) => x_X10_layComes_b3 N (va_up F_t 32 z.2) x1 x2 x3 x4 z.1) N ((0 : Int32), (F_t 32))) (fun v_4 => Option.bind (lpc (fun (z : Int32 × (Nat → Int32)) => x_X10_layComes_b39 N (va_up F_t 32 z.2) x1 x2 x3 x4 z.1) N ((0 : Int32), v_4)) (fun v_25 => Option.bind (lpc (fun (z : Int32 × (Nat → Int32)) => x_X10_layComes_b201 N (va_up (va_up F_t 32 v_25) 33 z.2) x1 x2 x3 x4 z.1) N ((0 : Int32), (F_t 33))) (fun v_31 => Option.bind (lpc (fun (z : Int32 × (Nat → Int32)) => x_X10_layComes_b250 N (va_up (va_up F_t 32 v_25) 33 z.2) x1 x2 x3 x4 z.1) N ((0 : Int32), v_31)) (fun v_52 => some (v_25, v_52)))))
set_option maxHeartbeats 4000000 in
set_option maxRecDepth 100000 in
theorem t_X10_layComes {p : Program} {l : Launch} {e : Env} {s : State} {m : MethodId} {args : Array Value} {below : List Frame} {meth : Method} {c : Code} {g : gG} {A : Nat → Prop} (E : En p s m args meth c g A cX10_layComes 11 (.code yX10_layComes cX10_layComes 11 none :: gW) RX10 none) (q_t : Nat) (Q_t : Ad) (N : Nat) (F_t : St) (x1 : Int32) (x2 : Int32) (x3 : Int32) (x4 : Int32) (o : (Nat → Int32) × (Nat → Int32)) (h : x_X10_layComes N F_t x1 x2 x3 x4 = some o) : WA p l e (rM 1 23) s m args below meth c g A (MQ below (QV g A [oX10 q_t Q_t (F_t 0 0) (F_t 2 0) (F_t 3 0) (F_t 4 0) (F_t 5 0) (F_t 6 0) (F_t 7 0) (F_t 8 0) (F_t 9 0) (F_t 10 0) (F_t 11 0) (F_t 12 0) (F_t 15 0) (F_t 16 0) (F_t 17 0) (F_t 23 0) (F_t 27 0) (F_t 28 0) (F_t 30 0), ia g (Q_t 18) 16 (F_t 18), ia g (Q_t 19) 30 (F_t 19), ia g (Q_t 20) 174 (F_t 20), ia g (Q_t 32) 8 o.1, ia g (Q_t 33) 8 o.2]) args s 0 0 A) 11 0 [oX10 q_t Q_t (F_t 0 0) (F_t 2 0) (F_t 3 0) (F_t 4 0) (F_t 5 0) (F_t 6 0) (F_t 7 0) (F_t 8 0) (F_t 9 0) (F_t 10 0) (F_t 11 0) (F_t 12 0) (F_t 15 0) (F_t 16 0) (F_t 17 0) (F_t 23 0) (F_t 27 0) (F_t 28 0) (F_t 30 0), ia g (Q_t 18) 16 (F_t 18), ia g (Q_t 19) 30 (F_t 19), ia g (Q_t 20) 174 (F_t 20), ia g (Q_t 32) 8 (F_t 32), ia g (Q_t 33) 8 (F_t 33)] [(0, .ref q_t), (1, .int x1), (2, .int x2), (3, .int x3), (4, .int x4)] [] := by
  obtain ⟨⟨hx, hb, hml, hown, hts⟩, hr, hK, hA, hlk⟩ := id E
  intro H locs ls hP hD hS hl
  refine lv_iconst (v := (0 : Int32)) hx hb dX10_layComes_0 (by decide) ?_
  refine lv_istore (lv' := [(5, .int (0 : Int32)), (0, .ref q_t), (1, .int x1), (2, .int x2), (3, .int x3), (4, .int x4)]) hx hb dX10_layComes_1 hl (by decide) rfl (fun ls hl => ?_)
  obtain ⟨v_4, hv_4, h⟩ := ox_bind h
  refine lpc_W (Wh := fun (z : Int32 × (Nat → Int32)) => WA p l e (rM 1 23) s m args below meth c g A (MQ below (QV g A [oX10 q_t Q_t (F_t 0 0) (F_t 2 0) (F_t 3 0) (F_t 4 0) (F_t 5 0) (F_t 6 0) (F_t 7 0) (F_t 8 0) (F_t 9 0) (F_t 10 0) (F_t 11 0) (F_t 12 0) (F_t 15 0) (F_t 16 0) (F_t 17 0) (F_t 23 0) (F_t 27 0) (F_t 28 0) (F_t 30 0), ia g (Q_t 18) 16 (F_t 18), ia g (Q_t 19) 30 (F_t 19), ia g (Q_t 20) 174 (F_t 20), ia g (Q_t 32) 8 o.1, ia g (Q_t 33) 8 o.2]) args s 0 0 A) 11 3 [oX10 q_t Q_t (F_t 0 0) (F_t 2 0) (F_t 3 0) (F_t 4 0) (F_t 5 0) (F_t 6 0) (F_t 7 0) (F_t 8 0) (F_t 9 0) (F_t 10 0) (F_t 11 0) (F_t 12 0) (F_t 15 0) (F_t 16 0) (F_t 17 0) (F_t 23 0) (F_t 27 0) (F_t 28 0) (F_t 30 0), ia g (Q_t 18) 16 (F_t 18), ia g (Q_t 19) 30 (F_t 19), ia g (Q_t 20) 174 (F_t 20), ia g (Q_t 32) 8 z.2, ia g (Q_t 33) 8 (F_t 33)] [(0, .ref q_t), (1, .int x1), (2, .int x2), (3, .int x3), (4, .int x4), (5, .int z.1)] []) (We := fun (v : (Nat → Int32)) => WA p l e (rM 1 23) s m args below meth c g A (MQ below (QV g A [oX10 q_t Q_t (F_t 0 0) (F_t 2 0) (F_t 3 0) (F_t 4 0) (F_t 5 0) (F_t 6 0) (F_t 7 0) (F_t 8 0) (F_t 9 0) (F_t 10 0) (F_t 11 0) (F_t 12 0) (F_t 15 0) (F_t 16 0) (F_t 17 0) (F_t 23 0) (F_t 27 0) (F_t 28 0) (F_t 30 0), ia g (Q_t 18) 16 (F_t 18), ia g (Q_t 19) 30 (F_t 19), ia g (Q_t 20) 174 (F_t 20), ia g (Q_t 32) 8 o.1, ia g (Q_t 33) 8 o.2]) args s 0 0 A) 11 36 [oX10 q_t Q_t (F_t 0 0) (F_t 2 0) (F_t 3 0) (F_t 4 0) (F_t 5 0) (F_t 6 0) (F_t 7 0) (F_t 8 0) (F_t 9 0) (F_t 10 0) (F_t 11 0) (F_t 12 0) (F_t 15 0) (F_t 16 0) (F_t 17 0) (F_t 23 0) (F_t 27 0) (F_t 28 0) (F_t 30 0), ia g (Q_t 18) 16 (F_t 18), ia g (Q_t 19) 30 (F_t 19), ia g (Q_t 20) 174 (F_t 20), ia g (Q_t 32) 8 v, ia g (Q_t 33) 8 (F_t 33)] [(0, .ref q_t), (1, .int x1), (2, .int x2), (3, .int x3), (4, .int x4)] []) (fun z r hb hc he => t_X10_layComes_b3 E q_t Q_t N (va_up F_t 32 z.2) x1 x2 x3 x4 z.1 r hb hc he) N ((0 : Int32), (F_t 32)) v_4 hv_4 ?_ H locs ls hP hD hS (lv_sub hl [1, 2, 3, 4, 5, 0] rfl)
  intro H locs ls hP hD hS hl
  refine lv_iconst (v := (0 : Int32)) hx hb dX10_layComes_36 (by decide) ?_
  refine lv_istore (lv' := [(5, .int (0 : Int32)), (0, .ref q_t), (1, .int x1), (2, .int x2), (3, .int x3), (4, .int x4)]) hx hb dX10_layComes_37 hl (by decide) rfl (fun ls hl => ?_)
  obtain ⟨v_25, hv_25, h⟩ := ox_bind h
  refine lpc_W (Wh := fun (z : Int32 × (Nat → Int32)) => WA p l e (rM 1 23) s m args below meth c g A (MQ below (QV g A [oX10 q_t Q_t (F_t 0 0) (F_t 2 0) (F_t 3 0) (F_t 4 0) (F_t 5 0) (F_t 6 0) (F_t 7 0) (F_t 8 0) (F_t 9 0) (F_t 10 0) (F_t 11 0) (F_t 12 0) (F_t 15 0) (F_t 16 0) (F_t 17 0) (F_t 23 0) (F_t 27 0) (F_t 28 0) (F_t 30 0), ia g (Q_t 18) 16 (F_t 18), ia g (Q_t 19) 30 (F_t 19), ia g (Q_t 20) 174 (F_t 20), ia g (Q_t 32) 8 o.1, ia g (Q_t 33) 8 o.2]) args s 0 0 A) 11 39 [oX10 q_t Q_t (F_t 0 0) (F_t 2 0) (F_t 3 0) (F_t 4 0) (F_t 5 0) (F_t 6 0) (F_t 7 0) (F_t 8 0) (F_t 9 0) (F_t 10 0) (F_t 11 0) (F_t 12 0) (F_t 15 0) (F_t 16 0) (F_t 17 0) (F_t 23 0) (F_t 27 0) (F_t 28 0) (F_t 30 0), ia g (Q_t 18) 16 (F_t 18), ia g (Q_t 19) 30 (F_t 19), ia g (Q_t 20) 174 (F_t 20), ia g (Q_t 32) 8 z.2, ia g (Q_t 33) 8 (F_t 33)] [(0, .ref q_t), (1, .int x1), (2, .int x2), (3, .int x3), (4, .int x4), (5, .int z.1)] []) (We := fun (v : (Nat → Int32)) => WA p l e (rM 1 23) s m args below meth c g A (MQ below (QV g A [oX10 q_t Q_t (F_t 0 0) (F_t 2 0) (F_t 3 0) (F_t 4 0) (F_t 5 0) (F_t 6 0) (F_t 7 0) (F_t 8 0) (F_t 9 0) (F_t 10 0) (F_t 11 0) (F_t 12 0) (F_t 15 0) (F_t 16 0) (F_t 17 0) (F_t 23 0) (F_t 27 0) (F_t 28 0) (F_t 30 0), ia g (Q_t 18) 16 (F_t 18), ia g (Q_t 19) 30 (F_t 19), ia g (Q_t 20) 174 (F_t 20), ia g (Q_t 32) 8 o.1, ia g (Q_t 33) 8 o.2]) args s 0 0 A) 11 198 [oX10 q_t Q_t (F_t 0 0) (F_t 2 0) (F_t 3 0) (F_t 4 0) (F_t 5 0) (F_t 6 0) (F_t 7 0) (F_t 8 0) (F_t 9 0) (F_t 10 0) (F_t 11 0) (F_t 12 0) (F_t 15 0) (F_t 16 0) (F_t 17 0) (F_t 23 0) (F_t 27 0) (F_t 28 0) (F_t 30 0), ia g (Q_t 18) 16 (F_t 18), ia g (Q_t 19) 30 (F_t 19), ia g (Q_t 20) 174 (F_t 20), ia g (Q_t 32) 8 v, ia g (Q_t 33) 8 (F_t 33)] [(0, .ref q_t), (1, .int x1), (2, .int x2), (3, .int x3), (4, .int x4)] []) (fun z r hb hc he => t_X10_layComes_b39 E q_t Q_t N (va_up F_t 32 z.2) x1 x2 x3 x4 z.1 r hb hc he) N ((0 : Int32), v_4) v_25 hv_25 ?_ H locs ls hP hD hS (lv_sub hl [1, 2, 3, 4, 5, 0] rfl)
  intro H locs ls hP hD hS hl
  refine lv_iconst (v := (0 : Int32)) hx hb dX10_layComes_198 (by decide) ?_
  refine lv_istore (lv' := [(5, .int (0 : Int32)), (0, .ref q_t), (1, .int x1), (2, .int x2), (3, .int x3), (4, .int x4)]) hx hb dX10_layComes_199 hl (by decide) rfl (fun ls hl => ?_)
  obtain ⟨v_31, hv_31, h⟩ := ox_bind h
  refine lpc_W (Wh := fun (z : Int32 × (Nat → Int32)) => WA p l e (rM 1 23) s m args below meth c g A (MQ below (QV g A [oX10 q_t Q_t (F_t 0 0) (F_t 2 0) (F_t 3 0) (F_t 4 0) (F_t 5 0) (F_t 6 0) (F_t 7 0) (F_t 8 0) (F_t 9 0) (F_t 10 0) (F_t 11 0) (F_t 12 0) (F_t 15 0) (F_t 16 0) (F_t 17 0) (F_t 23 0) (F_t 27 0) (F_t 28 0) (F_t 30 0), ia g (Q_t 18) 16 (F_t 18), ia g (Q_t 19) 30 (F_t 19), ia g (Q_t 20) 174 (F_t 20), ia g (Q_t 32) 8 o.1, ia g (Q_t 33) 8 o.2]) args s 0 0 A) 11 201 [oX10 q_t Q_t (F_t 0 0) (F_t 2 0) (F_t 3 0) (F_t 4 0) (F_t 5 0) (F_t 6 0) (F_t 7 0) (F_t 8 0) (F_t 9 0) (F_t 10 0) (F_t 11 0) (F_t 12 0) (F_t 15 0) (F_t 16 0) (F_t 17 0) (F_t 23 0) (F_t 27 0) (F_t 28 0) (F_t 30 0), ia g (Q_t 18) 16 (F_t 18), ia g (Q_t 19) 30 (F_t 19), ia g (Q_t 20) 174 (F_t 20), ia g (Q_t 32) 8 v_25, ia g (Q_t 33) 8 z.2] [(0, .ref q_t), (1, .int x1), (2, .int x2), (3, .int x3), (4, .int x4), (5, .int z.1)] []) (We := fun (v : (Nat → Int32)) => WA p l e (rM 1 23) s m args below meth c g A (MQ below (QV g A [oX10 q_t Q_t (F_t 0 0) (F_t 2 0) (F_t 3 0) (F_t 4 0) (F_t 5 0) (F_t 6 0) (F_t 7 0) (F_t 8 0) (F_t 9 0) (F_t 10 0) (F_t 11 0) (F_t 12 0) (F_t 15 0) (F_t 16 0) (F_t 17 0) (F_t 23 0) (F_t 27 0) (F_t 28 0) (F_t 30 0), ia g (Q_t 18) 16 (F_t 18), ia g (Q_t 19) 30 (F_t 19), ia g (Q_t 20) 174 (F_t 20), ia g (Q_t 32) 8 o.1, ia g (Q_t 33) 8 o.2]) args s 0 0 A) 11 247 [oX10 q_t Q_t (F_t 0 0) (F_t 2 0) (F_t 3 0) (F_t 4 0) (F_t 5 0) (F_t 6 0) (F_t 7 0) (F_t 8 0) (F_t 9 0) (F_t 10 0) (F_t 11 0) (F_t 12 0) (F_t 15 0) (F_t 16 0) (F_t 17 0) (F_t 23 0) (F_t 27 0) (F_t 28 0) (F_t 30 0), ia g (Q_t 18) 16 (F_t 18), ia g (Q_t 19) 30 (F_t 19), ia g (Q_t 20) 174 (F_t 20), ia g (Q_t 32) 8 v_25, ia g (Q_t 33) 8 v] [(0, .ref q_t), (1, .int x1), (2, .int x2), (3, .int x3), (4, .int x4)] []) (fun z r hb hc he => t_X10_layComes_b201 E q_t Q_t N (va_up (va_up F_t 32 v_25) 33 z.2) x1 x2 x3 x4 z.1 r hb hc he) N ((0 : Int32), (F_t 33)) v_31 hv_31 ?_ H locs ls hP hD hS (lv_sub hl [1, 2, 3, 4, 5, 0] rfl)
  intro H locs ls hP hD hS hl
  refine lv_iconst (v := (0 : Int32)) hx hb dX10_layComes_247 (by decide) ?_
  refine lv_istore (lv' := [(5, .int (0 : Int32)), (0, .ref q_t), (1, .int x1), (2, .int x2), (3, .int x3), (4, .int x4)]) hx hb dX10_layComes_248 hl (by decide) rfl (fun ls hl => ?_)
  obtain ⟨v_52, hv_52, h⟩ := ox_bind h
  refine lpc_W (Wh := fun (z : Int32 × (Nat → Int32)) => WA p l e (rM 1 23) s m args below meth c g A (MQ below (QV g A [oX10 q_t Q_t (F_t 0 0) (F_t 2 0) (F_t 3 0) (F_t 4 0) (F_t 5 0) (F_t 6 0) (F_t 7 0) (F_t 8 0) (F_t 9 0) (F_t 10 0) (F_t 11 0) (F_t 12 0) (F_t 15 0) (F_t 16 0) (F_t 17 0) (F_t 23 0) (F_t 27 0) (F_t 28 0) (F_t 30 0), ia g (Q_t 18) 16 (F_t 18), ia g (Q_t 19) 30 (F_t 19), ia g (Q_t 20) 174 (F_t 20), ia g (Q_t 32) 8 o.1, ia g (Q_t 33) 8 o.2]) args s 0 0 A) 11 250 [oX10 q_t Q_t (F_t 0 0) (F_t 2 0) (F_t 3 0) (F_t 4 0) (F_t 5 0) (F_t 6 0) (F_t 7 0) (F_t 8 0) (F_t 9 0) (F_t 10 0) (F_t 11 0) (F_t 12 0) (F_t 15 0) (F_t 16 0) (F_t 17 0) (F_t 23 0) (F_t 27 0) (F_t 28 0) (F_t 30 0), ia g (Q_t 18) 16 (F_t 18), ia g (Q_t 19) 30 (F_t 19), ia g (Q_t 20) 174 (F_t 20), ia g (Q_t 32) 8 v_25, ia g (Q_t 33) 8 z.2] [(0, .ref q_t), (1, .int x1), (2, .int x2), (3, .int x3), (4, .int x4), (5, .int z.1)] []) (We := fun (v : (Nat → Int32)) => WA p l e (rM 1 23) s m args below meth c g A (MQ below (QV g A [oX10 q_t Q_t (F_t 0 0) (F_t 2 0) (F_t 3 0) (F_t 4 0) (F_t 5 0) (F_t 6 0) (F_t 7 0) (F_t 8 0) (F_t 9 0) (F_t 10 0) (F_t 11 0) (F_t 12 0) (F_t 15 0) (F_t 16 0) (F_t 17 0) (F_t 23 0) (F_t 27 0) (F_t 28 0) (F_t 30 0), ia g (Q_t 18) 16 (F_t 18), ia g (Q_t 19) 30 (F_t 19), ia g (Q_t 20) 174 (F_t 20), ia g (Q_t 32) 8 o.1, ia g (Q_t 33) 8 o.2]) args s 0 0 A) 11 391 [oX10 q_t Q_t (F_t 0 0) (F_t 2 0) (F_t 3 0) (F_t 4 0) (F_t 5 0) (F_t 6 0) (F_t 7 0) (F_t 8 0) (F_t 9 0) (F_t 10 0) (F_t 11 0) (F_t 12 0) (F_t 15 0) (F_t 16 0) (F_t 17 0) (F_t 23 0) (F_t 27 0) (F_t 28 0) (F_t 30 0), ia g (Q_t 18) 16 (F_t 18), ia g (Q_t 19) 30 (F_t 19), ia g (Q_t 20) 174 (F_t 20), ia g (Q_t 32) 8 v_25, ia g (Q_t 33) 8 v] [] []) (fun z r hb hc he => t_X10_layComes_b250 E q_t Q_t N (va_up (va_up F_t 32 v_25) 33 z.2) x1 x2 x3 x4 z.1 r hb hc he) N ((0 : Int32), v_31) v_52 hv_52 ?_ H locs ls hP hD hS (lv_sub hl [1, 2, 3, 4, 5, 0] rfl)
  intro H locs ls hP hD hS hl
  obtain rfl := Option.some.inj h
  exact k_vret hx hb hr hlk hP hD hS dX10_layComes_391
set_option maxRecDepth 100000 in
theorem c_X10_layComes (l : Launch) (g : gG) (q_t : Nat) (Q_t : Ad) (N : Nat) (F_t : St) (x1 : Int32) (x2 : Int32) (x3 : Int32) (x4 : Int32) (o : (Nat → Int32) × (Nat → Int32)) (h : x_X10_layComes N F_t x1 x2 x3 x4 = some o) (sz : Nat) : MetV l yX10_layComes (.code yX10_layComes cX10_layComes 11 none :: gW) 1 23 [.ref q_t, .int x1, .int x2, .int x3, .int x4] g [oX10 q_t Q_t (F_t 0 0) (F_t 2 0) (F_t 3 0) (F_t 4 0) (F_t 5 0) (F_t 6 0) (F_t 7 0) (F_t 8 0) (F_t 9 0) (F_t 10 0) (F_t 11 0) (F_t 12 0) (F_t 15 0) (F_t 16 0) (F_t 17 0) (F_t 23 0) (F_t 27 0) (F_t 28 0) (F_t 30 0), ia g (Q_t 18) 16 (F_t 18), ia g (Q_t 19) 30 (F_t 19), ia g (Q_t 20) 174 (F_t 20), ia g (Q_t 32) 8 (F_t 32), ia g (Q_t 33) 8 (F_t 33)] [oX10 q_t Q_t (F_t 0 0) (F_t 2 0) (F_t 3 0) (F_t 4 0) (F_t 5 0) (F_t 6 0) (F_t 7 0) (F_t 8 0) (F_t 9 0) (F_t 10 0) (F_t 11 0) (F_t 12 0) (F_t 15 0) (F_t 16 0) (F_t 17 0) (F_t 23 0) (F_t 27 0) (F_t 28 0) (F_t 30 0), ia g (Q_t 18) 16 (F_t 18), ia g (Q_t 19) 30 (F_t 19), ia g (Q_t 20) 174 (F_t 20), ia g (Q_t 32) 8 o.1, ia g (Q_t 33) 8 o.2] sz :=
  mkV (av := [.ref q_t, .int x1, .int x2, .int x3, .int x4]) (by decide +kernel) rfl (fun p e s m below meth c A E H locs ls hP hD hS hl => t_X10_layComes E q_t Q_t N F_t x1 x2 x3 x4 o h H locs ls hP hD hS hl) sz
def x_X10_gates_b40_k168 (N : Nat) (F_t : St) (x1 : Int32) (x2 : Int32) (x3 : Int32) (x5 : Int32) (s0 : Int32) : Option ((Int32 × Int32 × (Nat → Int32) × (Nat → Int32)) ⊕ (Int32 × (Nat → Int32) × (Nat → Int32))) :=
  some (.inl (s0, (x5 + (1 : Int32)), (F_t 32), (F_t 33)))
set_option maxHeartbeats 4000000 in
set_option maxRecDepth 100000 in
theorem t_X10_gates_b40_k168 {p : Program} {l : Launch} {e : Env} {s : State} {m : MethodId} {args : Array Value} {below : List Frame} {meth : Method} {c : Code} {g : gG} {A : Nat → Prop} {Q : State → Prop} (E : En p s m args meth c g A cX10_gates 8 (.code yX10_gates cX10_gates 8 (some .int) :: gW) RX10 (some .int)) (q_t : Nat) (Q_t : Ad) (N : Nat) (F_t : St) (x1 : Int32) (x2 : Int32) (x3 : Int32) (x5 : Int32) (s0 : Int32) (o : (Int32 × Int32 × (Nat → Int32) × (Nat → Int32)) ⊕ (Int32 × (Nat → Int32) × (Nat → Int32))) (h : x_X10_gates_b40_k168 N F_t x1 x2 x3 x5 s0 = some o) (hc : ∀ z, o = .inl z → WA p l e (rM 2 53) s m args below meth c g A Q 8 40 [oX10 q_t Q_t (F_t 0 0) (F_t 2 0) (F_t 3 0) (F_t 4 0) (F_t 5 0) (F_t 6 0) (F_t 7 0) (F_t 8 0) (F_t 9 0) (F_t 10 0) (F_t 11 0) (F_t 12 0) (F_t 15 0) (F_t 16 0) (F_t 17 0) (F_t 23 0) (F_t 27 0) (F_t 28 0) (F_t 30 0), ia g (Q_t 18) 16 (F_t 18), ia g (Q_t 19) 30 (F_t 19), ia g (Q_t 20) 174 (F_t 20), ia g (Q_t 32) 8 z.2.2.1, ia g (Q_t 33) 8 z.2.2.2] [(0, .ref q_t), (1, .int x1), (2, .int x2), (3, .int x3), (4, .int z.1), (5, .int z.2.1)] []) (he : ∀ v, o = .inr v → WA p l e (rM 2 53) s m args below meth c g A Q 8 176 [oX10 q_t Q_t (F_t 0 0) (F_t 2 0) (F_t 3 0) (F_t 4 0) (F_t 5 0) (F_t 6 0) (F_t 7 0) (F_t 8 0) (F_t 9 0) (F_t 10 0) (F_t 11 0) (F_t 12 0) (F_t 15 0) (F_t 16 0) (F_t 17 0) (F_t 23 0) (F_t 27 0) (F_t 28 0) (F_t 30 0), ia g (Q_t 18) 16 (F_t 18), ia g (Q_t 19) 30 (F_t 19), ia g (Q_t 20) 174 (F_t 20), ia g (Q_t 32) 8 v.2.1, ia g (Q_t 33) 8 v.2.2] [(4, .int v.1)] []) : WA p l e (rM 2 53) s m args below meth c g A Q 8 168 [oX10 q_t Q_t (F_t 0 0) (F_t 2 0) (F_t 3 0) (F_t 4 0) (F_t 5 0) (F_t 6 0) (F_t 7 0) (F_t 8 0) (F_t 9 0) (F_t 10 0) (F_t 11 0) (F_t 12 0) (F_t 15 0) (F_t 16 0) (F_t 17 0) (F_t 23 0) (F_t 27 0) (F_t 28 0) (F_t 30 0), ia g (Q_t 18) 16 (F_t 18), ia g (Q_t 19) 30 (F_t 19), ia g (Q_t 20) 174 (F_t 20), ia g (Q_t 32) 8 (F_t 32), ia g (Q_t 33) 8 (F_t 33)] [(0, .ref q_t), (1, .int x1), (2, .int x2), (3, .int x3), (5, .int x5)] [.int s0] := by
  obtain ⟨⟨hx, hb, hml, hown, hts⟩, hr, hK, hA, hlk⟩ := id E
  intro H locs ls hP hD hS hl
  refine lv_istore (lv' := [(4, .int s0), (0, .ref q_t), (1, .int x1), (2, .int x2), (3, .int x3), (5, .int x5)]) hx hb dX10_gates_168 hl (by decide) rfl (fun ls hl => ?_)
  refine lv_iinc (v := (x5 + (1 : Int32))) (lv' := [(5, .int (x5 + (1 : Int32))), (4, .int s0), (0, .ref q_t), (1, .int x1), (2, .int x2), (3, .int x3)]) hx hb dX10_gates_170 hl (k := 5) rfl rfl (by decide) rfl (fun ls hl => ?_)
  refine lv_goto (tgt := 40) hx hb dX10_gates_173 (by decide) ?_
  obtain rfl := Option.some.inj h
  exact hc _ rfl H locs ls hP hD hS (lv_sub hl [2, 3, 4, 5, 1, 0] rfl)
def x_X10_gates_b40_k166 (N : Nat) (F_t : St) (x1 : Int32) (x2 : Int32) (x3 : Int32) (x4 : Int32) (x5 : Int32) : Option ((Int32 × Int32 × (Nat → Int32) × (Nat → Int32)) ⊕ (Int32 × (Nat → Int32) × (Nat → Int32))) :=
  x_X10_gates_b40_k168 N F_t x1 x2 x3 x5 x4
set_option maxHeartbeats 4000000 in
set_option maxRecDepth 100000 in
theorem t_X10_gates_b40_k166 {p : Program} {l : Launch} {e : Env} {s : State} {m : MethodId} {args : Array Value} {below : List Frame} {meth : Method} {c : Code} {g : gG} {A : Nat → Prop} {Q : State → Prop} (E : En p s m args meth c g A cX10_gates 8 (.code yX10_gates cX10_gates 8 (some .int) :: gW) RX10 (some .int)) (q_t : Nat) (Q_t : Ad) (N : Nat) (F_t : St) (x1 : Int32) (x2 : Int32) (x3 : Int32) (x4 : Int32) (x5 : Int32) (o : (Int32 × Int32 × (Nat → Int32) × (Nat → Int32)) ⊕ (Int32 × (Nat → Int32) × (Nat → Int32))) (h : x_X10_gates_b40_k166 N F_t x1 x2 x3 x4 x5 = some o) (hc : ∀ z, o = .inl z → WA p l e (rM 2 53) s m args below meth c g A Q 8 40 [oX10 q_t Q_t (F_t 0 0) (F_t 2 0) (F_t 3 0) (F_t 4 0) (F_t 5 0) (F_t 6 0) (F_t 7 0) (F_t 8 0) (F_t 9 0) (F_t 10 0) (F_t 11 0) (F_t 12 0) (F_t 15 0) (F_t 16 0) (F_t 17 0) (F_t 23 0) (F_t 27 0) (F_t 28 0) (F_t 30 0), ia g (Q_t 18) 16 (F_t 18), ia g (Q_t 19) 30 (F_t 19), ia g (Q_t 20) 174 (F_t 20), ia g (Q_t 32) 8 z.2.2.1, ia g (Q_t 33) 8 z.2.2.2] [(0, .ref q_t), (1, .int x1), (2, .int x2), (3, .int x3), (4, .int z.1), (5, .int z.2.1)] []) (he : ∀ v, o = .inr v → WA p l e (rM 2 53) s m args below meth c g A Q 8 176 [oX10 q_t Q_t (F_t 0 0) (F_t 2 0) (F_t 3 0) (F_t 4 0) (F_t 5 0) (F_t 6 0) (F_t 7 0) (F_t 8 0) (F_t 9 0) (F_t 10 0) (F_t 11 0) (F_t 12 0) (F_t 15 0) (F_t 16 0) (F_t 17 0) (F_t 23 0) (F_t 27 0) (F_t 28 0) (F_t 30 0), ia g (Q_t 18) 16 (F_t 18), ia g (Q_t 19) 30 (F_t 19), ia g (Q_t 20) 174 (F_t 20), ia g (Q_t 32) 8 v.2.1, ia g (Q_t 33) 8 v.2.2] [(4, .int v.1)] []) : WA p l e (rM 2 53) s m args below meth c g A Q 8 166 [oX10 q_t Q_t (F_t 0 0) (F_t 2 0) (F_t 3 0) (F_t 4 0) (F_t 5 0) (F_t 6 0) (F_t 7 0) (F_t 8 0) (F_t 9 0) (F_t 10 0) (F_t 11 0) (F_t 12 0) (F_t 15 0) (F_t 16 0) (F_t 17 0) (F_t 23 0) (F_t 27 0) (F_t 28 0) (F_t 30 0), ia g (Q_t 18) 16 (F_t 18), ia g (Q_t 19) 30 (F_t 19), ia g (Q_t 20) 174 (F_t 20), ia g (Q_t 32) 8 (F_t 32), ia g (Q_t 33) 8 (F_t 33)] [(0, .ref q_t), (1, .int x1), (2, .int x2), (3, .int x3), (4, .int x4), (5, .int x5)] [] := by
  obtain ⟨⟨hx, hb, hml, hown, hts⟩, hr, hK, hA, hlk⟩ := id E
  intro H locs ls hP hD hS hl
  refine lv_iload hx hb dX10_gates_166 (lv_at hl 4 rfl) ?_
  exact t_X10_gates_b40_k168 E q_t Q_t N F_t x1 x2 x3 x5 x4 _ h hc he H locs ls hP hD hS (lv_sub hl [0, 1, 2, 3, 5] rfl)
def x_X10_gates_b40_k161 (N : Nat) (F_t : St) (x1 : Int32) (x2 : Int32) (x3 : Int32) (x5 : Int32) : Option ((Int32 × Int32 × (Nat → Int32) × (Nat → Int32)) ⊕ (Int32 × (Nat → Int32) × (Nat → Int32))) :=
  x_X10_gates_b40_k168 N F_t x1 x2 x3 x5 x5
set_option maxHeartbeats 4000000 in
set_option maxRecDepth 100000 in
theorem t_X10_gates_b40_k161 {p : Program} {l : Launch} {e : Env} {s : State} {m : MethodId} {args : Array Value} {below : List Frame} {meth : Method} {c : Code} {g : gG} {A : Nat → Prop} {Q : State → Prop} (E : En p s m args meth c g A cX10_gates 8 (.code yX10_gates cX10_gates 8 (some .int) :: gW) RX10 (some .int)) (q_t : Nat) (Q_t : Ad) (N : Nat) (F_t : St) (x1 : Int32) (x2 : Int32) (x3 : Int32) (x5 : Int32) (o : (Int32 × Int32 × (Nat → Int32) × (Nat → Int32)) ⊕ (Int32 × (Nat → Int32) × (Nat → Int32))) (h : x_X10_gates_b40_k161 N F_t x1 x2 x3 x5 = some o) (hc : ∀ z, o = .inl z → WA p l e (rM 2 53) s m args below meth c g A Q 8 40 [oX10 q_t Q_t (F_t 0 0) (F_t 2 0) (F_t 3 0) (F_t 4 0) (F_t 5 0) (F_t 6 0) (F_t 7 0) (F_t 8 0) (F_t 9 0) (F_t 10 0) (F_t 11 0) (F_t 12 0) (F_t 15 0) (F_t 16 0) (F_t 17 0) (F_t 23 0) (F_t 27 0) (F_t 28 0) (F_t 30 0), ia g (Q_t 18) 16 (F_t 18), ia g (Q_t 19) 30 (F_t 19), ia g (Q_t 20) 174 (F_t 20), ia g (Q_t 32) 8 z.2.2.1, ia g (Q_t 33) 8 z.2.2.2] [(0, .ref q_t), (1, .int x1), (2, .int x2), (3, .int x3), (4, .int z.1), (5, .int z.2.1)] []) (he : ∀ v, o = .inr v → WA p l e (rM 2 53) s m args below meth c g A Q 8 176 [oX10 q_t Q_t (F_t 0 0) (F_t 2 0) (F_t 3 0) (F_t 4 0) (F_t 5 0) (F_t 6 0) (F_t 7 0) (F_t 8 0) (F_t 9 0) (F_t 10 0) (F_t 11 0) (F_t 12 0) (F_t 15 0) (F_t 16 0) (F_t 17 0) (F_t 23 0) (F_t 27 0) (F_t 28 0) (F_t 30 0), ia g (Q_t 18) 16 (F_t 18), ia g (Q_t 19) 30 (F_t 19), ia g (Q_t 20) 174 (F_t 20), ia g (Q_t 32) 8 v.2.1, ia g (Q_t 33) 8 v.2.2] [(4, .int v.1)] []) : WA p l e (rM 2 53) s m args below meth c g A Q 8 161 [oX10 q_t Q_t (F_t 0 0) (F_t 2 0) (F_t 3 0) (F_t 4 0) (F_t 5 0) (F_t 6 0) (F_t 7 0) (F_t 8 0) (F_t 9 0) (F_t 10 0) (F_t 11 0) (F_t 12 0) (F_t 15 0) (F_t 16 0) (F_t 17 0) (F_t 23 0) (F_t 27 0) (F_t 28 0) (F_t 30 0), ia g (Q_t 18) 16 (F_t 18), ia g (Q_t 19) 30 (F_t 19), ia g (Q_t 20) 174 (F_t 20), ia g (Q_t 32) 8 (F_t 32), ia g (Q_t 33) 8 (F_t 33)] [(0, .ref q_t), (1, .int x1), (2, .int x2), (3, .int x3), (5, .int x5)] [] := by
  obtain ⟨⟨hx, hb, hml, hown, hts⟩, hr, hK, hA, hlk⟩ := id E
  intro H locs ls hP hD hS hl
  refine lv_iload hx hb dX10_gates_161 (lv_at hl 4 rfl) ?_
  refine lv_goto (tgt := 168) hx hb dX10_gates_163 (by decide) ?_
  exact t_X10_gates_b40_k168 E q_t Q_t N F_t x1 x2 x3 x5 x5 _ h hc he H locs ls hP hD hS hl
def x_X10_gates_b90_k130 (N : Nat) (F_t : St) (x1 : Int32) (x2 : Int32) (x3 : Int32) (x4 : Int32) (x5 : Int32) (x7 : Int32) (s0 : Int32) : Option ((Int32 × Int32) ⊕ (Int32)) :=
  some (.inl (s0, (x7 + (1 : Int32))))
set_option maxHeartbeats 4000000 in
set_option maxRecDepth 100000 in
theorem t_X10_gates_b90_k130 {p : Program} {l : Launch} {e : Env} {s : State} {m : MethodId} {args : Array Value} {below : List Frame} {meth : Method} {c : Code} {g : gG} {A : Nat → Prop} {Q : State → Prop} (E : En p s m args meth c g A cX10_gates 8 (.code yX10_gates cX10_gates 8 (some .int) :: gW) RX10 (some .int)) (q_t : Nat) (Q_t : Ad) (N : Nat) (F_t : St) (x1 : Int32) (x2 : Int32) (x3 : Int32) (x4 : Int32) (x5 : Int32) (x7 : Int32) (s0 : Int32) (o : (Int32 × Int32) ⊕ (Int32)) (h : x_X10_gates_b90_k130 N F_t x1 x2 x3 x4 x5 x7 s0 = some o) (hc : ∀ z, o = .inl z → WA p l e (rM 2 53) s m args below meth c g A Q 8 90 [oX10 q_t Q_t (F_t 0 0) (F_t 2 0) (F_t 3 0) (F_t 4 0) (F_t 5 0) (F_t 6 0) (F_t 7 0) (F_t 8 0) (F_t 9 0) (F_t 10 0) (F_t 11 0) (F_t 12 0) (F_t 15 0) (F_t 16 0) (F_t 17 0) (F_t 23 0) (F_t 27 0) (F_t 28 0) (F_t 30 0), ia g (Q_t 18) 16 (F_t 18), ia g (Q_t 19) 30 (F_t 19), ia g (Q_t 20) 174 (F_t 20), ia g (Q_t 32) 8 (F_t 32), ia g (Q_t 33) 8 (F_t 33)] [(0, .ref q_t), (1, .int x1), (2, .int x2), (3, .int x3), (4, .int x4), (5, .int x5), (6, .int z.1), (7, .int z.2)] []) (he : ∀ v, o = .inr v → WA p l e (rM 2 53) s m args below meth c g A Q 8 138 [oX10 q_t Q_t (F_t 0 0) (F_t 2 0) (F_t 3 0) (F_t 4 0) (F_t 5 0) (F_t 6 0) (F_t 7 0) (F_t 8 0) (F_t 9 0) (F_t 10 0) (F_t 11 0) (F_t 12 0) (F_t 15 0) (F_t 16 0) (F_t 17 0) (F_t 23 0) (F_t 27 0) (F_t 28 0) (F_t 30 0), ia g (Q_t 18) 16 (F_t 18), ia g (Q_t 19) 30 (F_t 19), ia g (Q_t 20) 174 (F_t 20), ia g (Q_t 32) 8 (F_t 32), ia g (Q_t 33) 8 (F_t 33)] [(0, .ref q_t), (1, .int x1), (2, .int x2), (3, .int x3), (4, .int x4), (5, .int x5), (6, .int v)] []) : WA p l e (rM 2 53) s m args below meth c g A Q 8 130 [oX10 q_t Q_t (F_t 0 0) (F_t 2 0) (F_t 3 0) (F_t 4 0) (F_t 5 0) (F_t 6 0) (F_t 7 0) (F_t 8 0) (F_t 9 0) (F_t 10 0) (F_t 11 0) (F_t 12 0) (F_t 15 0) (F_t 16 0) (F_t 17 0) (F_t 23 0) (F_t 27 0) (F_t 28 0) (F_t 30 0), ia g (Q_t 18) 16 (F_t 18), ia g (Q_t 19) 30 (F_t 19), ia g (Q_t 20) 174 (F_t 20), ia g (Q_t 32) 8 (F_t 32), ia g (Q_t 33) 8 (F_t 33)] [(0, .ref q_t), (1, .int x1), (2, .int x2), (3, .int x3), (4, .int x4), (5, .int x5), (7, .int x7)] [.int s0] := by
  obtain ⟨⟨hx, hb, hml, hown, hts⟩, hr, hK, hA, hlk⟩ := id E
  intro H locs ls hP hD hS hl
  refine lv_istore (lv' := [(6, .int s0), (0, .ref q_t), (1, .int x1), (2, .int x2), (3, .int x3), (4, .int x4), (5, .int x5), (7, .int x7)]) hx hb dX10_gates_130 hl (by decide) rfl (fun ls hl => ?_)
  refine lv_iinc (v := (x7 + (1 : Int32))) (lv' := [(7, .int (x7 + (1 : Int32))), (6, .int s0), (0, .ref q_t), (1, .int x1), (2, .int x2), (3, .int x3), (4, .int x4), (5, .int x5)]) hx hb dX10_gates_132 hl (k := 7) rfl rfl (by decide) rfl (fun ls hl => ?_)
  refine lv_goto (tgt := 90) hx hb dX10_gates_135 (by decide) ?_
  obtain rfl := Option.some.inj h
  exact hc _ rfl H locs ls hP hD hS (lv_sub hl [2, 3, 4, 5, 6, 7, 1, 0] rfl)
def x_X10_gates_b90_k129 (N : Nat) (F_t : St) (x1 : Int32) (x2 : Int32) (x3 : Int32) (x4 : Int32) (x5 : Int32) (x7 : Int32) : Option ((Int32 × Int32) ⊕ (Int32)) :=
  x_X10_gates_b90_k130 N F_t x1 x2 x3 x4 x5 x7 (0 : Int32)
set_option maxHeartbeats 4000000 in
set_option maxRecDepth 100000 in
theorem t_X10_gates_b90_k129 {p : Program} {l : Launch} {e : Env} {s : State} {m : MethodId} {args : Array Value} {below : List Frame} {meth : Method} {c : Code} {g : gG} {A : Nat → Prop} {Q : State → Prop} (E : En p s m args meth c g A cX10_gates 8 (.code yX10_gates cX10_gates 8 (some .int) :: gW) RX10 (some .int)) (q_t : Nat) (Q_t : Ad) (N : Nat) (F_t : St) (x1 : Int32) (x2 : Int32) (x3 : Int32) (x4 : Int32) (x5 : Int32) (x7 : Int32) (o : (Int32 × Int32) ⊕ (Int32)) (h : x_X10_gates_b90_k129 N F_t x1 x2 x3 x4 x5 x7 = some o) (hc : ∀ z, o = .inl z → WA p l e (rM 2 53) s m args below meth c g A Q 8 90 [oX10 q_t Q_t (F_t 0 0) (F_t 2 0) (F_t 3 0) (F_t 4 0) (F_t 5 0) (F_t 6 0) (F_t 7 0) (F_t 8 0) (F_t 9 0) (F_t 10 0) (F_t 11 0) (F_t 12 0) (F_t 15 0) (F_t 16 0) (F_t 17 0) (F_t 23 0) (F_t 27 0) (F_t 28 0) (F_t 30 0), ia g (Q_t 18) 16 (F_t 18), ia g (Q_t 19) 30 (F_t 19), ia g (Q_t 20) 174 (F_t 20), ia g (Q_t 32) 8 (F_t 32), ia g (Q_t 33) 8 (F_t 33)] [(0, .ref q_t), (1, .int x1), (2, .int x2), (3, .int x3), (4, .int x4), (5, .int x5), (6, .int z.1), (7, .int z.2)] []) (he : ∀ v, o = .inr v → WA p l e (rM 2 53) s m args below meth c g A Q 8 138 [oX10 q_t Q_t (F_t 0 0) (F_t 2 0) (F_t 3 0) (F_t 4 0) (F_t 5 0) (F_t 6 0) (F_t 7 0) (F_t 8 0) (F_t 9 0) (F_t 10 0) (F_t 11 0) (F_t 12 0) (F_t 15 0) (F_t 16 0) (F_t 17 0) (F_t 23 0) (F_t 27 0) (F_t 28 0) (F_t 30 0), ia g (Q_t 18) 16 (F_t 18), ia g (Q_t 19) 30 (F_t 19), ia g (Q_t 20) 174 (F_t 20), ia g (Q_t 32) 8 (F_t 32), ia g (Q_t 33) 8 (F_t 33)] [(0, .ref q_t), (1, .int x1), (2, .int x2), (3, .int x3), (4, .int x4), (5, .int x5), (6, .int v)] []) : WA p l e (rM 2 53) s m args below meth c g A Q 8 129 [oX10 q_t Q_t (F_t 0 0) (F_t 2 0) (F_t 3 0) (F_t 4 0) (F_t 5 0) (F_t 6 0) (F_t 7 0) (F_t 8 0) (F_t 9 0) (F_t 10 0) (F_t 11 0) (F_t 12 0) (F_t 15 0) (F_t 16 0) (F_t 17 0) (F_t 23 0) (F_t 27 0) (F_t 28 0) (F_t 30 0), ia g (Q_t 18) 16 (F_t 18), ia g (Q_t 19) 30 (F_t 19), ia g (Q_t 20) 174 (F_t 20), ia g (Q_t 32) 8 (F_t 32), ia g (Q_t 33) 8 (F_t 33)] [(0, .ref q_t), (1, .int x1), (2, .int x2), (3, .int x3), (4, .int x4), (5, .int x5), (7, .int x7)] [] := by
  obtain ⟨⟨hx, hb, hml, hown, hts⟩, hr, hK, hA, hlk⟩ := id E
  intro H locs ls hP hD hS hl
  refine lv_iconst (v := (0 : Int32)) hx hb dX10_gates_129 (by decide) ?_
  exact t_X10_gates_b90_k130 E q_t Q_t N F_t x1 x2 x3 x4 x5 x7 (0 : Int32) _ h hc he H locs ls hP hD hS hl
def x_X10_gates_b90_k125 (N : Nat) (F_t : St) (x1 : Int32) (x2 : Int32) (x3 : Int32) (x4 : Int32) (x5 : Int32) (x7 : Int32) : Option ((Int32 × Int32) ⊕ (Int32)) :=
  x_X10_gates_b90_k130 N F_t x1 x2 x3 x4 x5 x7 (1 : Int32)
set_option maxHeartbeats 4000000 in
set_option maxRecDepth 100000 in
theorem t_X10_gates_b90_k125 {p : Program} {l : Launch} {e : Env} {s : State} {m : MethodId} {args : Array Value} {below : List Frame} {meth : Method} {c : Code} {g : gG} {A : Nat → Prop} {Q : State → Prop} (E : En p s m args meth c g A cX10_gates 8 (.code yX10_gates cX10_gates 8 (some .int) :: gW) RX10 (some .int)) (q_t : Nat) (Q_t : Ad) (N : Nat) (F_t : St) (x1 : Int32) (x2 : Int32) (x3 : Int32) (x4 : Int32) (x5 : Int32) (x7 : Int32) (o : (Int32 × Int32) ⊕ (Int32)) (h : x_X10_gates_b90_k125 N F_t x1 x2 x3 x4 x5 x7 = some o) (hc : ∀ z, o = .inl z → WA p l e (rM 2 53) s m args below meth c g A Q 8 90 [oX10 q_t Q_t (F_t 0 0) (F_t 2 0) (F_t 3 0) (F_t 4 0) (F_t 5 0) (F_t 6 0) (F_t 7 0) (F_t 8 0) (F_t 9 0) (F_t 10 0) (F_t 11 0) (F_t 12 0) (F_t 15 0) (F_t 16 0) (F_t 17 0) (F_t 23 0) (F_t 27 0) (F_t 28 0) (F_t 30 0), ia g (Q_t 18) 16 (F_t 18), ia g (Q_t 19) 30 (F_t 19), ia g (Q_t 20) 174 (F_t 20), ia g (Q_t 32) 8 (F_t 32), ia g (Q_t 33) 8 (F_t 33)] [(0, .ref q_t), (1, .int x1), (2, .int x2), (3, .int x3), (4, .int x4), (5, .int x5), (6, .int z.1), (7, .int z.2)] []) (he : ∀ v, o = .inr v → WA p l e (rM 2 53) s m args below meth c g A Q 8 138 [oX10 q_t Q_t (F_t 0 0) (F_t 2 0) (F_t 3 0) (F_t 4 0) (F_t 5 0) (F_t 6 0) (F_t 7 0) (F_t 8 0) (F_t 9 0) (F_t 10 0) (F_t 11 0) (F_t 12 0) (F_t 15 0) (F_t 16 0) (F_t 17 0) (F_t 23 0) (F_t 27 0) (F_t 28 0) (F_t 30 0), ia g (Q_t 18) 16 (F_t 18), ia g (Q_t 19) 30 (F_t 19), ia g (Q_t 20) 174 (F_t 20), ia g (Q_t 32) 8 (F_t 32), ia g (Q_t 33) 8 (F_t 33)] [(0, .ref q_t), (1, .int x1), (2, .int x2), (3, .int x3), (4, .int x4), (5, .int x5), (6, .int v)] []) : WA p l e (rM 2 53) s m args below meth c g A Q 8 125 [oX10 q_t Q_t (F_t 0 0) (F_t 2 0) (F_t 3 0) (F_t 4 0) (F_t 5 0) (F_t 6 0) (F_t 7 0) (F_t 8 0) (F_t 9 0) (F_t 10 0) (F_t 11 0) (F_t 12 0) (F_t 15 0) (F_t 16 0) (F_t 17 0) (F_t 23 0) (F_t 27 0) (F_t 28 0) (F_t 30 0), ia g (Q_t 18) 16 (F_t 18), ia g (Q_t 19) 30 (F_t 19), ia g (Q_t 20) 174 (F_t 20), ia g (Q_t 32) 8 (F_t 32), ia g (Q_t 33) 8 (F_t 33)] [(0, .ref q_t), (1, .int x1), (2, .int x2), (3, .int x3), (4, .int x4), (5, .int x5), (7, .int x7)] [] := by
  obtain ⟨⟨hx, hb, hml, hown, hts⟩, hr, hK, hA, hlk⟩ := id E
  intro H locs ls hP hD hS hl
  refine lv_iconst (v := (1 : Int32)) hx hb dX10_gates_125 (by decide) ?_
  refine lv_goto (tgt := 130) hx hb dX10_gates_126 (by decide) ?_
  exact t_X10_gates_b90_k130 E q_t Q_t N F_t x1 x2 x3 x4 x5 x7 (1 : Int32) _ h hc he H locs ls hP hD hS hl
def x_X10_gates_b90 (N : Nat) (F_t : St) (x1 : Int32) (x2 : Int32) (x3 : Int32) (x4 : Int32) (x5 : Int32) (x6 : Int32) (x7 : Int32) : Option ((Int32 × Int32) ⊕ (Int32)) :=
  if (F_t 16 0) ≤ x7 then (some (.inr x6)) else (if x6 = 0 then (x_X10_gates_b90_k129 N F_t x1 x2 x3 x4 x5 x7) else (Option.bind (x_X10_has x3 x7) (fun v_9 => if v_9 = 0 then (x_X10_gates_b90_k125 N F_t x1 x2 x3 x4 x5 x7) else (if x7 < 0 ∨ 8 ≤ x7.toNatClampNeg then none else if ((F_t 33) x7.toNatClampNeg) = (99 : Int32) then (x_X10_gates_b90_k125 N F_t x1 x2 x3 x4 x5 x7) else (x_X10_gates_b90_k129 N F_t x1 x2 x3 x4 x5 x7)))))
set_option maxHeartbeats 4000000 in
set_option maxRecDepth 100000 in
theorem t_X10_gates_b90 {p : Program} {l : Launch} {e : Env} {s : State} {m : MethodId} {args : Array Value} {below : List Frame} {meth : Method} {c : Code} {g : gG} {A : Nat → Prop} {Q : State → Prop} (E : En p s m args meth c g A cX10_gates 8 (.code yX10_gates cX10_gates 8 (some .int) :: gW) RX10 (some .int)) (q_t : Nat) (Q_t : Ad) (N : Nat) (F_t : St) (x1 : Int32) (x2 : Int32) (x3 : Int32) (x4 : Int32) (x5 : Int32) (x6 : Int32) (x7 : Int32) (o : (Int32 × Int32) ⊕ (Int32)) (h : x_X10_gates_b90 N F_t x1 x2 x3 x4 x5 x6 x7 = some o) (hc : ∀ z, o = .inl z → WA p l e (rM 2 53) s m args below meth c g A Q 8 90 [oX10 q_t Q_t (F_t 0 0) (F_t 2 0) (F_t 3 0) (F_t 4 0) (F_t 5 0) (F_t 6 0) (F_t 7 0) (F_t 8 0) (F_t 9 0) (F_t 10 0) (F_t 11 0) (F_t 12 0) (F_t 15 0) (F_t 16 0) (F_t 17 0) (F_t 23 0) (F_t 27 0) (F_t 28 0) (F_t 30 0), ia g (Q_t 18) 16 (F_t 18), ia g (Q_t 19) 30 (F_t 19), ia g (Q_t 20) 174 (F_t 20), ia g (Q_t 32) 8 (F_t 32), ia g (Q_t 33) 8 (F_t 33)] [(0, .ref q_t), (1, .int x1), (2, .int x2), (3, .int x3), (4, .int x4), (5, .int x5), (6, .int z.1), (7, .int z.2)] []) (he : ∀ v, o = .inr v → WA p l e (rM 2 53) s m args below meth c g A Q 8 138 [oX10 q_t Q_t (F_t 0 0) (F_t 2 0) (F_t 3 0) (F_t 4 0) (F_t 5 0) (F_t 6 0) (F_t 7 0) (F_t 8 0) (F_t 9 0) (F_t 10 0) (F_t 11 0) (F_t 12 0) (F_t 15 0) (F_t 16 0) (F_t 17 0) (F_t 23 0) (F_t 27 0) (F_t 28 0) (F_t 30 0), ia g (Q_t 18) 16 (F_t 18), ia g (Q_t 19) 30 (F_t 19), ia g (Q_t 20) 174 (F_t 20), ia g (Q_t 32) 8 (F_t 32), ia g (Q_t 33) 8 (F_t 33)] [(0, .ref q_t), (1, .int x1), (2, .int x2), (3, .int x3), (4, .int x4), (5, .int x5), (6, .int v)] []) : WA p l e (rM 2 53) s m args below meth c g A Q 8 90 [oX10 q_t Q_t (F_t 0 0) (F_t 2 0) (F_t 3 0) (F_t 4 0) (F_t 5 0) (F_t 6 0) (F_t 7 0) (F_t 8 0) (F_t 9 0) (F_t 10 0) (F_t 11 0) (F_t 12 0) (F_t 15 0) (F_t 16 0) (F_t 17 0) (F_t 23 0) (F_t 27 0) (F_t 28 0) (F_t 30 0), ia g (Q_t 18) 16 (F_t 18), ia g (Q_t 19) 30 (F_t 19), ia g (Q_t 20) 174 (F_t 20), ia g (Q_t 32) 8 (F_t 32), ia g (Q_t 33) 8 (F_t 33)] [(0, .ref q_t), (1, .int x1), (2, .int x2), (3, .int x3), (4, .int x4), (5, .int x5), (6, .int x6), (7, .int x7)] [] := by
  obtain ⟨⟨hx, hb, hml, hown, hts⟩, hr, hK, hA, hlk⟩ := id E
  intro H locs ls hP hD hS hl
  refine lv_iload hx hb dX10_gates_90 (lv_at hl 7 rfl) ?_
  refine lv_aload_n hx hb dX10_gates_92 rfl (lv_at hl 0 rfl) ?_
  refine va_get (ci := 10) (v := .int (F_t 16 0)) (C := RX10) (T := TX10) (N := 38) hx hb hts (fun w h => .tail _ (u_inX10 w h)) hown hK.1 hP 0 rfl rfl 16 (by decide) (hts _ (.tail _ u_fl_X10_80)) (fun _ h9 => h9) rfl dX10_gates_93 ?_
  refine lv_icmp_ge (tgt := 138) hx hb dX10_gates_96 (by decide) (fun c_7 => ?_) (fun c_7 => ?_)
  · have h := ox_t c_7 h
    obtain rfl := Option.some.inj h
    exact he _ rfl H locs ls hP hD hS (lv_sub hl [0, 1, 2, 3, 4, 5, 6] rfl)
  · have h := ox_f c_7 h
    refine lv_iload hx hb dX10_gates_99 (lv_at hl 6 rfl) ?_
    refine lv_if_eq (tgt := 129) hx hb dX10_gates_101 (by decide) (fun c_8 => ?_) (fun c_8 => ?_)
    · have h := ox_t c_8 h
      exact t_X10_gates_b90_k129 E q_t Q_t N F_t x1 x2 x3 x4 x5 x7 _ h hc he H locs ls hP hD hS (lv_sub hl [0, 1, 2, 3, 4, 5, 7] rfl)
    · have h := ox_f c_8 h
      refine lv_iload_n hx hb dX10_gates_104 rfl (lv_at hl 3 rfl) ?_
      refine lv_iload hx hb dX10_gates_105 (lv_at hl 7 rfl) ?_
      obtain ⟨v_9, hv_9, h⟩ := ox_bind h
      refine kSi ⟨hx, hb, hml, hown, hts⟩ (c_X10_has l g x3 x7 v_9 hv_9 H.size) (gS u_ml_X10_194 u_st_X10_has u_ini_X10 u_co_X10_has) hd_X10_has ⟨rfl, rfl⟩ hK hP hD hS hA [] [0, 1, 2, 3, 4, 5] rfl rfl 0 rfl (w2 := [oX10 q_t Q_t (F_t 0 0) (F_t 2 0) (F_t 3 0) (F_t 4 0) (F_t 5 0) (F_t 6 0) (F_t 7 0) (F_t 8 0) (F_t 9 0) (F_t 10 0) (F_t 11 0) (F_t 12 0) (F_t 15 0) (F_t 16 0) (F_t 17 0) (F_t 23 0) (F_t 27 0) (F_t 28 0) (F_t 30 0), ia g (Q_t 18) 16 (F_t 18), ia g (Q_t 19) 30 (F_t 19), ia g (Q_t 20) 174 (F_t 20), ia g (Q_t 32) 8 (F_t 32), ia g (Q_t 33) 8 (F_t 33)]) rfl rfl (As := [.int x3, .int x7]) (rest := []) rfl hl.1 rfl rfl dX10_gates_107 (fun H locs hP hD hS => ?_)
      refine lv_if_eq (tgt := 125) hx hb dX10_gates_110 (by decide) (fun c_10 => ?_) (fun c_10 => ?_)
      · have h := ox_t c_10 h
        exact t_X10_gates_b90_k125 E q_t Q_t N F_t x1 x2 x3 x4 x5 x7 _ h hc he H locs ls hP hD hS (lv_sub hl [0, 1, 2, 3, 4, 5, 7] rfl)
      · have h := ox_f c_10 h
        refine lv_aload_n hx hb dX10_gates_113 rfl (lv_at hl 0 rfl) ?_
        refine va_get (ci := 10) (v := .ref (Q_t 33)) (C := RX10) (T := TX10) (N := 38) hx hb hts (fun w h => .tail _ (u_inX10 w h)) hown hK.1 hP 0 rfl rfl 33 (by decide) (hts _ (.tail _ u_fl_X10_57)) (fun _ h9 => h9) rfl dX10_gates_114 ?_
        refine lv_iload hx hb dX10_gates_117 (lv_at hl 7 rfl) ?_
        obtain ⟨hi_11, h⟩ := ox_chk h
        refine va_iald hx hb hK.1 hP 5 0 rfl rfl hi_11 dX10_gates_119 ?_
        refine lv_bipush (v := (99 : Int32)) hx hb dX10_gates_120 (by decide) ?_
        refine lv_icmp_ne (tgt := 129) hx hb dX10_gates_122 (by decide) (fun c_12 => ?_) (fun c_12 => ?_)
        · have h := ox_f c_12 h
          exact t_X10_gates_b90_k129 E q_t Q_t N F_t x1 x2 x3 x4 x5 x7 _ h hc he H locs ls hP hD hS (lv_sub hl [0, 1, 2, 3, 4, 5, 7] rfl)
        · have h := ox_t c_12 h
          exact t_X10_gates_b90_k125 E q_t Q_t N F_t x1 x2 x3 x4 x5 x7 _ h hc he H locs ls hP hD hS (lv_sub hl [0, 1, 2, 3, 4, 5, 7] rfl)
def x_X10_gates_b40_k85 (N : Nat) (F_t : St) (x1 : Int32) (x2 : Int32) (x3 : Int32) (x4 : Int32) (x5 : Int32) (s0 : Int32) : Option ((Int32 × Int32 × (Nat → Int32) × (Nat → Int32)) ⊕ (Int32 × (Nat → Int32) × (Nat → Int32))) :=
  Option.bind (lpc (fun (z : Int32 × Int32) => x_X10_gates_b90 N F_t x1 x2 x3 x4 x5 z.1 z.2) N (s0, (0 : Int32))) (fun v_13 => if v_13 = 0 then (x_X10_gates_b40_k166 N F_t x1 x2 x3 x4 x5) else (if x4 < 0 then (x_X10_gates_b40_k161 N F_t x1 x2 x3 x5) else (Option.bind (x_X10_bits N x5) (fun v_16 => Option.bind (x_X10_bits N x4) (fun v_17 => if v_17 ≤ v_16 then (x_X10_gates_b40_k166 N F_t x1 x2 x3 x4 x5) else (x_X10_gates_b40_k161 N F_t x1 x2 x3 x5))))))
set_option maxHeartbeats 4000000 in
set_option maxRecDepth 100000 in
theorem t_X10_gates_b40_k85 {p : Program} {l : Launch} {e : Env} {s : State} {m : MethodId} {args : Array Value} {below : List Frame} {meth : Method} {c : Code} {g : gG} {A : Nat → Prop} {Q : State → Prop} (E : En p s m args meth c g A cX10_gates 8 (.code yX10_gates cX10_gates 8 (some .int) :: gW) RX10 (some .int)) (q_t : Nat) (Q_t : Ad) (N : Nat) (F_t : St) (x1 : Int32) (x2 : Int32) (x3 : Int32) (x4 : Int32) (x5 : Int32) (s0 : Int32) (o : (Int32 × Int32 × (Nat → Int32) × (Nat → Int32)) ⊕ (Int32 × (Nat → Int32) × (Nat → Int32))) (h : x_X10_gates_b40_k85 N F_t x1 x2 x3 x4 x5 s0 = some o) (hc : ∀ z, o = .inl z → WA p l e (rM 2 53) s m args below meth c g A Q 8 40 [oX10 q_t Q_t (F_t 0 0) (F_t 2 0) (F_t 3 0) (F_t 4 0) (F_t 5 0) (F_t 6 0) (F_t 7 0) (F_t 8 0) (F_t 9 0) (F_t 10 0) (F_t 11 0) (F_t 12 0) (F_t 15 0) (F_t 16 0) (F_t 17 0) (F_t 23 0) (F_t 27 0) (F_t 28 0) (F_t 30 0), ia g (Q_t 18) 16 (F_t 18), ia g (Q_t 19) 30 (F_t 19), ia g (Q_t 20) 174 (F_t 20), ia g (Q_t 32) 8 z.2.2.1, ia g (Q_t 33) 8 z.2.2.2] [(0, .ref q_t), (1, .int x1), (2, .int x2), (3, .int x3), (4, .int z.1), (5, .int z.2.1)] []) (he : ∀ v, o = .inr v → WA p l e (rM 2 53) s m args below meth c g A Q 8 176 [oX10 q_t Q_t (F_t 0 0) (F_t 2 0) (F_t 3 0) (F_t 4 0) (F_t 5 0) (F_t 6 0) (F_t 7 0) (F_t 8 0) (F_t 9 0) (F_t 10 0) (F_t 11 0) (F_t 12 0) (F_t 15 0) (F_t 16 0) (F_t 17 0) (F_t 23 0) (F_t 27 0) (F_t 28 0) (F_t 30 0), ia g (Q_t 18) 16 (F_t 18), ia g (Q_t 19) 30 (F_t 19), ia g (Q_t 20) 174 (F_t 20), ia g (Q_t 32) 8 v.2.1, ia g (Q_t 33) 8 v.2.2] [(4, .int v.1)] []) : WA p l e (rM 2 53) s m args below meth c g A Q 8 85 [oX10 q_t Q_t (F_t 0 0) (F_t 2 0) (F_t 3 0) (F_t 4 0) (F_t 5 0) (F_t 6 0) (F_t 7 0) (F_t 8 0) (F_t 9 0) (F_t 10 0) (F_t 11 0) (F_t 12 0) (F_t 15 0) (F_t 16 0) (F_t 17 0) (F_t 23 0) (F_t 27 0) (F_t 28 0) (F_t 30 0), ia g (Q_t 18) 16 (F_t 18), ia g (Q_t 19) 30 (F_t 19), ia g (Q_t 20) 174 (F_t 20), ia g (Q_t 32) 8 (F_t 32), ia g (Q_t 33) 8 (F_t 33)] [(0, .ref q_t), (1, .int x1), (2, .int x2), (3, .int x3), (4, .int x4), (5, .int x5)] [.int s0] := by
  obtain ⟨⟨hx, hb, hml, hown, hts⟩, hr, hK, hA, hlk⟩ := id E
  intro H locs ls hP hD hS hl
  refine lv_istore (lv' := [(6, .int s0), (0, .ref q_t), (1, .int x1), (2, .int x2), (3, .int x3), (4, .int x4), (5, .int x5)]) hx hb dX10_gates_85 hl (by decide) rfl (fun ls hl => ?_)
  refine lv_iconst (v := (0 : Int32)) hx hb dX10_gates_87 (by decide) ?_
  refine lv_istore (lv' := [(7, .int (0 : Int32)), (6, .int s0), (0, .ref q_t), (1, .int x1), (2, .int x2), (3, .int x3), (4, .int x4), (5, .int x5)]) hx hb dX10_gates_88 hl (by decide) rfl (fun ls hl => ?_)
  obtain ⟨v_13, hv_13, h⟩ := ox_bind h
  refine lpc_W (Wh := fun (z : Int32 × Int32) => WA p l e (rM 2 53) s m args below meth c g A Q 8 90 [oX10 q_t Q_t (F_t 0 0) (F_t 2 0) (F_t 3 0) (F_t 4 0) (F_t 5 0) (F_t 6 0) (F_t 7 0) (F_t 8 0) (F_t 9 0) (F_t 10 0) (F_t 11 0) (F_t 12 0) (F_t 15 0) (F_t 16 0) (F_t 17 0) (F_t 23 0) (F_t 27 0) (F_t 28 0) (F_t 30 0), ia g (Q_t 18) 16 (F_t 18), ia g (Q_t 19) 30 (F_t 19), ia g (Q_t 20) 174 (F_t 20), ia g (Q_t 32) 8 (F_t 32), ia g (Q_t 33) 8 (F_t 33)] [(0, .ref q_t), (1, .int x1), (2, .int x2), (3, .int x3), (4, .int x4), (5, .int x5), (6, .int z.1), (7, .int z.2)] []) (We := fun (v : Int32) => WA p l e (rM 2 53) s m args below meth c g A Q 8 138 [oX10 q_t Q_t (F_t 0 0) (F_t 2 0) (F_t 3 0) (F_t 4 0) (F_t 5 0) (F_t 6 0) (F_t 7 0) (F_t 8 0) (F_t 9 0) (F_t 10 0) (F_t 11 0) (F_t 12 0) (F_t 15 0) (F_t 16 0) (F_t 17 0) (F_t 23 0) (F_t 27 0) (F_t 28 0) (F_t 30 0), ia g (Q_t 18) 16 (F_t 18), ia g (Q_t 19) 30 (F_t 19), ia g (Q_t 20) 174 (F_t 20), ia g (Q_t 32) 8 (F_t 32), ia g (Q_t 33) 8 (F_t 33)] [(0, .ref q_t), (1, .int x1), (2, .int x2), (3, .int x3), (4, .int x4), (5, .int x5), (6, .int v)] []) (fun z r hb hc he => t_X10_gates_b90 E q_t Q_t N F_t x1 x2 x3 x4 x5 z.1 z.2 r hb hc he) N (s0, (0 : Int32)) v_13 hv_13 ?_ H locs ls hP hD hS (lv_sub hl [2, 3, 4, 5, 6, 7, 1, 0] rfl)
  intro H locs ls hP hD hS hl
  refine lv_iload hx hb dX10_gates_138 (lv_at hl 6 rfl) ?_
  refine lv_if_eq (tgt := 166) hx hb dX10_gates_140 (by decide) (fun c_14 => ?_) (fun c_14 => ?_)
  · have h := ox_t c_14 h
    exact t_X10_gates_b40_k166 E q_t Q_t N F_t x1 x2 x3 x4 x5 _ h hc he H locs ls hP hD hS (lv_sub hl [0, 1, 2, 3, 4, 5] rfl)
  · have h := ox_f c_14 h
    refine lv_iload hx hb dX10_gates_143 (lv_at hl 4 rfl) ?_
    refine lv_if_lt (tgt := 161) hx hb dX10_gates_145 (by decide) (fun c_15 => ?_) (fun c_15 => ?_)
    · have h := ox_t c_15 h
      exact t_X10_gates_b40_k161 E q_t Q_t N F_t x1 x2 x3 x5 _ h hc he H locs ls hP hD hS (lv_sub hl [0, 1, 2, 3, 5] rfl)
    · have h := ox_f c_15 h
      refine lv_iload hx hb dX10_gates_148 (lv_at hl 5 rfl) ?_
      obtain ⟨v_16, hv_16, h⟩ := ox_bind h
      refine kSi ⟨hx, hb, hml, hown, hts⟩ (c_X10_bits l g N x5 v_16 hv_16 H.size) (gS u_ml_X10_168 u_st_X10_bits u_ini_X10 u_co_X10_bits) hd_X10_bits ⟨rfl, rfl⟩ hK hP hD hS hA [] [0, 1, 2, 3, 4, 5] rfl rfl 0 rfl (w2 := [oX10 q_t Q_t (F_t 0 0) (F_t 2 0) (F_t 3 0) (F_t 4 0) (F_t 5 0) (F_t 6 0) (F_t 7 0) (F_t 8 0) (F_t 9 0) (F_t 10 0) (F_t 11 0) (F_t 12 0) (F_t 15 0) (F_t 16 0) (F_t 17 0) (F_t 23 0) (F_t 27 0) (F_t 28 0) (F_t 30 0), ia g (Q_t 18) 16 (F_t 18), ia g (Q_t 19) 30 (F_t 19), ia g (Q_t 20) 174 (F_t 20), ia g (Q_t 32) 8 (F_t 32), ia g (Q_t 33) 8 (F_t 33)]) rfl rfl (As := [.int x5]) (rest := []) rfl hl.1 rfl rfl dX10_gates_150 (fun H locs hP hD hS => ?_)
      refine lv_iload hx hb dX10_gates_153 (lv_at hl 4 rfl) ?_
      obtain ⟨v_17, hv_17, h⟩ := ox_bind h
      refine kSi ⟨hx, hb, hml, hown, hts⟩ (c_X10_bits l g N x4 v_17 hv_17 H.size) (gS u_ml_X10_168 u_st_X10_bits u_ini_X10 u_co_X10_bits) hd_X10_bits ⟨rfl, rfl⟩ hK hP hD hS hA [] [0, 1, 2, 3, 4, 5] rfl rfl 0 rfl (w2 := [oX10 q_t Q_t (F_t 0 0) (F_t 2 0) (F_t 3 0) (F_t 4 0) (F_t 5 0) (F_t 6 0) (F_t 7 0) (F_t 8 0) (F_t 9 0) (F_t 10 0) (F_t 11 0) (F_t 12 0) (F_t 15 0) (F_t 16 0) (F_t 17 0) (F_t 23 0) (F_t 27 0) (F_t 28 0) (F_t 30 0), ia g (Q_t 18) 16 (F_t 18), ia g (Q_t 19) 30 (F_t 19), ia g (Q_t 20) 174 (F_t 20), ia g (Q_t 32) 8 (F_t 32), ia g (Q_t 33) 8 (F_t 33)]) rfl rfl (As := [.int x4]) (rest := [.int v_16]) rfl hl.1 rfl rfl dX10_gates_155 (fun H locs hP hD hS => ?_)
      refine lv_icmp_ge (tgt := 166) hx hb dX10_gates_158 (by decide) (fun c_18 => ?_) (fun c_18 => ?_)
      · have h := ox_t c_18 h
        exact t_X10_gates_b40_k166 E q_t Q_t N F_t x1 x2 x3 x4 x5 _ h hc he H locs ls hP hD hS (lv_sub hl [0, 1, 2, 3, 4, 5] rfl)
      · have h := ox_f c_18 h
        exact t_X10_gates_b40_k161 E q_t Q_t N F_t x1 x2 x3 x5 _ h hc he H locs ls hP hD hS (lv_sub hl [0, 1, 2, 3, 5] rfl)
def x_X10_gates_b40 (N : Nat) (F_t : St) (x1 : Int32) (x2 : Int32) (x3 : Int32) (x4 : Int32) (x5 : Int32) : Option ((Int32 × Int32 × (Nat → Int32) × (Nat → Int32)) ⊕ (Int32 × (Nat → Int32) × (Nat → Int32))) :=
  if ((1 : Int32) <<< ((F_t 17 0) &&& 31)) ≤ x5 then (some (.inr (x4, (F_t 32), (F_t 33)))) else (Option.bind (x_X10_layComes N F_t x2 (((F_t 20) (172 : Int32).toNatClampNeg) ||| x5) (-1 : Int32) (-1 : Int32)) (fun v_20 => if x1 < 0 ∨ 8 ≤ x1.toNatClampNeg then none else if (v_20.2 x1.toNatClampNeg) = (99 : Int32) then (x_X10_gates_b40_k85 N (va_up (va_up F_t 32 v_20.1) 33 v_20.2) x1 x2 x3 x4 x5 (0 : Int32)) else (x_X10_gates_b40_k85 N (va_up (va_up F_t 32 v_20.1) 33 v_20.2) x1 x2 x3 x4 x5 (1 : Int32))))
set_option maxHeartbeats 4000000 in
set_option maxRecDepth 100000 in
theorem t_X10_gates_b40 {p : Program} {l : Launch} {e : Env} {s : State} {m : MethodId} {args : Array Value} {below : List Frame} {meth : Method} {c : Code} {g : gG} {A : Nat → Prop} {Q : State → Prop} (E : En p s m args meth c g A cX10_gates 8 (.code yX10_gates cX10_gates 8 (some .int) :: gW) RX10 (some .int)) (q_t : Nat) (Q_t : Ad) (N : Nat) (F_t : St) (x1 : Int32) (x2 : Int32) (x3 : Int32) (x4 : Int32) (x5 : Int32) (o : (Int32 × Int32 × (Nat → Int32) × (Nat → Int32)) ⊕ (Int32 × (Nat → Int32) × (Nat → Int32))) (h : x_X10_gates_b40 N F_t x1 x2 x3 x4 x5 = some o) (hc : ∀ z, o = .inl z → WA p l e (rM 2 53) s m args below meth c g A Q 8 40 [oX10 q_t Q_t (F_t 0 0) (F_t 2 0) (F_t 3 0) (F_t 4 0) (F_t 5 0) (F_t 6 0) (F_t 7 0) (F_t 8 0) (F_t 9 0) (F_t 10 0) (F_t 11 0) (F_t 12 0) (F_t 15 0) (F_t 16 0) (F_t 17 0) (F_t 23 0) (F_t 27 0) (F_t 28 0) (F_t 30 0), ia g (Q_t 18) 16 (F_t 18), ia g (Q_t 19) 30 (F_t 19), ia g (Q_t 20) 174 (F_t 20), ia g (Q_t 32) 8 z.2.2.1, ia g (Q_t 33) 8 z.2.2.2] [(0, .ref q_t), (1, .int x1), (2, .int x2), (3, .int x3), (4, .int z.1), (5, .int z.2.1)] []) (he : ∀ v, o = .inr v → WA p l e (rM 2 53) s m args below meth c g A Q 8 176 [oX10 q_t Q_t (F_t 0 0) (F_t 2 0) (F_t 3 0) (F_t 4 0) (F_t 5 0) (F_t 6 0) (F_t 7 0) (F_t 8 0) (F_t 9 0) (F_t 10 0) (F_t 11 0) (F_t 12 0) (F_t 15 0) (F_t 16 0) (F_t 17 0) (F_t 23 0) (F_t 27 0) (F_t 28 0) (F_t 30 0), ia g (Q_t 18) 16 (F_t 18), ia g (Q_t 19) 30 (F_t 19), ia g (Q_t 20) 174 (F_t 20), ia g (Q_t 32) 8 v.2.1, ia g (Q_t 33) 8 v.2.2] [(4, .int v.1)] []) : WA p l e (rM 2 53) s m args below meth c g A Q 8 40 [oX10 q_t Q_t (F_t 0 0) (F_t 2 0) (F_t 3 0) (F_t 4 0) (F_t 5 0) (F_t 6 0) (F_t 7 0) (F_t 8 0) (F_t 9 0) (F_t 10 0) (F_t 11 0) (F_t 12 0) (F_t 15 0) (F_t 16 0) (F_t 17 0) (F_t 23 0) (F_t 27 0) (F_t 28 0) (F_t 30 0), ia g (Q_t 18) 16 (F_t 18), ia g (Q_t 19) 30 (F_t 19), ia g (Q_t 20) 174 (F_t 20), ia g (Q_t 32) 8 (F_t 32), ia g (Q_t 33) 8 (F_t 33)] [(0, .ref q_t), (1, .int x1), (2, .int x2), (3, .int x3), (4, .int x4), (5, .int x5)] [] := by
  obtain ⟨⟨hx, hb, hml, hown, hts⟩, hr, hK, hA, hlk⟩ := id E
  intro H locs ls hP hD hS hl
  refine lv_iload hx hb dX10_gates_40 (lv_at hl 5 rfl) ?_
  refine lv_iconst (v := (1 : Int32)) hx hb dX10_gates_42 (by decide) ?_
  refine lv_aload_n hx hb dX10_gates_43 rfl (lv_at hl 0 rfl) ?_
  refine va_get (ci := 10) (v := .int (F_t 17 0)) (C := RX10) (T := TX10) (N := 38) hx hb hts (fun w h => .tail _ (u_inX10 w h)) hown hK.1 hP 0 rfl rfl 17 (by decide) (hts _ (.tail _ u_fl_X10_87)) (fun _ h9 => h9) rfl dX10_gates_44 ?_
  refine lv_ishl hx hb dX10_gates_47 ?_
  refine lv_icmp_ge (tgt := 176) hx hb dX10_gates_48 (by decide) (fun c_19 => ?_) (fun c_19 => ?_)
  · have h := ox_t c_19 h
    obtain rfl := Option.some.inj h
    exact he _ rfl H locs ls hP hD hS (lv_sub hl [4] rfl)
  · have h := ox_f c_19 h
    refine lv_aload_n hx hb dX10_gates_51 rfl (lv_at hl 0 rfl) ?_
    refine lv_iload_n hx hb dX10_gates_52 rfl (lv_at hl 2 rfl) ?_
    refine lv_aload_n hx hb dX10_gates_53 rfl (lv_at hl 0 rfl) ?_
    refine va_get (ci := 10) (v := .ref (Q_t 20)) (C := RX10) (T := TX10) (N := 38) hx hb hts (fun w h => .tail _ (u_inX10 w h)) hown hK.1 hP 0 rfl rfl 20 (by decide) (hts _ (.tail _ u_fl_X10_29)) (fun _ h9 => h9) rfl dX10_gates_54 ?_
    refine lv_sipush (v := (172 : Int32)) hx hb dX10_gates_57 (by decide) ?_
    refine va_iald hx hb hK.1 hP 3 0 rfl rfl (by unfold vp_in; decide) dX10_gates_60 ?_
    refine lv_iload hx hb dX10_gates_61 (lv_at hl 5 rfl) ?_
    refine lv_ior hx hb dX10_gates_63 ?_
    refine lv_iconst (v := (-1 : Int32)) hx hb dX10_gates_64 (by decide) ?_
    refine lv_iconst (v := (-1 : Int32)) hx hb dX10_gates_65 (by decide) ?_
    obtain ⟨v_20, hv_20, h⟩ := ox_bind h
    refine kVv ⟨hx, hb, hml, hown, hts⟩ (c_X10_layComes l g q_t Q_t N F_t x2 (((F_t 20) (172 : Int32).toNatClampNeg) ||| x5) (-1 : Int32) (-1 : Int32) v_20 hv_20 H.size) (gV u_ml_X10_229 u_im_X10_layComes u_se_X10_layComes u_ini_X10 u_co_X10_layComes) hd_X10_layComes ⟨rfl, rfl⟩ hK hP hD hS hA 0 10 rfl rfl [0, 1, 2, 3, 4, 5] [0, 1, 2, 3, 4, 5] rfl rfl 6 rfl (w2 := [oX10 q_t Q_t (F_t 0 0) (F_t 2 0) (F_t 3 0) (F_t 4 0) (F_t 5 0) (F_t 6 0) (F_t 7 0) (F_t 8 0) (F_t 9 0) (F_t 10 0) (F_t 11 0) (F_t 12 0) (F_t 15 0) (F_t 16 0) (F_t 17 0) (F_t 23 0) (F_t 27 0) (F_t 28 0) (F_t 30 0), ia g (Q_t 18) 16 (F_t 18), ia g (Q_t 19) 30 (F_t 19), ia g (Q_t 20) 174 (F_t 20), ia g (Q_t 32) 8 v_20.1, ia g (Q_t 33) 8 v_20.2]) rfl rfl (As := [.int x2, .int (((F_t 20) (172 : Int32).toNatClampNeg) ||| x5), .int (-1 : Int32), .int (-1 : Int32)]) (rest := []) rfl hl.1 rfl rfl dX10_gates_66 (fun H locs hP hD hS => ?_)
    refine lv_aload_n hx hb dX10_gates_69 rfl (lv_at hl 0 rfl) ?_
    refine va_get (ci := 10) (v := .ref (Q_t 33)) (C := RX10) (T := TX10) (N := 38) hx hb hts (fun w h => .tail _ (u_inX10 w h)) hown hK.1 hP 0 rfl rfl 33 (by decide) (hts _ (.tail _ u_fl_X10_57)) (fun _ h9 => h9) rfl dX10_gates_70 ?_
    refine lv_iload_n hx hb dX10_gates_73 rfl (lv_at hl 1 rfl) ?_
    obtain ⟨hi_21, h⟩ := ox_chk h
    refine va_iald hx hb hK.1 hP 5 0 rfl rfl hi_21 dX10_gates_74 ?_
    refine lv_bipush (v := (99 : Int32)) hx hb dX10_gates_75 (by decide) ?_
    refine lv_icmp_eq (tgt := 84) hx hb dX10_gates_77 (by decide) (fun c_22 => ?_) (fun c_22 => ?_)
    · have h := ox_t c_22 h
      refine lv_iconst (v := (0 : Int32)) hx hb dX10_gates_84 (by decide) ?_
      exact t_X10_gates_b40_k85 E q_t Q_t N (va_up (va_up F_t 32 v_20.1) 33 v_20.2) x1 x2 x3 x4 x5 (0 : Int32) _ h hc he H locs ls hP hD hS hl
    · have h := ox_f c_22 h
      refine lv_iconst (v := (1 : Int32)) hx hb dX10_gates_80 (by decide) ?_
      refine lv_goto (tgt := 85) hx hb dX10_gates_81 (by decide) ?_
      exact t_X10_gates_b40_k85 E q_t Q_t N (va_up (va_up F_t 32 v_20.1) 33 v_20.2) x1 x2 x3 x4 x5 (1 : Int32) _ h hc he H locs ls hP hD hS hl
def x_X10_gates (N : Nat) (F_t : St) (x1 : Int32) (x2 : Int32) (x3 : Int32) : Option (Int32 × (Nat → Int32) × (Nat → Int32)) :=
  Option.bind (x_X10_isPlace F_t x1) (fun v_1 => if v_1 = 0 then (some ((-1000000001 : Int32), (F_t 32), (F_t 33))) else (Option.bind (x_X10_isSaying x2) (fun v_3 => if v_3 = 0 then (some ((-1000000001 : Int32), (F_t 32), (F_t 33))) else (Option.bind (x_X10_in x3 (0 : Int32) (((1 : Int32) <<< ((F_t 16 0) &&& 31)) - (1 : Int32))) (fun v_5 => if v_5 = 0 then (some ((-1000000001 : Int32), (F_t 32), (F_t 33))) else (Option.bind (lpc (fun (z : Int32 × Int32 × (Nat → Int32) × (Nat → Int32)) => x_X10_gates_b40 N (va_up (va_up F_t 32 z.2.2.1) 33 z.2.2.2) x1 x2 x3 z.1 z.2.1) N ((-1 : Int32), (0 : Int32), (F_t 32), (F_t 33))) (fun v_23 => some (v_23.1, v_23.2.1, v_23.2.2))))))))
set_option maxHeartbeats 4000000 in
set_option maxRecDepth 100000 in
theorem t_X10_gates {p : Program} {l : Launch} {e : Env} {s : State} {m : MethodId} {args : Array Value} {below : List Frame} {meth : Method} {c : Code} {g : gG} {A : Nat → Prop} (E : En p s m args meth c g A cX10_gates 8 (.code yX10_gates cX10_gates 8 (some .int) :: gW) RX10 (some .int)) (q_t : Nat) (Q_t : Ad) (N : Nat) (F_t : St) (x1 : Int32) (x2 : Int32) (x3 : Int32) (o : Int32 × (Nat → Int32) × (Nat → Int32)) (h : x_X10_gates N F_t x1 x2 x3 = some o) : WA p l e (rM 2 53) s m args below meth c g A (MQ below (QI g A o.1 [oX10 q_t Q_t (F_t 0 0) (F_t 2 0) (F_t 3 0) (F_t 4 0) (F_t 5 0) (F_t 6 0) (F_t 7 0) (F_t 8 0) (F_t 9 0) (F_t 10 0) (F_t 11 0) (F_t 12 0) (F_t 15 0) (F_t 16 0) (F_t 17 0) (F_t 23 0) (F_t 27 0) (F_t 28 0) (F_t 30 0), ia g (Q_t 18) 16 (F_t 18), ia g (Q_t 19) 30 (F_t 19), ia g (Q_t 20) 174 (F_t 20), ia g (Q_t 32) 8 o.2.1, ia g (Q_t 33) 8 o.2.2]) args s 0 0 A) 8 0 [oX10 q_t Q_t (F_t 0 0) (F_t 2 0) (F_t 3 0) (F_t 4 0) (F_t 5 0) (F_t 6 0) (F_t 7 0) (F_t 8 0) (F_t 9 0) (F_t 10 0) (F_t 11 0) (F_t 12 0) (F_t 15 0) (F_t 16 0) (F_t 17 0) (F_t 23 0) (F_t 27 0) (F_t 28 0) (F_t 30 0), ia g (Q_t 18) 16 (F_t 18), ia g (Q_t 19) 30 (F_t 19), ia g (Q_t 20) 174 (F_t 20), ia g (Q_t 32) 8 (F_t 32), ia g (Q_t 33) 8 (F_t 33)] [(0, .ref q_t), (1, .int x1), (2, .int x2), (3, .int x3)] [] := by
  obtain ⟨⟨hx, hb, hml, hown, hts⟩, hr, hK, hA, hlk⟩ := id E
  intro H locs ls hP hD hS hl
  refine lv_aload_n hx hb dX10_gates_0 rfl (lv_at hl 0 rfl) ?_
  refine lv_iload_n hx hb dX10_gates_1 rfl (lv_at hl 1 rfl) ?_
  obtain ⟨v_1, hv_1, h⟩ := ox_bind h
  refine kVi ⟨hx, hb, hml, hown, hts⟩ (c_X10_isPlace l g q_t Q_t F_t x1 v_1 hv_1 H.size) (gV u_ml_X10_180 u_im_X10_isPlace u_se_X10_isPlace u_ini_X10 u_co_X10_isPlace) hd_X10_isPlace ⟨rfl, rfl⟩ hK hP hD hS hA 0 10 rfl rfl [0] [0, 2, 3, 4, 5, 6] rfl rfl 1 rfl (w2 := [oX10 q_t Q_t (F_t 0 0) (F_t 2 0) (F_t 3 0) (F_t 4 0) (F_t 5 0) (F_t 6 0) (F_t 7 0) (F_t 8 0) (F_t 9 0) (F_t 10 0) (F_t 11 0) (F_t 12 0) (F_t 15 0) (F_t 16 0) (F_t 17 0) (F_t 23 0) (F_t 27 0) (F_t 28 0) (F_t 30 0), ia g (Q_t 18) 16 (F_t 18), ia g (Q_t 19) 30 (F_t 19), ia g (Q_t 20) 174 (F_t 20), ia g (Q_t 32) 8 (F_t 32), ia g (Q_t 33) 8 (F_t 33)]) rfl rfl (As := [.int x1]) (rest := []) rfl hl.1 rfl rfl dX10_gates_2 (fun H locs hP hD hS => ?_)
  refine lv_if_eq (tgt := 31) hx hb dX10_gates_5 (by decide) (fun c_2 => ?_) (fun c_2 => ?_)
  · have h := ox_t c_2 h
    refine lv_ldc (v := (-1000000001 : Int32)) hx hb hown (hts _ (.tail _ u_k_X10_183)) dX10_gates_31 ?_
    obtain rfl := Option.some.inj h
    exact k_iret hx hb hr hlk hP hD hS dX10_gates_33
  · have h := ox_f c_2 h
    refine lv_iload_n hx hb dX10_gates_8 rfl (lv_at hl 2 rfl) ?_
    obtain ⟨v_3, hv_3, h⟩ := ox_bind h
    refine kSi ⟨hx, hb, hml, hown, hts⟩ (c_X10_isSaying l g x2 v_3 hv_3 H.size) (gS u_ml_X10_187 u_st_X10_isSaying u_ini_X10 u_co_X10_isSaying) hd_X10_isSaying ⟨rfl, rfl⟩ hK hP hD hS hA [] [0, 1, 2, 3, 4, 5] rfl rfl 0 rfl (w2 := [oX10 q_t Q_t (F_t 0 0) (F_t 2 0) (F_t 3 0) (F_t 4 0) (F_t 5 0) (F_t 6 0) (F_t 7 0) (F_t 8 0) (F_t 9 0) (F_t 10 0) (F_t 11 0) (F_t 12 0) (F_t 15 0) (F_t 16 0) (F_t 17 0) (F_t 23 0) (F_t 27 0) (F_t 28 0) (F_t 30 0), ia g (Q_t 18) 16 (F_t 18), ia g (Q_t 19) 30 (F_t 19), ia g (Q_t 20) 174 (F_t 20), ia g (Q_t 32) 8 (F_t 32), ia g (Q_t 33) 8 (F_t 33)]) rfl rfl (As := [.int x2]) (rest := []) rfl hl.1 rfl rfl dX10_gates_9 (fun H locs hP hD hS => ?_)
    refine lv_if_eq (tgt := 31) hx hb dX10_gates_12 (by decide) (fun c_4 => ?_) (fun c_4 => ?_)
    · have h := ox_t c_4 h
      refine lv_ldc (v := (-1000000001 : Int32)) hx hb hown (hts _ (.tail _ u_k_X10_183)) dX10_gates_31 ?_
      obtain rfl := Option.some.inj h
      exact k_iret hx hb hr hlk hP hD hS dX10_gates_33
    · have h := ox_f c_4 h
      refine lv_iload_n hx hb dX10_gates_15 rfl (lv_at hl 3 rfl) ?_
      refine lv_iconst (v := (0 : Int32)) hx hb dX10_gates_16 (by decide) ?_
      refine lv_iconst (v := (1 : Int32)) hx hb dX10_gates_17 (by decide) ?_
      refine lv_aload_n hx hb dX10_gates_18 rfl (lv_at hl 0 rfl) ?_
      refine va_get (ci := 10) (v := .int (F_t 16 0)) (C := RX10) (T := TX10) (N := 38) hx hb hts (fun w h => .tail _ (u_inX10 w h)) hown hK.1 hP 0 rfl rfl 16 (by decide) (hts _ (.tail _ u_fl_X10_80)) (fun _ h9 => h9) rfl dX10_gates_19 ?_
      refine lv_ishl hx hb dX10_gates_22 ?_
      refine lv_iconst (v := (1 : Int32)) hx hb dX10_gates_23 (by decide) ?_
      refine lv_isub hx hb dX10_gates_24 ?_
      obtain ⟨v_5, hv_5, h⟩ := ox_bind h
      refine kSi ⟨hx, hb, hml, hown, hts⟩ (c_X10_in l g x3 (0 : Int32) (((1 : Int32) <<< ((F_t 16 0) &&& 31)) - (1 : Int32)) v_5 hv_5 H.size) (gS u_ml_X10_83 u_st_X10_in u_ini_X10 u_co_X10_in) hd_X10_in ⟨rfl, rfl⟩ hK hP hD hS hA [] [0, 1, 2, 3, 4, 5] rfl rfl 0 rfl (w2 := [oX10 q_t Q_t (F_t 0 0) (F_t 2 0) (F_t 3 0) (F_t 4 0) (F_t 5 0) (F_t 6 0) (F_t 7 0) (F_t 8 0) (F_t 9 0) (F_t 10 0) (F_t 11 0) (F_t 12 0) (F_t 15 0) (F_t 16 0) (F_t 17 0) (F_t 23 0) (F_t 27 0) (F_t 28 0) (F_t 30 0), ia g (Q_t 18) 16 (F_t 18), ia g (Q_t 19) 30 (F_t 19), ia g (Q_t 20) 174 (F_t 20), ia g (Q_t 32) 8 (F_t 32), ia g (Q_t 33) 8 (F_t 33)]) rfl rfl (As := [.int x3, .int (0 : Int32), .int (((1 : Int32) <<< ((F_t 16 0) &&& 31)) - (1 : Int32))]) (rest := []) rfl hl.1 rfl rfl dX10_gates_25 (fun H locs hP hD hS => ?_)
      refine lv_if_ne (tgt := 34) hx hb dX10_gates_28 (by decide) (fun c_6 => ?_) (fun c_6 => ?_)
      · have h := ox_f c_6 h
        refine lv_iconst (v := (-1 : Int32)) hx hb dX10_gates_34 (by decide) ?_
        refine lv_istore (lv' := [(4, .int (-1 : Int32)), (0, .ref q_t), (1, .int x1), (2, .int x2), (3, .int x3)]) hx hb dX10_gates_35 hl (by decide) rfl (fun ls hl => ?_)
        refine lv_iconst (v := (0 : Int32)) hx hb dX10_gates_37 (by decide) ?_
        refine lv_istore (lv' := [(5, .int (0 : Int32)), (4, .int (-1 : Int32)), (0, .ref q_t), (1, .int x1), (2, .int x2), (3, .int x3)]) hx hb dX10_gates_38 hl (by decide) rfl (fun ls hl => ?_)
        obtain ⟨v_23, hv_23, h⟩ := ox_bind h
        refine lpc_W (Wh := fun (z : Int32 × Int32 × (Nat → Int32) × (Nat → Int32)) => WA p l e (rM 2 53) s m args below meth c g A (MQ below (QI g A o.1 [oX10 q_t Q_t (F_t 0 0) (F_t 2 0) (F_t 3 0) (F_t 4 0) (F_t 5 0) (F_t 6 0) (F_t 7 0) (F_t 8 0) (F_t 9 0) (F_t 10 0) (F_t 11 0) (F_t 12 0) (F_t 15 0) (F_t 16 0) (F_t 17 0) (F_t 23 0) (F_t 27 0) (F_t 28 0) (F_t 30 0), ia g (Q_t 18) 16 (F_t 18), ia g (Q_t 19) 30 (F_t 19), ia g (Q_t 20) 174 (F_t 20), ia g (Q_t 32) 8 o.2.1, ia g (Q_t 33) 8 o.2.2]) args s 0 0 A) 8 40 [oX10 q_t Q_t (F_t 0 0) (F_t 2 0) (F_t 3 0) (F_t 4 0) (F_t 5 0) (F_t 6 0) (F_t 7 0) (F_t 8 0) (F_t 9 0) (F_t 10 0) (F_t 11 0) (F_t 12 0) (F_t 15 0) (F_t 16 0) (F_t 17 0) (F_t 23 0) (F_t 27 0) (F_t 28 0) (F_t 30 0), ia g (Q_t 18) 16 (F_t 18), ia g (Q_t 19) 30 (F_t 19), ia g (Q_t 20) 174 (F_t 20), ia g (Q_t 32) 8 z.2.2.1, ia g (Q_t 33) 8 z.2.2.2] [(0, .ref q_t), (1, .int x1), (2, .int x2), (3, .int x3), (4, .int z.1), (5, .int z.2.1)] []) (We := fun (v : Int32 × (Nat → Int32) × (Nat → Int32)) => WA p l e (rM 2 53) s m args below meth c g A (MQ below (QI g A o.1 [oX10 q_t Q_t (F_t 0 0) (F_t 2 0) (F_t 3 0) (F_t 4 0) (F_t 5 0) (F_t 6 0) (F_t 7 0) (F_t 8 0) (F_t 9 0) (F_t 10 0) (F_t 11 0) (F_t 12 0) (F_t 15 0) (F_t 16 0) (F_t 17 0) (F_t 23 0) (F_t 27 0) (F_t 28 0) (F_t 30 0), ia g (Q_t 18) 16 (F_t 18), ia g (Q_t 19) 30 (F_t 19), ia g (Q_t 20) 174 (F_t 20), ia g (Q_t 32) 8 o.2.1, ia g (Q_t 33) 8 o.2.2]) args s 0 0 A) 8 176 [oX10 q_t Q_t (F_t 0 0) (F_t 2 0) (F_t 3 0) (F_t 4 0) (F_t 5 0) (F_t 6 0) (F_t 7 0) (F_t 8 0) (F_t 9 0) (F_t 10 0) (F_t 11 0) (F_t 12 0) (F_t 15 0) (F_t 16 0) (F_t 17 0) (F_t 23 0) (F_t 27 0) (F_t 28 0) (F_t 30 0), ia g (Q_t 18) 16 (F_t 18), ia g (Q_t 19) 30 (F_t 19), ia g (Q_t 20) 174 (F_t 20), ia g (Q_t 32) 8 v.2.1, ia g (Q_t 33) 8 v.2.2] [(4, .int v.1)] []) (fun z r hb hc he => t_X10_gates_b40 E q_t Q_t N (va_up (va_up F_t 32 z.2.2.1) 33 z.2.2.2) x1 x2 x3 z.1 z.2.1 r hb hc he) N ((-1 : Int32), (0 : Int32), (F_t 32), (F_t 33)) v_23 hv_23 ?_ H locs ls hP hD hS (lv_sub hl [2, 3, 4, 5, 1, 0] rfl)
        intro H locs ls hP hD hS hl
        refine lv_iload hx hb dX10_gates_176 (lv_at hl 0 rfl) ?_
        obtain rfl := Option.some.inj h
        exact k_iret hx hb hr hlk hP hD hS dX10_gates_178
      · have h := ox_t c_6 h
        refine lv_ldc (v := (-1000000001 : Int32)) hx hb hown (hts _ (.tail _ u_k_X10_183)) dX10_gates_31 ?_
        obtain rfl := Option.some.inj h
        exact k_iret hx hb hr hlk hP hD hS dX10_gates_33
set_option maxRecDepth 100000 in
theorem c_X10_gates (l : Launch) (g : gG) (q_t : Nat) (Q_t : Ad) (N : Nat) (F_t : St) (x1 : Int32) (x2 : Int32) (x3 : Int32) (o : Int32 × (Nat → Int32) × (Nat → Int32)) (h : x_X10_gates N F_t x1 x2 x3 = some o) (sz : Nat) : MetI l yX10_gates (.code yX10_gates cX10_gates 8 (some .int) :: gW) 2 53 [.ref q_t, .int x1, .int x2, .int x3] o.1 g [oX10 q_t Q_t (F_t 0 0) (F_t 2 0) (F_t 3 0) (F_t 4 0) (F_t 5 0) (F_t 6 0) (F_t 7 0) (F_t 8 0) (F_t 9 0) (F_t 10 0) (F_t 11 0) (F_t 12 0) (F_t 15 0) (F_t 16 0) (F_t 17 0) (F_t 23 0) (F_t 27 0) (F_t 28 0) (F_t 30 0), ia g (Q_t 18) 16 (F_t 18), ia g (Q_t 19) 30 (F_t 19), ia g (Q_t 20) 174 (F_t 20), ia g (Q_t 32) 8 (F_t 32), ia g (Q_t 33) 8 (F_t 33)] [oX10 q_t Q_t (F_t 0 0) (F_t 2 0) (F_t 3 0) (F_t 4 0) (F_t 5 0) (F_t 6 0) (F_t 7 0) (F_t 8 0) (F_t 9 0) (F_t 10 0) (F_t 11 0) (F_t 12 0) (F_t 15 0) (F_t 16 0) (F_t 17 0) (F_t 23 0) (F_t 27 0) (F_t 28 0) (F_t 30 0), ia g (Q_t 18) 16 (F_t 18), ia g (Q_t 19) 30 (F_t 19), ia g (Q_t 20) 174 (F_t 20), ia g (Q_t 32) 8 o.2.1, ia g (Q_t 33) 8 o.2.2] sz :=
  mkI (av := [.ref q_t, .int x1, .int x2, .int x3]) (by decide +kernel) rfl (fun p e s m below meth c A E H locs ls hP hD hS hl => t_X10_gates E q_t Q_t N F_t x1 x2 x3 o h H locs ls hP hD hS hl) sz
def x_X10_cut_b36_k101 (N : Nat) (F_t : St) (x1 : Int32) (x2 : Int32) (x3 : Int32) (x5 : Int32) (s0 : Int32) : Option ((Int32 × Int32 × (Nat → Int32) × (Nat → Int32)) ⊕ (Int32 × (Nat → Int32) × (Nat → Int32))) :=
  some (.inl (s0, (x5 + (1 : Int32)), (F_t 32), (F_t 33)))
set_option maxHeartbeats 4000000 in
set_option maxRecDepth 100000 in
theorem t_X10_cut_b36_k101 {p : Program} {l : Launch} {e : Env} {s : State} {m : MethodId} {args : Array Value} {below : List Frame} {meth : Method} {c : Code} {g : gG} {A : Nat → Prop} {Q : State → Prop} (E : En p s m args meth c g A cX10_cut 6 (.code yX10_cut cX10_cut 6 (some .int) :: gW) RX10 (some .int)) (q_t : Nat) (Q_t : Ad) (N : Nat) (F_t : St) (x1 : Int32) (x2 : Int32) (x3 : Int32) (x5 : Int32) (s0 : Int32) (o : (Int32 × Int32 × (Nat → Int32) × (Nat → Int32)) ⊕ (Int32 × (Nat → Int32) × (Nat → Int32))) (h : x_X10_cut_b36_k101 N F_t x1 x2 x3 x5 s0 = some o) (hc : ∀ z, o = .inl z → WA p l e (rM 2 53) s m args below meth c g A Q 6 36 [oX10 q_t Q_t (F_t 0 0) (F_t 2 0) (F_t 3 0) (F_t 4 0) (F_t 5 0) (F_t 6 0) (F_t 7 0) (F_t 8 0) (F_t 9 0) (F_t 10 0) (F_t 11 0) (F_t 12 0) (F_t 15 0) (F_t 16 0) (F_t 17 0) (F_t 23 0) (F_t 27 0) (F_t 28 0) (F_t 30 0), ia g (Q_t 18) 16 (F_t 18), ia g (Q_t 19) 30 (F_t 19), ia g (Q_t 20) 174 (F_t 20), ia g (Q_t 32) 8 z.2.2.1, ia g (Q_t 33) 8 z.2.2.2] [(0, .ref q_t), (1, .int x1), (2, .int x2), (3, .int x3), (4, .int z.1), (5, .int z.2.1)] []) (he : ∀ v, o = .inr v → WA p l e (rM 2 53) s m args below meth c g A Q 6 109 [oX10 q_t Q_t (F_t 0 0) (F_t 2 0) (F_t 3 0) (F_t 4 0) (F_t 5 0) (F_t 6 0) (F_t 7 0) (F_t 8 0) (F_t 9 0) (F_t 10 0) (F_t 11 0) (F_t 12 0) (F_t 15 0) (F_t 16 0) (F_t 17 0) (F_t 23 0) (F_t 27 0) (F_t 28 0) (F_t 30 0), ia g (Q_t 18) 16 (F_t 18), ia g (Q_t 19) 30 (F_t 19), ia g (Q_t 20) 174 (F_t 20), ia g (Q_t 32) 8 v.2.1, ia g (Q_t 33) 8 v.2.2] [(3, .int x3), (4, .int v.1)] []) : WA p l e (rM 2 53) s m args below meth c g A Q 6 101 [oX10 q_t Q_t (F_t 0 0) (F_t 2 0) (F_t 3 0) (F_t 4 0) (F_t 5 0) (F_t 6 0) (F_t 7 0) (F_t 8 0) (F_t 9 0) (F_t 10 0) (F_t 11 0) (F_t 12 0) (F_t 15 0) (F_t 16 0) (F_t 17 0) (F_t 23 0) (F_t 27 0) (F_t 28 0) (F_t 30 0), ia g (Q_t 18) 16 (F_t 18), ia g (Q_t 19) 30 (F_t 19), ia g (Q_t 20) 174 (F_t 20), ia g (Q_t 32) 8 (F_t 32), ia g (Q_t 33) 8 (F_t 33)] [(0, .ref q_t), (1, .int x1), (2, .int x2), (3, .int x3), (5, .int x5)] [.int s0] := by
  obtain ⟨⟨hx, hb, hml, hown, hts⟩, hr, hK, hA, hlk⟩ := id E
  intro H locs ls hP hD hS hl
  refine lv_istore (lv' := [(4, .int s0), (0, .ref q_t), (1, .int x1), (2, .int x2), (3, .int x3), (5, .int x5)]) hx hb dX10_cut_101 hl (by decide) rfl (fun ls hl => ?_)
  refine lv_iinc (v := (x5 + (1 : Int32))) (lv' := [(5, .int (x5 + (1 : Int32))), (4, .int s0), (0, .ref q_t), (1, .int x1), (2, .int x2), (3, .int x3)]) hx hb dX10_cut_103 hl (k := 5) rfl rfl (by decide) rfl (fun ls hl => ?_)
  refine lv_goto (tgt := 36) hx hb dX10_cut_106 (by decide) ?_
  obtain rfl := Option.some.inj h
  exact hc _ rfl H locs ls hP hD hS (lv_sub hl [2, 3, 4, 5, 1, 0] rfl)
def x_X10_cut_b36_k99 (N : Nat) (F_t : St) (x1 : Int32) (x2 : Int32) (x3 : Int32) (x4 : Int32) (x5 : Int32) : Option ((Int32 × Int32 × (Nat → Int32) × (Nat → Int32)) ⊕ (Int32 × (Nat → Int32) × (Nat → Int32))) :=
  x_X10_cut_b36_k101 N F_t x1 x2 x3 x5 x4
set_option maxHeartbeats 4000000 in
set_option maxRecDepth 100000 in
theorem t_X10_cut_b36_k99 {p : Program} {l : Launch} {e : Env} {s : State} {m : MethodId} {args : Array Value} {below : List Frame} {meth : Method} {c : Code} {g : gG} {A : Nat → Prop} {Q : State → Prop} (E : En p s m args meth c g A cX10_cut 6 (.code yX10_cut cX10_cut 6 (some .int) :: gW) RX10 (some .int)) (q_t : Nat) (Q_t : Ad) (N : Nat) (F_t : St) (x1 : Int32) (x2 : Int32) (x3 : Int32) (x4 : Int32) (x5 : Int32) (o : (Int32 × Int32 × (Nat → Int32) × (Nat → Int32)) ⊕ (Int32 × (Nat → Int32) × (Nat → Int32))) (h : x_X10_cut_b36_k99 N F_t x1 x2 x3 x4 x5 = some o) (hc : ∀ z, o = .inl z → WA p l e (rM 2 53) s m args below meth c g A Q 6 36 [oX10 q_t Q_t (F_t 0 0) (F_t 2 0) (F_t 3 0) (F_t 4 0) (F_t 5 0) (F_t 6 0) (F_t 7 0) (F_t 8 0) (F_t 9 0) (F_t 10 0) (F_t 11 0) (F_t 12 0) (F_t 15 0) (F_t 16 0) (F_t 17 0) (F_t 23 0) (F_t 27 0) (F_t 28 0) (F_t 30 0), ia g (Q_t 18) 16 (F_t 18), ia g (Q_t 19) 30 (F_t 19), ia g (Q_t 20) 174 (F_t 20), ia g (Q_t 32) 8 z.2.2.1, ia g (Q_t 33) 8 z.2.2.2] [(0, .ref q_t), (1, .int x1), (2, .int x2), (3, .int x3), (4, .int z.1), (5, .int z.2.1)] []) (he : ∀ v, o = .inr v → WA p l e (rM 2 53) s m args below meth c g A Q 6 109 [oX10 q_t Q_t (F_t 0 0) (F_t 2 0) (F_t 3 0) (F_t 4 0) (F_t 5 0) (F_t 6 0) (F_t 7 0) (F_t 8 0) (F_t 9 0) (F_t 10 0) (F_t 11 0) (F_t 12 0) (F_t 15 0) (F_t 16 0) (F_t 17 0) (F_t 23 0) (F_t 27 0) (F_t 28 0) (F_t 30 0), ia g (Q_t 18) 16 (F_t 18), ia g (Q_t 19) 30 (F_t 19), ia g (Q_t 20) 174 (F_t 20), ia g (Q_t 32) 8 v.2.1, ia g (Q_t 33) 8 v.2.2] [(3, .int x3), (4, .int v.1)] []) : WA p l e (rM 2 53) s m args below meth c g A Q 6 99 [oX10 q_t Q_t (F_t 0 0) (F_t 2 0) (F_t 3 0) (F_t 4 0) (F_t 5 0) (F_t 6 0) (F_t 7 0) (F_t 8 0) (F_t 9 0) (F_t 10 0) (F_t 11 0) (F_t 12 0) (F_t 15 0) (F_t 16 0) (F_t 17 0) (F_t 23 0) (F_t 27 0) (F_t 28 0) (F_t 30 0), ia g (Q_t 18) 16 (F_t 18), ia g (Q_t 19) 30 (F_t 19), ia g (Q_t 20) 174 (F_t 20), ia g (Q_t 32) 8 (F_t 32), ia g (Q_t 33) 8 (F_t 33)] [(0, .ref q_t), (1, .int x1), (2, .int x2), (3, .int x3), (4, .int x4), (5, .int x5)] [] := by
  obtain ⟨⟨hx, hb, hml, hown, hts⟩, hr, hK, hA, hlk⟩ := id E
  intro H locs ls hP hD hS hl
  refine lv_iload hx hb dX10_cut_99 (lv_at hl 4 rfl) ?_
  exact t_X10_cut_b36_k101 E q_t Q_t N F_t x1 x2 x3 x5 x4 _ h hc he H locs ls hP hD hS (lv_sub hl [0, 1, 2, 3, 5] rfl)
def x_X10_cut_b36_k94 (N : Nat) (F_t : St) (x1 : Int32) (x2 : Int32) (x3 : Int32) (x5 : Int32) : Option ((Int32 × Int32 × (Nat → Int32) × (Nat → Int32)) ⊕ (Int32 × (Nat → Int32) × (Nat → Int32))) :=
  x_X10_cut_b36_k101 N F_t x1 x2 x3 x5 x5
set_option maxHeartbeats 4000000 in
set_option maxRecDepth 100000 in
theorem t_X10_cut_b36_k94 {p : Program} {l : Launch} {e : Env} {s : State} {m : MethodId} {args : Array Value} {below : List Frame} {meth : Method} {c : Code} {g : gG} {A : Nat → Prop} {Q : State → Prop} (E : En p s m args meth c g A cX10_cut 6 (.code yX10_cut cX10_cut 6 (some .int) :: gW) RX10 (some .int)) (q_t : Nat) (Q_t : Ad) (N : Nat) (F_t : St) (x1 : Int32) (x2 : Int32) (x3 : Int32) (x5 : Int32) (o : (Int32 × Int32 × (Nat → Int32) × (Nat → Int32)) ⊕ (Int32 × (Nat → Int32) × (Nat → Int32))) (h : x_X10_cut_b36_k94 N F_t x1 x2 x3 x5 = some o) (hc : ∀ z, o = .inl z → WA p l e (rM 2 53) s m args below meth c g A Q 6 36 [oX10 q_t Q_t (F_t 0 0) (F_t 2 0) (F_t 3 0) (F_t 4 0) (F_t 5 0) (F_t 6 0) (F_t 7 0) (F_t 8 0) (F_t 9 0) (F_t 10 0) (F_t 11 0) (F_t 12 0) (F_t 15 0) (F_t 16 0) (F_t 17 0) (F_t 23 0) (F_t 27 0) (F_t 28 0) (F_t 30 0), ia g (Q_t 18) 16 (F_t 18), ia g (Q_t 19) 30 (F_t 19), ia g (Q_t 20) 174 (F_t 20), ia g (Q_t 32) 8 z.2.2.1, ia g (Q_t 33) 8 z.2.2.2] [(0, .ref q_t), (1, .int x1), (2, .int x2), (3, .int x3), (4, .int z.1), (5, .int z.2.1)] []) (he : ∀ v, o = .inr v → WA p l e (rM 2 53) s m args below meth c g A Q 6 109 [oX10 q_t Q_t (F_t 0 0) (F_t 2 0) (F_t 3 0) (F_t 4 0) (F_t 5 0) (F_t 6 0) (F_t 7 0) (F_t 8 0) (F_t 9 0) (F_t 10 0) (F_t 11 0) (F_t 12 0) (F_t 15 0) (F_t 16 0) (F_t 17 0) (F_t 23 0) (F_t 27 0) (F_t 28 0) (F_t 30 0), ia g (Q_t 18) 16 (F_t 18), ia g (Q_t 19) 30 (F_t 19), ia g (Q_t 20) 174 (F_t 20), ia g (Q_t 32) 8 v.2.1, ia g (Q_t 33) 8 v.2.2] [(3, .int x3), (4, .int v.1)] []) : WA p l e (rM 2 53) s m args below meth c g A Q 6 94 [oX10 q_t Q_t (F_t 0 0) (F_t 2 0) (F_t 3 0) (F_t 4 0) (F_t 5 0) (F_t 6 0) (F_t 7 0) (F_t 8 0) (F_t 9 0) (F_t 10 0) (F_t 11 0) (F_t 12 0) (F_t 15 0) (F_t 16 0) (F_t 17 0) (F_t 23 0) (F_t 27 0) (F_t 28 0) (F_t 30 0), ia g (Q_t 18) 16 (F_t 18), ia g (Q_t 19) 30 (F_t 19), ia g (Q_t 20) 174 (F_t 20), ia g (Q_t 32) 8 (F_t 32), ia g (Q_t 33) 8 (F_t 33)] [(0, .ref q_t), (1, .int x1), (2, .int x2), (3, .int x3), (5, .int x5)] [] := by
  obtain ⟨⟨hx, hb, hml, hown, hts⟩, hr, hK, hA, hlk⟩ := id E
  intro H locs ls hP hD hS hl
  refine lv_iload hx hb dX10_cut_94 (lv_at hl 4 rfl) ?_
  refine lv_goto (tgt := 101) hx hb dX10_cut_96 (by decide) ?_
  exact t_X10_cut_b36_k101 E q_t Q_t N F_t x1 x2 x3 x5 x5 _ h hc he H locs ls hP hD hS hl
def x_X10_cut_b36 (N : Nat) (F_t : St) (x1 : Int32) (x2 : Int32) (x3 : Int32) (x4 : Int32) (x5 : Int32) : Option ((Int32 × Int32 × (Nat → Int32) × (Nat → Int32)) ⊕ (Int32 × (Nat → Int32) × (Nat → Int32))) :=
  if ((1 : Int32) <<< ((F_t 17 0) &&& 31)) ≤ x5 then (some (.inr (x4, (F_t 32), (F_t 33)))) else (Option.bind (x_X10_layComes N F_t x2 (((F_t 20) (172 : Int32).toNatClampNeg) ||| x5) (-1 : Int32) (-1 : Int32)) (fun v_8 => if x1 < 0 ∨ 8 ≤ x1.toNatClampNeg then none else if (v_8.2 x1.toNatClampNeg) = (99 : Int32) then (if x4 < 0 then (x_X10_cut_b36_k94 N (va_up (va_up F_t 32 v_8.1) 33 v_8.2) x1 x2 x3 x5) else (Option.bind (x_X10_bits N x5) (fun v_12 => Option.bind (x_X10_bits N x4) (fun v_13 => if v_13 ≤ v_12 then (x_X10_cut_b36_k99 N (va_up (va_up F_t 32 v_8.1) 33 v_8.2) x1 x2 x3 x4 x5) else (x_X10_cut_b36_k94 N (va_up (va_up F_t 32 v_8.1) 33 v_8.2) x1 x2 x3 x5))))) else (x_X10_cut_b36_k99 N (va_up (va_up F_t 32 v_8.1) 33 v_8.2) x1 x2 x3 x4 x5)))
set_option maxHeartbeats 4000000 in
set_option maxRecDepth 100000 in
theorem t_X10_cut_b36 {p : Program} {l : Launch} {e : Env} {s : State} {m : MethodId} {args : Array Value} {below : List Frame} {meth : Method} {c : Code} {g : gG} {A : Nat → Prop} {Q : State → Prop} (E : En p s m args meth c g A cX10_cut 6 (.code yX10_cut cX10_cut 6 (some .int) :: gW) RX10 (some .int)) (q_t : Nat) (Q_t : Ad) (N : Nat) (F_t : St) (x1 : Int32) (x2 : Int32) (x3 : Int32) (x4 : Int32) (x5 : Int32) (o : (Int32 × Int32 × (Nat → Int32) × (Nat → Int32)) ⊕ (Int32 × (Nat → Int32) × (Nat → Int32))) (h : x_X10_cut_b36 N F_t x1 x2 x3 x4 x5 = some o) (hc : ∀ z, o = .inl z → WA p l e (rM 2 53) s m args below meth c g A Q 6 36 [oX10 q_t Q_t (F_t 0 0) (F_t 2 0) (F_t 3 0) (F_t 4 0) (F_t 5 0) (F_t 6 0) (F_t 7 0) (F_t 8 0) (F_t 9 0) (F_t 10 0) (F_t 11 0) (F_t 12 0) (F_t 15 0) (F_t 16 0) (F_t 17 0) (F_t 23 0) (F_t 27 0) (F_t 28 0) (F_t 30 0), ia g (Q_t 18) 16 (F_t 18), ia g (Q_t 19) 30 (F_t 19), ia g (Q_t 20) 174 (F_t 20), ia g (Q_t 32) 8 z.2.2.1, ia g (Q_t 33) 8 z.2.2.2] [(0, .ref q_t), (1, .int x1), (2, .int x2), (3, .int x3), (4, .int z.1), (5, .int z.2.1)] []) (he : ∀ v, o = .inr v → WA p l e (rM 2 53) s m args below meth c g A Q 6 109 [oX10 q_t Q_t (F_t 0 0) (F_t 2 0) (F_t 3 0) (F_t 4 0) (F_t 5 0) (F_t 6 0) (F_t 7 0) (F_t 8 0) (F_t 9 0) (F_t 10 0) (F_t 11 0) (F_t 12 0) (F_t 15 0) (F_t 16 0) (F_t 17 0) (F_t 23 0) (F_t 27 0) (F_t 28 0) (F_t 30 0), ia g (Q_t 18) 16 (F_t 18), ia g (Q_t 19) 30 (F_t 19), ia g (Q_t 20) 174 (F_t 20), ia g (Q_t 32) 8 v.2.1, ia g (Q_t 33) 8 v.2.2] [(3, .int x3), (4, .int v.1)] []) : WA p l e (rM 2 53) s m args below meth c g A Q 6 36 [oX10 q_t Q_t (F_t 0 0) (F_t 2 0) (F_t 3 0) (F_t 4 0) (F_t 5 0) (F_t 6 0) (F_t 7 0) (F_t 8 0) (F_t 9 0) (F_t 10 0) (F_t 11 0) (F_t 12 0) (F_t 15 0) (F_t 16 0) (F_t 17 0) (F_t 23 0) (F_t 27 0) (F_t 28 0) (F_t 30 0), ia g (Q_t 18) 16 (F_t 18), ia g (Q_t 19) 30 (F_t 19), ia g (Q_t 20) 174 (F_t 20), ia g (Q_t 32) 8 (F_t 32), ia g (Q_t 33) 8 (F_t 33)] [(0, .ref q_t), (1, .int x1), (2, .int x2), (3, .int x3), (4, .int x4), (5, .int x5)] [] := by
  obtain ⟨⟨hx, hb, hml, hown, hts⟩, hr, hK, hA, hlk⟩ := id E
  intro H locs ls hP hD hS hl
  refine lv_iload hx hb dX10_cut_36 (lv_at hl 5 rfl) ?_
  refine lv_iconst (v := (1 : Int32)) hx hb dX10_cut_38 (by decide) ?_
  refine lv_aload_n hx hb dX10_cut_39 rfl (lv_at hl 0 rfl) ?_
  refine va_get (ci := 10) (v := .int (F_t 17 0)) (C := RX10) (T := TX10) (N := 38) hx hb hts (fun w h => .tail _ (u_inX10 w h)) hown hK.1 hP 0 rfl rfl 17 (by decide) (hts _ (.tail _ u_fl_X10_87)) (fun _ h9 => h9) rfl dX10_cut_40 ?_
  refine lv_ishl hx hb dX10_cut_43 ?_
  refine lv_icmp_ge (tgt := 109) hx hb dX10_cut_44 (by decide) (fun c_7 => ?_) (fun c_7 => ?_)
  · have h := ox_t c_7 h
    obtain rfl := Option.some.inj h
    exact he _ rfl H locs ls hP hD hS (lv_sub hl [3, 4] rfl)
  · have h := ox_f c_7 h
    refine lv_aload_n hx hb dX10_cut_47 rfl (lv_at hl 0 rfl) ?_
    refine lv_iload_n hx hb dX10_cut_48 rfl (lv_at hl 2 rfl) ?_
    refine lv_aload_n hx hb dX10_cut_49 rfl (lv_at hl 0 rfl) ?_
    refine va_get (ci := 10) (v := .ref (Q_t 20)) (C := RX10) (T := TX10) (N := 38) hx hb hts (fun w h => .tail _ (u_inX10 w h)) hown hK.1 hP 0 rfl rfl 20 (by decide) (hts _ (.tail _ u_fl_X10_29)) (fun _ h9 => h9) rfl dX10_cut_50 ?_
    refine lv_sipush (v := (172 : Int32)) hx hb dX10_cut_53 (by decide) ?_
    refine va_iald hx hb hK.1 hP 3 0 rfl rfl (by unfold vp_in; decide) dX10_cut_56 ?_
    refine lv_iload hx hb dX10_cut_57 (lv_at hl 5 rfl) ?_
    refine lv_ior hx hb dX10_cut_59 ?_
    refine lv_iconst (v := (-1 : Int32)) hx hb dX10_cut_60 (by decide) ?_
    refine lv_iconst (v := (-1 : Int32)) hx hb dX10_cut_61 (by decide) ?_
    obtain ⟨v_8, hv_8, h⟩ := ox_bind h
    refine kVv ⟨hx, hb, hml, hown, hts⟩ (c_X10_layComes l g q_t Q_t N F_t x2 (((F_t 20) (172 : Int32).toNatClampNeg) ||| x5) (-1 : Int32) (-1 : Int32) v_8 hv_8 H.size) (gV u_ml_X10_229 u_im_X10_layComes u_se_X10_layComes u_ini_X10 u_co_X10_layComes) hd_X10_layComes ⟨rfl, rfl⟩ hK hP hD hS hA 0 10 rfl rfl [0, 1, 2, 3, 4, 5] [0, 1, 2, 3, 4, 5] rfl rfl 6 rfl (w2 := [oX10 q_t Q_t (F_t 0 0) (F_t 2 0) (F_t 3 0) (F_t 4 0) (F_t 5 0) (F_t 6 0) (F_t 7 0) (F_t 8 0) (F_t 9 0) (F_t 10 0) (F_t 11 0) (F_t 12 0) (F_t 15 0) (F_t 16 0) (F_t 17 0) (F_t 23 0) (F_t 27 0) (F_t 28 0) (F_t 30 0), ia g (Q_t 18) 16 (F_t 18), ia g (Q_t 19) 30 (F_t 19), ia g (Q_t 20) 174 (F_t 20), ia g (Q_t 32) 8 v_8.1, ia g (Q_t 33) 8 v_8.2]) rfl rfl (As := [.int x2, .int (((F_t 20) (172 : Int32).toNatClampNeg) ||| x5), .int (-1 : Int32), .int (-1 : Int32)]) (rest := []) rfl hl.1 rfl rfl dX10_cut_62 (fun H locs hP hD hS => ?_)
    refine lv_aload_n hx hb dX10_cut_65 rfl (lv_at hl 0 rfl) ?_
    refine va_get (ci := 10) (v := .ref (Q_t 33)) (C := RX10) (T := TX10) (N := 38) hx hb hts (fun w h => .tail _ (u_inX10 w h)) hown hK.1 hP 0 rfl rfl 33 (by decide) (hts _ (.tail _ u_fl_X10_57)) (fun _ h9 => h9) rfl dX10_cut_66 ?_
    refine lv_iload_n hx hb dX10_cut_69 rfl (lv_at hl 1 rfl) ?_
    obtain ⟨hi_9, h⟩ := ox_chk h
    refine va_iald hx hb hK.1 hP 5 0 rfl rfl hi_9 dX10_cut_70 ?_
    refine lv_bipush (v := (99 : Int32)) hx hb dX10_cut_71 (by decide) ?_
    refine lv_icmp_ne (tgt := 99) hx hb dX10_cut_73 (by decide) (fun c_10 => ?_) (fun c_10 => ?_)
    · have h := ox_f c_10 h
      exact t_X10_cut_b36_k99 E q_t Q_t N (va_up (va_up F_t 32 v_8.1) 33 v_8.2) x1 x2 x3 x4 x5 _ h hc he H locs ls hP hD hS hl
    · have h := ox_t c_10 h
      refine lv_iload hx hb dX10_cut_76 (lv_at hl 4 rfl) ?_
      refine lv_if_lt (tgt := 94) hx hb dX10_cut_78 (by decide) (fun c_11 => ?_) (fun c_11 => ?_)
      · have h := ox_t c_11 h
        exact t_X10_cut_b36_k94 E q_t Q_t N (va_up (va_up F_t 32 v_8.1) 33 v_8.2) x1 x2 x3 x5 _ h hc he H locs ls hP hD hS (lv_sub hl [0, 1, 2, 3, 5] rfl)
      · have h := ox_f c_11 h
        refine lv_iload hx hb dX10_cut_81 (lv_at hl 5 rfl) ?_
        obtain ⟨v_12, hv_12, h⟩ := ox_bind h
        refine kSi ⟨hx, hb, hml, hown, hts⟩ (c_X10_bits l g N x5 v_12 hv_12 H.size) (gS u_ml_X10_168 u_st_X10_bits u_ini_X10 u_co_X10_bits) hd_X10_bits ⟨rfl, rfl⟩ hK hP hD hS hA [] [0, 1, 2, 3, 4, 5] rfl rfl 0 rfl (w2 := [oX10 q_t Q_t (F_t 0 0) (F_t 2 0) (F_t 3 0) (F_t 4 0) (F_t 5 0) (F_t 6 0) (F_t 7 0) (F_t 8 0) (F_t 9 0) (F_t 10 0) (F_t 11 0) (F_t 12 0) (F_t 15 0) (F_t 16 0) (F_t 17 0) (F_t 23 0) (F_t 27 0) (F_t 28 0) (F_t 30 0), ia g (Q_t 18) 16 (F_t 18), ia g (Q_t 19) 30 (F_t 19), ia g (Q_t 20) 174 (F_t 20), ia g (Q_t 32) 8 v_8.1, ia g (Q_t 33) 8 v_8.2]) rfl rfl (As := [.int x5]) (rest := []) rfl hl.1 rfl rfl dX10_cut_83 (fun H locs hP hD hS => ?_)
        refine lv_iload hx hb dX10_cut_86 (lv_at hl 4 rfl) ?_
        obtain ⟨v_13, hv_13, h⟩ := ox_bind h
        refine kSi ⟨hx, hb, hml, hown, hts⟩ (c_X10_bits l g N x4 v_13 hv_13 H.size) (gS u_ml_X10_168 u_st_X10_bits u_ini_X10 u_co_X10_bits) hd_X10_bits ⟨rfl, rfl⟩ hK hP hD hS hA [] [0, 1, 2, 3, 4, 5] rfl rfl 0 rfl (w2 := [oX10 q_t Q_t (F_t 0 0) (F_t 2 0) (F_t 3 0) (F_t 4 0) (F_t 5 0) (F_t 6 0) (F_t 7 0) (F_t 8 0) (F_t 9 0) (F_t 10 0) (F_t 11 0) (F_t 12 0) (F_t 15 0) (F_t 16 0) (F_t 17 0) (F_t 23 0) (F_t 27 0) (F_t 28 0) (F_t 30 0), ia g (Q_t 18) 16 (F_t 18), ia g (Q_t 19) 30 (F_t 19), ia g (Q_t 20) 174 (F_t 20), ia g (Q_t 32) 8 v_8.1, ia g (Q_t 33) 8 v_8.2]) rfl rfl (As := [.int x4]) (rest := [.int v_12]) rfl hl.1 rfl rfl dX10_cut_88 (fun H locs hP hD hS => ?_)
        refine lv_icmp_ge (tgt := 99) hx hb dX10_cut_91 (by decide) (fun c_14 => ?_) (fun c_14 => ?_)
        · have h := ox_t c_14 h
          exact t_X10_cut_b36_k99 E q_t Q_t N (va_up (va_up F_t 32 v_8.1) 33 v_8.2) x1 x2 x3 x4 x5 _ h hc he H locs ls hP hD hS hl
        · have h := ox_f c_14 h
          exact t_X10_cut_b36_k94 E q_t Q_t N (va_up (va_up F_t 32 v_8.1) 33 v_8.2) x1 x2 x3 x5 _ h hc he H locs ls hP hD hS (lv_sub hl [0, 1, 2, 3, 5] rfl)
def x_X10_cut (N : Nat) (F_t : St) (x1 : Int32) (x2 : Int32) (x3 : Int32) : Option (Int32 × (Nat → Int32) × (Nat → Int32)) :=
  Option.bind (x_X10_isPlace F_t x1) (fun v_1 => if v_1 = 0 then (some ((-1000000001 : Int32), (F_t 32), (F_t 33))) else (Option.bind (x_X10_isSaying x2) (fun v_3 => if v_3 = 0 then (some ((-1000000001 : Int32), (F_t 32), (F_t 33))) else (Option.bind (x_X10_in x3 (0 : Int32) (1 : Int32)) (fun v_5 => if v_5 = 0 then (some ((-1000000002 : Int32), (F_t 32), (F_t 33))) else (Option.bind (lpc (fun (z : Int32 × Int32 × (Nat → Int32) × (Nat → Int32)) => x_X10_cut_b36 N (va_up (va_up F_t 32 z.2.2.1) 33 z.2.2.2) x1 x2 x3 z.1 z.2.1) N ((-1 : Int32), (0 : Int32), (F_t 32), (F_t 33))) (fun v_15 => if 0 ≤ v_15.1 then (if x3 = 0 then (Option.bind (x_X10_bits N v_15.1) (fun v_18 => some (v_18, v_15.2.1, v_15.2.2))) else (some (v_15.1, v_15.2.1, v_15.2.2))) else (some ((-1 : Int32), v_15.2.1, v_15.2.2)))))))))
set_option maxHeartbeats 4000000 in
set_option maxRecDepth 100000 in
theorem t_X10_cut {p : Program} {l : Launch} {e : Env} {s : State} {m : MethodId} {args : Array Value} {below : List Frame} {meth : Method} {c : Code} {g : gG} {A : Nat → Prop} (E : En p s m args meth c g A cX10_cut 6 (.code yX10_cut cX10_cut 6 (some .int) :: gW) RX10 (some .int)) (q_t : Nat) (Q_t : Ad) (N : Nat) (F_t : St) (x1 : Int32) (x2 : Int32) (x3 : Int32) (o : Int32 × (Nat → Int32) × (Nat → Int32)) (h : x_X10_cut N F_t x1 x2 x3 = some o) : WA p l e (rM 2 53) s m args below meth c g A (MQ below (QI g A o.1 [oX10 q_t Q_t (F_t 0 0) (F_t 2 0) (F_t 3 0) (F_t 4 0) (F_t 5 0) (F_t 6 0) (F_t 7 0) (F_t 8 0) (F_t 9 0) (F_t 10 0) (F_t 11 0) (F_t 12 0) (F_t 15 0) (F_t 16 0) (F_t 17 0) (F_t 23 0) (F_t 27 0) (F_t 28 0) (F_t 30 0), ia g (Q_t 18) 16 (F_t 18), ia g (Q_t 19) 30 (F_t 19), ia g (Q_t 20) 174 (F_t 20), ia g (Q_t 32) 8 o.2.1, ia g (Q_t 33) 8 o.2.2]) args s 0 0 A) 6 0 [oX10 q_t Q_t (F_t 0 0) (F_t 2 0) (F_t 3 0) (F_t 4 0) (F_t 5 0) (F_t 6 0) (F_t 7 0) (F_t 8 0) (F_t 9 0) (F_t 10 0) (F_t 11 0) (F_t 12 0) (F_t 15 0) (F_t 16 0) (F_t 17 0) (F_t 23 0) (F_t 27 0) (F_t 28 0) (F_t 30 0), ia g (Q_t 18) 16 (F_t 18), ia g (Q_t 19) 30 (F_t 19), ia g (Q_t 20) 174 (F_t 20), ia g (Q_t 32) 8 (F_t 32), ia g (Q_t 33) 8 (F_t 33)] [(0, .ref q_t), (1, .int x1), (2, .int x2), (3, .int x3)] [] := by
  obtain ⟨⟨hx, hb, hml, hown, hts⟩, hr, hK, hA, hlk⟩ := id E
  intro H locs ls hP hD hS hl
  refine lv_aload_n hx hb dX10_cut_0 rfl (lv_at hl 0 rfl) ?_
  refine lv_iload_n hx hb dX10_cut_1 rfl (lv_at hl 1 rfl) ?_
  obtain ⟨v_1, hv_1, h⟩ := ox_bind h
  refine kVi ⟨hx, hb, hml, hown, hts⟩ (c_X10_isPlace l g q_t Q_t F_t x1 v_1 hv_1 H.size) (gV u_ml_X10_180 u_im_X10_isPlace u_se_X10_isPlace u_ini_X10 u_co_X10_isPlace) hd_X10_isPlace ⟨rfl, rfl⟩ hK hP hD hS hA 0 10 rfl rfl [0] [0, 2, 3, 4, 5, 6] rfl rfl 1 rfl (w2 := [oX10 q_t Q_t (F_t 0 0) (F_t 2 0) (F_t 3 0) (F_t 4 0) (F_t 5 0) (F_t 6 0) (F_t 7 0) (F_t 8 0) (F_t 9 0) (F_t 10 0) (F_t 11 0) (F_t 12 0) (F_t 15 0) (F_t 16 0) (F_t 17 0) (F_t 23 0) (F_t 27 0) (F_t 28 0) (F_t 30 0), ia g (Q_t 18) 16 (F_t 18), ia g (Q_t 19) 30 (F_t 19), ia g (Q_t 20) 174 (F_t 20), ia g (Q_t 32) 8 (F_t 32), ia g (Q_t 33) 8 (F_t 33)]) rfl rfl (As := [.int x1]) (rest := []) rfl hl.1 rfl rfl dX10_cut_2 (fun H locs hP hD hS => ?_)
  refine lv_if_eq (tgt := 15) hx hb dX10_cut_5 (by decide) (fun c_2 => ?_) (fun c_2 => ?_)
  · have h := ox_t c_2 h
    refine lv_ldc (v := (-1000000001 : Int32)) hx hb hown (hts _ (.tail _ u_k_X10_183)) dX10_cut_15 ?_
    obtain rfl := Option.some.inj h
    exact k_iret hx hb hr hlk hP hD hS dX10_cut_17
  · have h := ox_f c_2 h
    refine lv_iload_n hx hb dX10_cut_8 rfl (lv_at hl 2 rfl) ?_
    obtain ⟨v_3, hv_3, h⟩ := ox_bind h
    refine kSi ⟨hx, hb, hml, hown, hts⟩ (c_X10_isSaying l g x2 v_3 hv_3 H.size) (gS u_ml_X10_187 u_st_X10_isSaying u_ini_X10 u_co_X10_isSaying) hd_X10_isSaying ⟨rfl, rfl⟩ hK hP hD hS hA [] [0, 1, 2, 3, 4, 5] rfl rfl 0 rfl (w2 := [oX10 q_t Q_t (F_t 0 0) (F_t 2 0) (F_t 3 0) (F_t 4 0) (F_t 5 0) (F_t 6 0) (F_t 7 0) (F_t 8 0) (F_t 9 0) (F_t 10 0) (F_t 11 0) (F_t 12 0) (F_t 15 0) (F_t 16 0) (F_t 17 0) (F_t 23 0) (F_t 27 0) (F_t 28 0) (F_t 30 0), ia g (Q_t 18) 16 (F_t 18), ia g (Q_t 19) 30 (F_t 19), ia g (Q_t 20) 174 (F_t 20), ia g (Q_t 32) 8 (F_t 32), ia g (Q_t 33) 8 (F_t 33)]) rfl rfl (As := [.int x2]) (rest := []) rfl hl.1 rfl rfl dX10_cut_9 (fun H locs hP hD hS => ?_)
    refine lv_if_ne (tgt := 18) hx hb dX10_cut_12 (by decide) (fun c_4 => ?_) (fun c_4 => ?_)
    · have h := ox_f c_4 h
      refine lv_iload_n hx hb dX10_cut_18 rfl (lv_at hl 3 rfl) ?_
      refine lv_iconst (v := (0 : Int32)) hx hb dX10_cut_19 (by decide) ?_
      refine lv_iconst (v := (1 : Int32)) hx hb dX10_cut_20 (by decide) ?_
      obtain ⟨v_5, hv_5, h⟩ := ox_bind h
      refine kSi ⟨hx, hb, hml, hown, hts⟩ (c_X10_in l g x3 (0 : Int32) (1 : Int32) v_5 hv_5 H.size) (gS u_ml_X10_83 u_st_X10_in u_ini_X10 u_co_X10_in) hd_X10_in ⟨rfl, rfl⟩ hK hP hD hS hA [] [0, 1, 2, 3, 4, 5] rfl rfl 0 rfl (w2 := [oX10 q_t Q_t (F_t 0 0) (F_t 2 0) (F_t 3 0) (F_t 4 0) (F_t 5 0) (F_t 6 0) (F_t 7 0) (F_t 8 0) (F_t 9 0) (F_t 10 0) (F_t 11 0) (F_t 12 0) (F_t 15 0) (F_t 16 0) (F_t 17 0) (F_t 23 0) (F_t 27 0) (F_t 28 0) (F_t 30 0), ia g (Q_t 18) 16 (F_t 18), ia g (Q_t 19) 30 (F_t 19), ia g (Q_t 20) 174 (F_t 20), ia g (Q_t 32) 8 (F_t 32), ia g (Q_t 33) 8 (F_t 33)]) rfl rfl (As := [.int x3, .int (0 : Int32), .int (1 : Int32)]) (rest := []) rfl hl.1 rfl rfl dX10_cut_21 (fun H locs hP hD hS => ?_)
      refine lv_if_ne (tgt := 30) hx hb dX10_cut_24 (by decide) (fun c_6 => ?_) (fun c_6 => ?_)
      · have h := ox_f c_6 h
        refine lv_iconst (v := (-1 : Int32)) hx hb dX10_cut_30 (by decide) ?_
        refine lv_istore (lv' := [(4, .int (-1 : Int32)), (0, .ref q_t), (1, .int x1), (2, .int x2), (3, .int x3)]) hx hb dX10_cut_31 hl (by decide) rfl (fun ls hl => ?_)
        refine lv_iconst (v := (0 : Int32)) hx hb dX10_cut_33 (by decide) ?_
        refine lv_istore (lv' := [(5, .int (0 : Int32)), (4, .int (-1 : Int32)), (0, .ref q_t), (1, .int x1), (2, .int x2), (3, .int x3)]) hx hb dX10_cut_34 hl (by decide) rfl (fun ls hl => ?_)
        obtain ⟨v_15, hv_15, h⟩ := ox_bind h
        refine lpc_W (Wh := fun (z : Int32 × Int32 × (Nat → Int32) × (Nat → Int32)) => WA p l e (rM 2 53) s m args below meth c g A (MQ below (QI g A o.1 [oX10 q_t Q_t (F_t 0 0) (F_t 2 0) (F_t 3 0) (F_t 4 0) (F_t 5 0) (F_t 6 0) (F_t 7 0) (F_t 8 0) (F_t 9 0) (F_t 10 0) (F_t 11 0) (F_t 12 0) (F_t 15 0) (F_t 16 0) (F_t 17 0) (F_t 23 0) (F_t 27 0) (F_t 28 0) (F_t 30 0), ia g (Q_t 18) 16 (F_t 18), ia g (Q_t 19) 30 (F_t 19), ia g (Q_t 20) 174 (F_t 20), ia g (Q_t 32) 8 o.2.1, ia g (Q_t 33) 8 o.2.2]) args s 0 0 A) 6 36 [oX10 q_t Q_t (F_t 0 0) (F_t 2 0) (F_t 3 0) (F_t 4 0) (F_t 5 0) (F_t 6 0) (F_t 7 0) (F_t 8 0) (F_t 9 0) (F_t 10 0) (F_t 11 0) (F_t 12 0) (F_t 15 0) (F_t 16 0) (F_t 17 0) (F_t 23 0) (F_t 27 0) (F_t 28 0) (F_t 30 0), ia g (Q_t 18) 16 (F_t 18), ia g (Q_t 19) 30 (F_t 19), ia g (Q_t 20) 174 (F_t 20), ia g (Q_t 32) 8 z.2.2.1, ia g (Q_t 33) 8 z.2.2.2] [(0, .ref q_t), (1, .int x1), (2, .int x2), (3, .int x3), (4, .int z.1), (5, .int z.2.1)] []) (We := fun (v : Int32 × (Nat → Int32) × (Nat → Int32)) => WA p l e (rM 2 53) s m args below meth c g A (MQ below (QI g A o.1 [oX10 q_t Q_t (F_t 0 0) (F_t 2 0) (F_t 3 0) (F_t 4 0) (F_t 5 0) (F_t 6 0) (F_t 7 0) (F_t 8 0) (F_t 9 0) (F_t 10 0) (F_t 11 0) (F_t 12 0) (F_t 15 0) (F_t 16 0) (F_t 17 0) (F_t 23 0) (F_t 27 0) (F_t 28 0) (F_t 30 0), ia g (Q_t 18) 16 (F_t 18), ia g (Q_t 19) 30 (F_t 19), ia g (Q_t 20) 174 (F_t 20), ia g (Q_t 32) 8 o.2.1, ia g (Q_t 33) 8 o.2.2]) args s 0 0 A) 6 109 [oX10 q_t Q_t (F_t 0 0) (F_t 2 0) (F_t 3 0) (F_t 4 0) (F_t 5 0) (F_t 6 0) (F_t 7 0) (F_t 8 0) (F_t 9 0) (F_t 10 0) (F_t 11 0) (F_t 12 0) (F_t 15 0) (F_t 16 0) (F_t 17 0) (F_t 23 0) (F_t 27 0) (F_t 28 0) (F_t 30 0), ia g (Q_t 18) 16 (F_t 18), ia g (Q_t 19) 30 (F_t 19), ia g (Q_t 20) 174 (F_t 20), ia g (Q_t 32) 8 v.2.1, ia g (Q_t 33) 8 v.2.2] [(3, .int x3), (4, .int v.1)] []) (fun z r hb hc he => t_X10_cut_b36 E q_t Q_t N (va_up (va_up F_t 32 z.2.2.1) 33 z.2.2.2) x1 x2 x3 z.1 z.2.1 r hb hc he) N ((-1 : Int32), (0 : Int32), (F_t 32), (F_t 33)) v_15 hv_15 ?_ H locs ls hP hD hS (lv_sub hl [2, 3, 4, 5, 1, 0] rfl)
        intro H locs ls hP hD hS hl
        refine lv_iload hx hb dX10_cut_109 (lv_at hl 1 rfl) ?_
        refine lv_if_ge (tgt := 118) hx hb dX10_cut_111 (by decide) (fun c_16 => ?_) (fun c_16 => ?_)
        · have h := ox_t c_16 h
          refine lv_iload_n hx hb dX10_cut_118 rfl (lv_at hl 0 rfl) ?_
          refine lv_if_ne (tgt := 130) hx hb dX10_cut_119 (by decide) (fun c_17 => ?_) (fun c_17 => ?_)
          · have h := ox_f c_17 h
            refine lv_iload hx hb dX10_cut_130 (lv_at hl 1 rfl) ?_
            obtain rfl := Option.some.inj h
            exact k_iret hx hb hr hlk hP hD hS dX10_cut_132
          · have h := ox_t c_17 h
            refine lv_iload hx hb dX10_cut_122 (lv_at hl 1 rfl) ?_
            obtain ⟨v_18, hv_18, h⟩ := ox_bind h
            refine kSi ⟨hx, hb, hml, hown, hts⟩ (c_X10_bits l g N v_15.1 v_18 hv_18 H.size) (gS u_ml_X10_168 u_st_X10_bits u_ini_X10 u_co_X10_bits) hd_X10_bits ⟨rfl, rfl⟩ hK hP hD hS hA [] [0, 1, 2, 3, 4, 5] rfl rfl 0 rfl (w2 := [oX10 q_t Q_t (F_t 0 0) (F_t 2 0) (F_t 3 0) (F_t 4 0) (F_t 5 0) (F_t 6 0) (F_t 7 0) (F_t 8 0) (F_t 9 0) (F_t 10 0) (F_t 11 0) (F_t 12 0) (F_t 15 0) (F_t 16 0) (F_t 17 0) (F_t 23 0) (F_t 27 0) (F_t 28 0) (F_t 30 0), ia g (Q_t 18) 16 (F_t 18), ia g (Q_t 19) 30 (F_t 19), ia g (Q_t 20) 174 (F_t 20), ia g (Q_t 32) 8 v_15.2.1, ia g (Q_t 33) 8 v_15.2.2]) rfl rfl (As := [.int v_15.1]) (rest := []) rfl hl.1 rfl rfl dX10_cut_124 (fun H locs hP hD hS => ?_)
            refine lv_goto (tgt := 132) hx hb dX10_cut_127 (by decide) ?_
            obtain rfl := Option.some.inj h
            exact k_iret hx hb hr hlk hP hD hS dX10_cut_132
        · have h := ox_f c_16 h
          refine lv_iconst (v := (-1 : Int32)) hx hb dX10_cut_114 (by decide) ?_
          refine lv_goto (tgt := 132) hx hb dX10_cut_115 (by decide) ?_
          obtain rfl := Option.some.inj h
          exact k_iret hx hb hr hlk hP hD hS dX10_cut_132
      · have h := ox_t c_6 h
        refine lv_ldc (v := (-1000000002 : Int32)) hx hb hown (hts _ (.tail _ u_k_X10_90)) dX10_cut_27 ?_
        obtain rfl := Option.some.inj h
        exact k_iret hx hb hr hlk hP hD hS dX10_cut_29
    · have h := ox_t c_4 h
      refine lv_ldc (v := (-1000000001 : Int32)) hx hb hown (hts _ (.tail _ u_k_X10_183)) dX10_cut_15 ?_
      obtain rfl := Option.some.inj h
      exact k_iret hx hb hr hlk hP hD hS dX10_cut_17
set_option maxRecDepth 100000 in
theorem c_X10_cut (l : Launch) (g : gG) (q_t : Nat) (Q_t : Ad) (N : Nat) (F_t : St) (x1 : Int32) (x2 : Int32) (x3 : Int32) (o : Int32 × (Nat → Int32) × (Nat → Int32)) (h : x_X10_cut N F_t x1 x2 x3 = some o) (sz : Nat) : MetI l yX10_cut (.code yX10_cut cX10_cut 6 (some .int) :: gW) 2 53 [.ref q_t, .int x1, .int x2, .int x3] o.1 g [oX10 q_t Q_t (F_t 0 0) (F_t 2 0) (F_t 3 0) (F_t 4 0) (F_t 5 0) (F_t 6 0) (F_t 7 0) (F_t 8 0) (F_t 9 0) (F_t 10 0) (F_t 11 0) (F_t 12 0) (F_t 15 0) (F_t 16 0) (F_t 17 0) (F_t 23 0) (F_t 27 0) (F_t 28 0) (F_t 30 0), ia g (Q_t 18) 16 (F_t 18), ia g (Q_t 19) 30 (F_t 19), ia g (Q_t 20) 174 (F_t 20), ia g (Q_t 32) 8 (F_t 32), ia g (Q_t 33) 8 (F_t 33)] [oX10 q_t Q_t (F_t 0 0) (F_t 2 0) (F_t 3 0) (F_t 4 0) (F_t 5 0) (F_t 6 0) (F_t 7 0) (F_t 8 0) (F_t 9 0) (F_t 10 0) (F_t 11 0) (F_t 12 0) (F_t 15 0) (F_t 16 0) (F_t 17 0) (F_t 23 0) (F_t 27 0) (F_t 28 0) (F_t 30 0), ia g (Q_t 18) 16 (F_t 18), ia g (Q_t 19) 30 (F_t 19), ia g (Q_t 20) 174 (F_t 20), ia g (Q_t 32) 8 o.2.1, ia g (Q_t 33) 8 o.2.2] sz :=
  mkI (av := [.ref q_t, .int x1, .int x2, .int x3]) (by decide +kernel) rfl (fun p e s m below meth c A E H locs ls hP hD hS hl => t_X10_cut E q_t Q_t N F_t x1 x2 x3 o h H locs ls hP hD hS hl) sz
def x_X10_layHours_b2_k21 (N : Nat) (F_t : St) (f_a2 : (Nat → Int64)) (x1 : Int32) (x3 : Int32) (s1 : Int32) (s2 : Int64) : Option ((Int32 × (Nat → Int64)) ⊕ ((Nat → Int64))) :=
  if s1 < 0 ∨ 8 ≤ s1.toNatClampNeg then none else some (.inl ((x3 + (1 : Int32)), (vp_updL f_a2 s1.toNatClampNeg s2)))
set_option maxHeartbeats 4000000 in
set_option maxRecDepth 100000 in
theorem t_X10_layHours_b2_k21 {p : Program} {l : Launch} {e : Env} {s : State} {m : MethodId} {args : Array Value} {below : List Frame} {meth : Method} {c : Code} {g : gG} {A : Nat → Prop} {Q : State → Prop} (E : En p s m args meth c g A cX10_layHours 9 (.code yX10_layHours cX10_layHours 9 none :: gW) RX10 none) (q_t : Nat) (Q_t : Ad) (q_a2 : Nat) (N : Nat) (F_t : St) (f_a2 : (Nat → Int64)) (x1 : Int32) (x3 : Int32) (s1 : Int32) (s2 : Int64) (o : (Int32 × (Nat → Int64)) ⊕ ((Nat → Int64))) (h : x_X10_layHours_b2_k21 N F_t f_a2 x1 x3 s1 s2 = some o) (hc : ∀ z, o = .inl z → WA p l e (rM 1 23) s m args below meth c g A Q 9 2 [oX10 q_t Q_t (F_t 0 0) (F_t 2 0) (F_t 3 0) (F_t 4 0) (F_t 5 0) (F_t 6 0) (F_t 7 0) (F_t 8 0) (F_t 9 0) (F_t 10 0) (F_t 11 0) (F_t 12 0) (F_t 15 0) (F_t 16 0) (F_t 17 0) (F_t 23 0) (F_t 27 0) (F_t 28 0) (F_t 30 0), ia g (Q_t 18) 16 (F_t 18), ia g (Q_t 19) 30 (F_t 19), ia g (Q_t 20) 174 (F_t 20), la g q_a2 8 z.2] [(0, .ref q_t), (1, .int x1), (2, .ref q_a2), (3, .int z.1)] []) (he : ∀ v, o = .inr v → WA p l e (rM 1 23) s m args below meth c g A Q 9 28 [oX10 q_t Q_t (F_t 0 0) (F_t 2 0) (F_t 3 0) (F_t 4 0) (F_t 5 0) (F_t 6 0) (F_t 7 0) (F_t 8 0) (F_t 9 0) (F_t 10 0) (F_t 11 0) (F_t 12 0) (F_t 15 0) (F_t 16 0) (F_t 17 0) (F_t 23 0) (F_t 27 0) (F_t 28 0) (F_t 30 0), ia g (Q_t 18) 16 (F_t 18), ia g (Q_t 19) 30 (F_t 19), ia g (Q_t 20) 174 (F_t 20), la g q_a2 8 v] [(0, .ref q_t), (1, .int x1), (2, .ref q_a2)] []) : WA p l e (rM 1 23) s m args below meth c g A Q 9 21 [oX10 q_t Q_t (F_t 0 0) (F_t 2 0) (F_t 3 0) (F_t 4 0) (F_t 5 0) (F_t 6 0) (F_t 7 0) (F_t 8 0) (F_t 9 0) (F_t 10 0) (F_t 11 0) (F_t 12 0) (F_t 15 0) (F_t 16 0) (F_t 17 0) (F_t 23 0) (F_t 27 0) (F_t 28 0) (F_t 30 0), ia g (Q_t 18) 16 (F_t 18), ia g (Q_t 19) 30 (F_t 19), ia g (Q_t 20) 174 (F_t 20), la g q_a2 8 f_a2] [(0, .ref q_t), (1, .int x1), (2, .ref q_a2), (3, .int x3)] [.long s2, .int s1, .ref q_a2] := by
  obtain ⟨⟨hx, hb, hml, hown, hts⟩, hr, hK, hA, hlk⟩ := id E
  intro H locs ls hP hD hS hl
  obtain ⟨hi_1, h⟩ := ox_chk h
  refine va_last hx hb hK.1 hP hD hS 4 1 rfl rfl hi_1 dX10_layHours_21 (fun H locs hP hD hS => ?_)
  have hP : va_P g.1 vwCl [oX10 q_t Q_t (F_t 0 0) (F_t 2 0) (F_t 3 0) (F_t 4 0) (F_t 5 0) (F_t 6 0) (F_t 7 0) (F_t 8 0) (F_t 9 0) (F_t 10 0) (F_t 11 0) (F_t 12 0) (F_t 15 0) (F_t 16 0) (F_t 17 0) (F_t 23 0) (F_t 27 0) (F_t 28 0) (F_t 30 0), ia g (Q_t 18) 16 (F_t 18), ia g (Q_t 19) 30 (F_t 19), ia g (Q_t 20) 174 (F_t 20), la g q_a2 8 (vp_updL f_a2 s1.toNatClampNeg s2)] H := hP
  have hD : va_D A [oX10 q_t Q_t (F_t 0 0) (F_t 2 0) (F_t 3 0) (F_t 4 0) (F_t 5 0) (F_t 6 0) (F_t 7 0) (F_t 8 0) (F_t 9 0) (F_t 10 0) (F_t 11 0) (F_t 12 0) (F_t 15 0) (F_t 16 0) (F_t 17 0) (F_t 23 0) (F_t 27 0) (F_t 28 0) (F_t 30 0), ia g (Q_t 18) 16 (F_t 18), ia g (Q_t 19) 30 (F_t 19), ia g (Q_t 20) 174 (F_t 20), la g q_a2 8 (vp_updL f_a2 s1.toNatClampNeg s2)] := hD
  refine lv_iinc (v := (x3 + (1 : Int32))) (lv' := [(3, .int (x3 + (1 : Int32))), (0, .ref q_t), (1, .int x1), (2, .ref q_a2)]) hx hb dX10_layHours_22 hl (k := 3) rfl rfl (by decide) rfl (fun ls hl => ?_)
  refine lv_goto (tgt := 2) hx hb dX10_layHours_25 (by decide) ?_
  obtain rfl := Option.some.inj h
  exact hc _ rfl H locs ls hP hD hS (lv_sub hl [1, 2, 3, 0] rfl)
def x_X10_layHours_b2 (N : Nat) (F_t : St) (f_a2 : (Nat → Int64)) (x1 : Int32) (x3 : Int32) : Option ((Int32 × (Nat → Int64)) ⊕ ((Nat → Int64))) :=
  if (F_t 16 0) ≤ x3 then (some (.inr f_a2)) else (if x3 = 0 then (x_X10_layHours_b2_k21 N F_t f_a2 x1 x3 x3 (1 : Int64)) else (x_X10_layHours_b2_k21 N F_t f_a2 x1 x3 x3 (0 : Int64)))
set_option maxHeartbeats 4000000 in
set_option maxRecDepth 100000 in
theorem t_X10_layHours_b2 {p : Program} {l : Launch} {e : Env} {s : State} {m : MethodId} {args : Array Value} {below : List Frame} {meth : Method} {c : Code} {g : gG} {A : Nat → Prop} {Q : State → Prop} (E : En p s m args meth c g A cX10_layHours 9 (.code yX10_layHours cX10_layHours 9 none :: gW) RX10 none) (q_t : Nat) (Q_t : Ad) (q_a2 : Nat) (N : Nat) (F_t : St) (f_a2 : (Nat → Int64)) (x1 : Int32) (x3 : Int32) (o : (Int32 × (Nat → Int64)) ⊕ ((Nat → Int64))) (h : x_X10_layHours_b2 N F_t f_a2 x1 x3 = some o) (hc : ∀ z, o = .inl z → WA p l e (rM 1 23) s m args below meth c g A Q 9 2 [oX10 q_t Q_t (F_t 0 0) (F_t 2 0) (F_t 3 0) (F_t 4 0) (F_t 5 0) (F_t 6 0) (F_t 7 0) (F_t 8 0) (F_t 9 0) (F_t 10 0) (F_t 11 0) (F_t 12 0) (F_t 15 0) (F_t 16 0) (F_t 17 0) (F_t 23 0) (F_t 27 0) (F_t 28 0) (F_t 30 0), ia g (Q_t 18) 16 (F_t 18), ia g (Q_t 19) 30 (F_t 19), ia g (Q_t 20) 174 (F_t 20), la g q_a2 8 z.2] [(0, .ref q_t), (1, .int x1), (2, .ref q_a2), (3, .int z.1)] []) (he : ∀ v, o = .inr v → WA p l e (rM 1 23) s m args below meth c g A Q 9 28 [oX10 q_t Q_t (F_t 0 0) (F_t 2 0) (F_t 3 0) (F_t 4 0) (F_t 5 0) (F_t 6 0) (F_t 7 0) (F_t 8 0) (F_t 9 0) (F_t 10 0) (F_t 11 0) (F_t 12 0) (F_t 15 0) (F_t 16 0) (F_t 17 0) (F_t 23 0) (F_t 27 0) (F_t 28 0) (F_t 30 0), ia g (Q_t 18) 16 (F_t 18), ia g (Q_t 19) 30 (F_t 19), ia g (Q_t 20) 174 (F_t 20), la g q_a2 8 v] [(0, .ref q_t), (1, .int x1), (2, .ref q_a2)] []) : WA p l e (rM 1 23) s m args below meth c g A Q 9 2 [oX10 q_t Q_t (F_t 0 0) (F_t 2 0) (F_t 3 0) (F_t 4 0) (F_t 5 0) (F_t 6 0) (F_t 7 0) (F_t 8 0) (F_t 9 0) (F_t 10 0) (F_t 11 0) (F_t 12 0) (F_t 15 0) (F_t 16 0) (F_t 17 0) (F_t 23 0) (F_t 27 0) (F_t 28 0) (F_t 30 0), ia g (Q_t 18) 16 (F_t 18), ia g (Q_t 19) 30 (F_t 19), ia g (Q_t 20) 174 (F_t 20), la g q_a2 8 f_a2] [(0, .ref q_t), (1, .int x1), (2, .ref q_a2), (3, .int x3)] [] := by
  obtain ⟨⟨hx, hb, hml, hown, hts⟩, hr, hK, hA, hlk⟩ := id E
  intro H locs ls hP hD hS hl
  refine lv_iload_n hx hb dX10_layHours_2 rfl (lv_at hl 3 rfl) ?_
  refine lv_aload_n hx hb dX10_layHours_3 rfl (lv_at hl 0 rfl) ?_
  refine va_get (ci := 10) (v := .int (F_t 16 0)) (C := RX10) (T := TX10) (N := 38) hx hb hts (fun w h => .tail _ (u_inX10 w h)) hown hK.1 hP 0 rfl rfl 16 (by decide) (hts _ (.tail _ u_fl_X10_80)) (fun _ h9 => h9) rfl dX10_layHours_4 ?_
  refine lv_icmp_ge (tgt := 28) hx hb dX10_layHours_7 (by decide) (fun c_2 => ?_) (fun c_2 => ?_)
  · have h := ox_t c_2 h
    obtain rfl := Option.some.inj h
    exact he _ rfl H locs ls hP hD hS (lv_sub hl [0, 1, 2] rfl)
  · have h := ox_f c_2 h
    refine lv_aload_n hx hb dX10_layHours_10 rfl (lv_at hl 2 rfl) ?_
    refine lv_iload_n hx hb dX10_layHours_11 rfl (lv_at hl 3 rfl) ?_
    refine lv_iload_n hx hb dX10_layHours_12 rfl (lv_at hl 3 rfl) ?_
    refine lv_if_ne (tgt := 20) hx hb dX10_layHours_13 (by decide) (fun c_3 => ?_) (fun c_3 => ?_)
    · have h := ox_f c_3 h
      refine lv_lconst (v := (0 : Int64)) hx hb dX10_layHours_20 (by decide) ?_
      exact t_X10_layHours_b2_k21 E q_t Q_t q_a2 N F_t f_a2 x1 x3 x3 (0 : Int64) _ h hc he H locs ls hP hD hS hl
    · have h := ox_t c_3 h
      refine lv_lconst (v := (1 : Int64)) hx hb dX10_layHours_16 (by decide) ?_
      refine lv_goto (tgt := 21) hx hb dX10_layHours_17 (by decide) ?_
      exact t_X10_layHours_b2_k21 E q_t Q_t q_a2 N F_t f_a2 x1 x3 x3 (1 : Int64) _ h hc he H locs ls hP hD hS hl
def x_X10_layHours_b47 (N : Nat) (F_t : St) (f_a2 : (Nat → Int64)) (x1 : Int32) (x3 : Int64) (x5 : Int32) (x6 : Int32) : Option ((Int32 × (Nat → Int64)) ⊕ ((Nat → Int64))) :=
  if (F_t 17 0) ≤ x6 then (some (.inr f_a2)) else (if ((3 : Int32) * x6) < 0 ∨ 30 ≤ ((3 : Int32) * x6).toNatClampNeg then none else xl ((F_t 19) ((3 : Int32) * x6).toNatClampNeg) (fun y_8 => if (((3 : Int32) * x6) + (1 : Int32)) < 0 ∨ 30 ≤ (((3 : Int32) * x6) + (1 : Int32)).toNatClampNeg then none else xl ((F_t 19) (((3 : Int32) * x6) + (1 : Int32)).toNatClampNeg) (fun y_10 => Option.bind (x_X10_has ((F_t 20) (172 : Int32).toNatClampNeg) x6) (fun v_11 => if v_11 = 0 then (Option.bind (x_X10_goesOn F_t y_8 ((1 : Int32) <<< (x1 &&& 31))) (fun v_13 => if v_13 = 0 then (some (.inl ((x6 + (1 : Int32)), f_a2))) else (if y_10 < 0 ∨ 8 ≤ y_10.toNatClampNeg then none else if y_8 < 0 ∨ 8 ≤ y_8.toNatClampNeg then none else if (((3 : Int32) * x6) + (2 : Int32)) < 0 ∨ 30 ≤ (((3 : Int32) * x6) + (2 : Int32)).toNatClampNeg then none else if y_10 < 0 ∨ 8 ≤ y_10.toNatClampNeg then none else xl ((f_a2 y_10.toNatClampNeg) ||| (((f_a2 y_8.toNatClampNeg) <<< (((F_t 19) (((3 : Int32) * x6) + (2 : Int32)).toNatClampNeg).toInt64 &&& 63)) &&& x3)) (fun y_19 => some (.inl ((x6 + (1 : Int32)), (vp_updL f_a2 y_10.toNatClampNeg y_19))))))) else (some (.inl ((x6 + (1 : Int32)), f_a2)))))))
set_option maxHeartbeats 4000000 in
set_option maxRecDepth 100000 in
theorem t_X10_layHours_b47 {p : Program} {l : Launch} {e : Env} {s : State} {m : MethodId} {args : Array Value} {below : List Frame} {meth : Method} {c : Code} {g : gG} {A : Nat → Prop} {Q : State → Prop} (E : En p s m args meth c g A cX10_layHours 9 (.code yX10_layHours cX10_layHours 9 none :: gW) RX10 none) (q_t : Nat) (Q_t : Ad) (q_a2 : Nat) (N : Nat) (F_t : St) (f_a2 : (Nat → Int64)) (x1 : Int32) (x3 : Int64) (x5 : Int32) (x6 : Int32) (o : (Int32 × (Nat → Int64)) ⊕ ((Nat → Int64))) (h : x_X10_layHours_b47 N F_t f_a2 x1 x3 x5 x6 = some o) (hc : ∀ z, o = .inl z → WA p l e (rM 1 23) s m args below meth c g A Q 9 47 [oX10 q_t Q_t (F_t 0 0) (F_t 2 0) (F_t 3 0) (F_t 4 0) (F_t 5 0) (F_t 6 0) (F_t 7 0) (F_t 8 0) (F_t 9 0) (F_t 10 0) (F_t 11 0) (F_t 12 0) (F_t 15 0) (F_t 16 0) (F_t 17 0) (F_t 23 0) (F_t 27 0) (F_t 28 0) (F_t 30 0), ia g (Q_t 18) 16 (F_t 18), ia g (Q_t 19) 30 (F_t 19), ia g (Q_t 20) 174 (F_t 20), la g q_a2 8 z.2] [(0, .ref q_t), (1, .int x1), (2, .ref q_a2), (3, .long x3), (5, .int x5), (6, .int z.1)] []) (he : ∀ v, o = .inr v → WA p l e (rM 1 23) s m args below meth c g A Q 9 141 [oX10 q_t Q_t (F_t 0 0) (F_t 2 0) (F_t 3 0) (F_t 4 0) (F_t 5 0) (F_t 6 0) (F_t 7 0) (F_t 8 0) (F_t 9 0) (F_t 10 0) (F_t 11 0) (F_t 12 0) (F_t 15 0) (F_t 16 0) (F_t 17 0) (F_t 23 0) (F_t 27 0) (F_t 28 0) (F_t 30 0), ia g (Q_t 18) 16 (F_t 18), ia g (Q_t 19) 30 (F_t 19), ia g (Q_t 20) 174 (F_t 20), la g q_a2 8 v] [(0, .ref q_t), (1, .int x1), (2, .ref q_a2), (3, .long x3), (5, .int x5)] []) : WA p l e (rM 1 23) s m args below meth c g A Q 9 47 [oX10 q_t Q_t (F_t 0 0) (F_t 2 0) (F_t 3 0) (F_t 4 0) (F_t 5 0) (F_t 6 0) (F_t 7 0) (F_t 8 0) (F_t 9 0) (F_t 10 0) (F_t 11 0) (F_t 12 0) (F_t 15 0) (F_t 16 0) (F_t 17 0) (F_t 23 0) (F_t 27 0) (F_t 28 0) (F_t 30 0), ia g (Q_t 18) 16 (F_t 18), ia g (Q_t 19) 30 (F_t 19), ia g (Q_t 20) 174 (F_t 20), la g q_a2 8 f_a2] [(0, .ref q_t), (1, .int x1), (2, .ref q_a2), (3, .long x3), (5, .int x5), (6, .int x6)] [] := by
  obtain ⟨⟨hx, hb, hml, hown, hts⟩, hr, hK, hA, hlk⟩ := id E
  intro H locs ls hP hD hS hl
  refine lv_iload hx hb dX10_layHours_47 (lv_at hl 5 rfl) ?_
  refine lv_aload_n hx hb dX10_layHours_49 rfl (lv_at hl 0 rfl) ?_
  refine va_get (ci := 10) (v := .int (F_t 17 0)) (C := RX10) (T := TX10) (N := 38) hx hb hts (fun w h => .tail _ (u_inX10 w h)) hown hK.1 hP 0 rfl rfl 17 (by decide) (hts _ (.tail _ u_fl_X10_87)) (fun _ h9 => h9) rfl dX10_layHours_50 ?_
  refine lv_icmp_ge (tgt := 141) hx hb dX10_layHours_53 (by decide) (fun c_6 => ?_) (fun c_6 => ?_)
  · have h := ox_t c_6 h
    obtain rfl := Option.some.inj h
    exact he _ rfl H locs ls hP hD hS (lv_sub hl [0, 1, 2, 3, 4] rfl)
  · have h := ox_f c_6 h
    refine lv_aload_n hx hb dX10_layHours_56 rfl (lv_at hl 0 rfl) ?_
    refine va_get (ci := 10) (v := .ref (Q_t 19)) (C := RX10) (T := TX10) (N := 38) hx hb hts (fun w h => .tail _ (u_inX10 w h)) hown hK.1 hP 0 rfl rfl 19 (by decide) (hts _ (.tail _ u_fl_X10_26)) (fun _ h9 => h9) rfl dX10_layHours_57 ?_
    refine lv_iconst (v := (3 : Int32)) hx hb dX10_layHours_60 (by decide) ?_
    refine lv_iload hx hb dX10_layHours_61 (lv_at hl 5 rfl) ?_
    refine lv_imul hx hb dX10_layHours_63 ?_
    obtain ⟨hi_7, h⟩ := ox_chk h
    refine va_iald hx hb hK.1 hP 2 0 rfl rfl hi_7 dX10_layHours_64 ?_
    refine lv_topi (fun y_8 ey_8 => ?_)
    have h := xl_at ey_8 h
    refine lv_istore (lv' := [(7, .int y_8), (0, .ref q_t), (1, .int x1), (2, .ref q_a2), (3, .long x3), (5, .int x5), (6, .int x6)]) hx hb dX10_layHours_65 hl (by decide) rfl (fun ls hl => ?_)
    refine lv_aload_n hx hb dX10_layHours_67 rfl (lv_at hl 1 rfl) ?_
    refine va_get (ci := 10) (v := .ref (Q_t 19)) (C := RX10) (T := TX10) (N := 38) hx hb hts (fun w h => .tail _ (u_inX10 w h)) hown hK.1 hP 0 rfl rfl 19 (by decide) (hts _ (.tail _ u_fl_X10_26)) (fun _ h9 => h9) rfl dX10_layHours_68 ?_
    refine lv_iconst (v := (3 : Int32)) hx hb dX10_layHours_71 (by decide) ?_
    refine lv_iload hx hb dX10_layHours_72 (lv_at hl 6 rfl) ?_
    refine lv_imul hx hb dX10_layHours_74 ?_
    refine lv_iconst (v := (1 : Int32)) hx hb dX10_layHours_75 (by decide) ?_
    refine lv_iadd hx hb dX10_layHours_76 ?_
    obtain ⟨hi_9, h⟩ := ox_chk h
    refine va_iald hx hb hK.1 hP 2 0 rfl rfl hi_9 dX10_layHours_77 ?_
    refine lv_topi (fun y_10 ey_10 => ?_)
    have h := xl_at ey_10 h
    refine lv_istore (lv' := [(8, .int y_10), (7, .int y_8), (0, .ref q_t), (1, .int x1), (2, .ref q_a2), (3, .long x3), (5, .int x5), (6, .int x6)]) hx hb dX10_layHours_78 hl (by decide) rfl (fun ls hl => ?_)
    refine lv_aload_n hx hb dX10_layHours_80 rfl (lv_at hl 2 rfl) ?_
    refine va_get (ci := 10) (v := .ref (Q_t 20)) (C := RX10) (T := TX10) (N := 38) hx hb hts (fun w h => .tail _ (u_inX10 w h)) hown hK.1 hP 0 rfl rfl 20 (by decide) (hts _ (.tail _ u_fl_X10_29)) (fun _ h9 => h9) rfl dX10_layHours_81 ?_
    refine lv_sipush (v := (172 : Int32)) hx hb dX10_layHours_84 (by decide) ?_
    refine va_iald hx hb hK.1 hP 3 0 rfl rfl (by unfold vp_in; decide) dX10_layHours_87 ?_
    refine lv_iload hx hb dX10_layHours_88 (lv_at hl 7 rfl) ?_
    obtain ⟨v_11, hv_11, h⟩ := ox_bind h
    refine kSi ⟨hx, hb, hml, hown, hts⟩ (c_X10_has l g ((F_t 20) (172 : Int32).toNatClampNeg) x6 v_11 hv_11 H.size) (gS u_ml_X10_194 u_st_X10_has u_ini_X10 u_co_X10_has) hd_X10_has ⟨rfl, rfl⟩ hK hP hD hS hA [] [0, 1, 2, 3, 4] rfl rfl 0 rfl (w2 := [oX10 q_t Q_t (F_t 0 0) (F_t 2 0) (F_t 3 0) (F_t 4 0) (F_t 5 0) (F_t 6 0) (F_t 7 0) (F_t 8 0) (F_t 9 0) (F_t 10 0) (F_t 11 0) (F_t 12 0) (F_t 15 0) (F_t 16 0) (F_t 17 0) (F_t 23 0) (F_t 27 0) (F_t 28 0) (F_t 30 0), ia g (Q_t 18) 16 (F_t 18), ia g (Q_t 19) 30 (F_t 19), ia g (Q_t 20) 174 (F_t 20), la g q_a2 8 f_a2]) rfl rfl (As := [.int ((F_t 20) (172 : Int32).toNatClampNeg), .int x6]) (rest := []) rfl hl.1 rfl rfl dX10_layHours_90 (fun H locs hP hD hS => ?_)
    refine lv_if_ne (tgt := 135) hx hb dX10_layHours_93 (by decide) (fun c_12 => ?_) (fun c_12 => ?_)
    · have h := ox_f c_12 h
      refine lv_iinc (v := (x6 + (1 : Int32))) (lv' := [(6, .int (x6 + (1 : Int32))), (8, .int y_10), (7, .int y_8), (0, .ref q_t), (1, .int x1), (2, .ref q_a2), (3, .long x3), (5, .int x5)]) hx hb dX10_layHours_135 hl (k := 7) rfl rfl (by decide) rfl (fun ls hl => ?_)
      refine lv_goto (tgt := 47) hx hb dX10_layHours_138 (by decide) ?_
      obtain rfl := Option.some.inj h
      exact hc _ rfl H locs ls hP hD hS (lv_sub hl [3, 4, 5, 6, 7, 0] rfl)
    · have h := ox_t c_12 h
      refine lv_aload_n hx hb dX10_layHours_96 rfl (lv_at hl 2 rfl) ?_
      refine lv_iload hx hb dX10_layHours_97 (lv_at hl 1 rfl) ?_
      refine lv_iconst (v := (1 : Int32)) hx hb dX10_layHours_99 (by decide) ?_
      refine lv_iload_n hx hb dX10_layHours_100 rfl (lv_at hl 3 rfl) ?_
      refine lv_ishl hx hb dX10_layHours_101 ?_
      obtain ⟨v_13, hv_13, h⟩ := ox_bind h
      refine kVi ⟨hx, hb, hml, hown, hts⟩ (c_X10_goesOn l g q_t Q_t F_t y_8 ((1 : Int32) <<< (x1 &&& 31)) v_13 hv_13 H.size) (gV u_ml_X10_201 u_im_X10_goesOn u_se_X10_goesOn u_ini_X10 u_co_X10_goesOn) hd_X10_goesOn ⟨rfl, rfl⟩ hK hP hD hS hA 0 10 rfl rfl [0, 1] [0, 1, 4, 5, 6] rfl rfl 2 rfl (w2 := [oX10 q_t Q_t (F_t 0 0) (F_t 2 0) (F_t 3 0) (F_t 4 0) (F_t 5 0) (F_t 6 0) (F_t 7 0) (F_t 8 0) (F_t 9 0) (F_t 10 0) (F_t 11 0) (F_t 12 0) (F_t 15 0) (F_t 16 0) (F_t 17 0) (F_t 23 0) (F_t 27 0) (F_t 28 0) (F_t 30 0), ia g (Q_t 18) 16 (F_t 18), ia g (Q_t 19) 30 (F_t 19), ia g (Q_t 20) 174 (F_t 20), la g q_a2 8 f_a2]) rfl rfl (As := [.int y_8, .int ((1 : Int32) <<< (x1 &&& 31))]) (rest := []) rfl hl.1 rfl rfl dX10_layHours_102 (fun H locs hP hD hS => ?_)
      refine lv_if_eq (tgt := 135) hx hb dX10_layHours_105 (by decide) (fun c_14 => ?_) (fun c_14 => ?_)
      · have h := ox_t c_14 h
        refine lv_iinc (v := (x6 + (1 : Int32))) (lv' := [(6, .int (x6 + (1 : Int32))), (8, .int y_10), (7, .int y_8), (0, .ref q_t), (1, .int x1), (2, .ref q_a2), (3, .long x3), (5, .int x5)]) hx hb dX10_layHours_135 hl (k := 7) rfl rfl (by decide) rfl (fun ls hl => ?_)
        refine lv_goto (tgt := 47) hx hb dX10_layHours_138 (by decide) ?_
        obtain rfl := Option.some.inj h
        exact hc _ rfl H locs ls hP hD hS (lv_sub hl [3, 4, 5, 6, 7, 0] rfl)
      · have h := ox_f c_14 h
        refine lv_aload_n hx hb dX10_layHours_108 rfl (lv_at hl 4 rfl) ?_
        refine lv_iload hx hb dX10_layHours_109 (lv_at hl 0 rfl) ?_
        refine lv_aload_n hx hb dX10_layHours_111 rfl (lv_at hl 4 rfl) ?_
        refine lv_iload hx hb dX10_layHours_112 (lv_at hl 0 rfl) ?_
        obtain ⟨hi_15, h⟩ := ox_chk h
        refine va_lald hx hb hK.1 hP 4 1 rfl rfl hi_15 dX10_layHours_114 ?_
        refine lv_aload_n hx hb dX10_layHours_115 rfl (lv_at hl 4 rfl) ?_
        refine lv_iload hx hb dX10_layHours_116 (lv_at hl 1 rfl) ?_
        obtain ⟨hi_16, h⟩ := ox_chk h
        refine va_lald hx hb hK.1 hP 4 1 rfl rfl hi_16 dX10_layHours_118 ?_
        refine lv_aload_n hx hb dX10_layHours_119 rfl (lv_at hl 2 rfl) ?_
        refine va_get (ci := 10) (v := .ref (Q_t 19)) (C := RX10) (T := TX10) (N := 38) hx hb hts (fun w h => .tail _ (u_inX10 w h)) hown hK.1 hP 0 rfl rfl 19 (by decide) (hts _ (.tail _ u_fl_X10_26)) (fun _ h9 => h9) rfl dX10_layHours_120 ?_
        refine lv_iconst (v := (3 : Int32)) hx hb dX10_layHours_123 (by decide) ?_
        refine lv_iload hx hb dX10_layHours_124 (lv_at hl 7 rfl) ?_
        refine lv_imul hx hb dX10_layHours_126 ?_
        refine lv_iconst (v := (2 : Int32)) hx hb dX10_layHours_127 (by decide) ?_
        refine lv_iadd hx hb dX10_layHours_128 ?_
        obtain ⟨hi_17, h⟩ := ox_chk h
        refine va_iald hx hb hK.1 hP 2 0 rfl rfl hi_17 dX10_layHours_129 ?_
        refine lv_lshl (v := ((f_a2 y_8.toNatClampNeg) <<< (((F_t 19) (((3 : Int32) * x6) + (2 : Int32)).toNatClampNeg).toInt64 &&& 63))) hx hb dX10_layHours_130 rfl ?_
        refine lv_lload_n hx hb dX10_layHours_131 rfl (lv_at hl 5 rfl) ?_
        refine lv_land hx hb dX10_layHours_132 ?_
        refine lv_lor hx hb dX10_layHours_133 ?_
        obtain ⟨hi_18, h⟩ := ox_chk h
        refine lv_topl (fun y_19 ey_19 => ?_)
        have h := xl_at ey_19 h
        refine va_last hx hb hK.1 hP hD hS 4 1 rfl rfl hi_18 dX10_layHours_134 (fun H locs hP hD hS => ?_)
        have hP : va_P g.1 vwCl [oX10 q_t Q_t (F_t 0 0) (F_t 2 0) (F_t 3 0) (F_t 4 0) (F_t 5 0) (F_t 6 0) (F_t 7 0) (F_t 8 0) (F_t 9 0) (F_t 10 0) (F_t 11 0) (F_t 12 0) (F_t 15 0) (F_t 16 0) (F_t 17 0) (F_t 23 0) (F_t 27 0) (F_t 28 0) (F_t 30 0), ia g (Q_t 18) 16 (F_t 18), ia g (Q_t 19) 30 (F_t 19), ia g (Q_t 20) 174 (F_t 20), la g q_a2 8 (vp_updL f_a2 y_10.toNatClampNeg y_19)] H := hP
        have hD : va_D A [oX10 q_t Q_t (F_t 0 0) (F_t 2 0) (F_t 3 0) (F_t 4 0) (F_t 5 0) (F_t 6 0) (F_t 7 0) (F_t 8 0) (F_t 9 0) (F_t 10 0) (F_t 11 0) (F_t 12 0) (F_t 15 0) (F_t 16 0) (F_t 17 0) (F_t 23 0) (F_t 27 0) (F_t 28 0) (F_t 30 0), ia g (Q_t 18) 16 (F_t 18), ia g (Q_t 19) 30 (F_t 19), ia g (Q_t 20) 174 (F_t 20), la g q_a2 8 (vp_updL f_a2 y_10.toNatClampNeg y_19)] := hD
        refine lv_iinc (v := (x6 + (1 : Int32))) (lv' := [(6, .int (x6 + (1 : Int32))), (8, .int y_10), (7, .int y_8), (0, .ref q_t), (1, .int x1), (2, .ref q_a2), (3, .long x3), (5, .int x5)]) hx hb dX10_layHours_135 hl (k := 7) rfl rfl (by decide) rfl (fun ls hl => ?_)
        refine lv_goto (tgt := 47) hx hb dX10_layHours_138 (by decide) ?_
        obtain rfl := Option.some.inj h
        exact hc _ rfl H locs ls hP hD hS (lv_sub hl [3, 4, 5, 6, 7, 0] rfl)
def x_X10_layHours_b35 (N : Nat) (F_t : St) (f_a2 : (Nat → Int64)) (x1 : Int32) (x3 : Int64) (x5 : Int32) : Option ((Int32 × (Nat → Int64)) ⊕ ((Nat → Int64))) :=
  if (F_t 16 0) ≤ x5 then (some (.inr f_a2)) else (Option.bind (lpc (fun (z : Int32 × (Nat → Int64)) => x_X10_layHours_b47 N F_t z.2 x1 x3 x5 z.1) N ((0 : Int32), f_a2)) (fun v_20 => some (.inl ((x5 + (1 : Int32)), v_20))))
set_option maxHeartbeats 4000000 in
set_option maxRecDepth 100000 in
theorem t_X10_layHours_b35 {p : Program} {l : Launch} {e : Env} {s : State} {m : MethodId} {args : Array Value} {below : List Frame} {meth : Method} {c : Code} {g : gG} {A : Nat → Prop} {Q : State → Prop} (E : En p s m args meth c g A cX10_layHours 9 (.code yX10_layHours cX10_layHours 9 none :: gW) RX10 none) (q_t : Nat) (Q_t : Ad) (q_a2 : Nat) (N : Nat) (F_t : St) (f_a2 : (Nat → Int64)) (x1 : Int32) (x3 : Int64) (x5 : Int32) (o : (Int32 × (Nat → Int64)) ⊕ ((Nat → Int64))) (h : x_X10_layHours_b35 N F_t f_a2 x1 x3 x5 = some o) (hc : ∀ z, o = .inl z → WA p l e (rM 1 23) s m args below meth c g A Q 9 35 [oX10 q_t Q_t (F_t 0 0) (F_t 2 0) (F_t 3 0) (F_t 4 0) (F_t 5 0) (F_t 6 0) (F_t 7 0) (F_t 8 0) (F_t 9 0) (F_t 10 0) (F_t 11 0) (F_t 12 0) (F_t 15 0) (F_t 16 0) (F_t 17 0) (F_t 23 0) (F_t 27 0) (F_t 28 0) (F_t 30 0), ia g (Q_t 18) 16 (F_t 18), ia g (Q_t 19) 30 (F_t 19), ia g (Q_t 20) 174 (F_t 20), la g q_a2 8 z.2] [(0, .ref q_t), (1, .int x1), (2, .ref q_a2), (3, .long x3), (5, .int z.1)] []) (he : ∀ v, o = .inr v → WA p l e (rM 1 23) s m args below meth c g A Q 9 147 [oX10 q_t Q_t (F_t 0 0) (F_t 2 0) (F_t 3 0) (F_t 4 0) (F_t 5 0) (F_t 6 0) (F_t 7 0) (F_t 8 0) (F_t 9 0) (F_t 10 0) (F_t 11 0) (F_t 12 0) (F_t 15 0) (F_t 16 0) (F_t 17 0) (F_t 23 0) (F_t 27 0) (F_t 28 0) (F_t 30 0), ia g (Q_t 18) 16 (F_t 18), ia g (Q_t 19) 30 (F_t 19), ia g (Q_t 20) 174 (F_t 20), la g q_a2 8 v] [] []) : WA p l e (rM 1 23) s m args below meth c g A Q 9 35 [oX10 q_t Q_t (F_t 0 0) (F_t 2 0) (F_t 3 0) (F_t 4 0) (F_t 5 0) (F_t 6 0) (F_t 7 0) (F_t 8 0) (F_t 9 0) (F_t 10 0) (F_t 11 0) (F_t 12 0) (F_t 15 0) (F_t 16 0) (F_t 17 0) (F_t 23 0) (F_t 27 0) (F_t 28 0) (F_t 30 0), ia g (Q_t 18) 16 (F_t 18), ia g (Q_t 19) 30 (F_t 19), ia g (Q_t 20) 174 (F_t 20), la g q_a2 8 f_a2] [(0, .ref q_t), (1, .int x1), (2, .ref q_a2), (3, .long x3), (5, .int x5)] [] := by
  obtain ⟨⟨hx, hb, hml, hown, hts⟩, hr, hK, hA, hlk⟩ := id E
  intro H locs ls hP hD hS hl
  refine lv_iload hx hb dX10_layHours_35 (lv_at hl 4 rfl) ?_
  refine lv_aload_n hx hb dX10_layHours_37 rfl (lv_at hl 0 rfl) ?_
  refine va_get (ci := 10) (v := .int (F_t 16 0)) (C := RX10) (T := TX10) (N := 38) hx hb hts (fun w h => .tail _ (u_inX10 w h)) hown hK.1 hP 0 rfl rfl 16 (by decide) (hts _ (.tail _ u_fl_X10_80)) (fun _ h9 => h9) rfl dX10_layHours_38 ?_
  refine lv_icmp_ge (tgt := 147) hx hb dX10_layHours_41 (by decide) (fun c_5 => ?_) (fun c_5 => ?_)
  · have h := ox_t c_5 h
    obtain rfl := Option.some.inj h
    exact he _ rfl H locs ls hP hD hS (lv_sub hl [] rfl)
  · have h := ox_f c_5 h
    refine lv_iconst (v := (0 : Int32)) hx hb dX10_layHours_44 (by decide) ?_
    refine lv_istore (lv' := [(6, .int (0 : Int32)), (0, .ref q_t), (1, .int x1), (2, .ref q_a2), (3, .long x3), (5, .int x5)]) hx hb dX10_layHours_45 hl (by decide) rfl (fun ls hl => ?_)
    obtain ⟨v_20, hv_20, h⟩ := ox_bind h
    refine lpc_W (Wh := fun (z : Int32 × (Nat → Int64)) => WA p l e (rM 1 23) s m args below meth c g A Q 9 47 [oX10 q_t Q_t (F_t 0 0) (F_t 2 0) (F_t 3 0) (F_t 4 0) (F_t 5 0) (F_t 6 0) (F_t 7 0) (F_t 8 0) (F_t 9 0) (F_t 10 0) (F_t 11 0) (F_t 12 0) (F_t 15 0) (F_t 16 0) (F_t 17 0) (F_t 23 0) (F_t 27 0) (F_t 28 0) (F_t 30 0), ia g (Q_t 18) 16 (F_t 18), ia g (Q_t 19) 30 (F_t 19), ia g (Q_t 20) 174 (F_t 20), la g q_a2 8 z.2] [(0, .ref q_t), (1, .int x1), (2, .ref q_a2), (3, .long x3), (5, .int x5), (6, .int z.1)] []) (We := fun (v : (Nat → Int64)) => WA p l e (rM 1 23) s m args below meth c g A Q 9 141 [oX10 q_t Q_t (F_t 0 0) (F_t 2 0) (F_t 3 0) (F_t 4 0) (F_t 5 0) (F_t 6 0) (F_t 7 0) (F_t 8 0) (F_t 9 0) (F_t 10 0) (F_t 11 0) (F_t 12 0) (F_t 15 0) (F_t 16 0) (F_t 17 0) (F_t 23 0) (F_t 27 0) (F_t 28 0) (F_t 30 0), ia g (Q_t 18) 16 (F_t 18), ia g (Q_t 19) 30 (F_t 19), ia g (Q_t 20) 174 (F_t 20), la g q_a2 8 v] [(0, .ref q_t), (1, .int x1), (2, .ref q_a2), (3, .long x3), (5, .int x5)] []) (fun z r hb hc he => t_X10_layHours_b47 E q_t Q_t q_a2 N F_t z.2 x1 x3 x5 z.1 r hb hc he) N ((0 : Int32), f_a2) v_20 hv_20 ?_ H locs ls hP hD hS (lv_sub hl [1, 2, 3, 4, 5, 0] rfl)
    intro H locs ls hP hD hS hl
    refine lv_iinc (v := (x5 + (1 : Int32))) (lv' := [(5, .int (x5 + (1 : Int32))), (0, .ref q_t), (1, .int x1), (2, .ref q_a2), (3, .long x3)]) hx hb dX10_layHours_141 hl (k := 4) rfl rfl (by decide) rfl (fun ls hl => ?_)
    refine lv_goto (tgt := 35) hx hb dX10_layHours_144 (by decide) ?_
    obtain rfl := Option.some.inj h
    exact hc _ rfl H locs ls hP hD hS (lv_sub hl [1, 2, 3, 4, 0] rfl)
def x_X10_layHours (N : Nat) (F_t : St) (f_a2 : (Nat → Int64)) (x1 : Int32) : Option ((Nat → Int64)) :=
  Option.bind (lpc (fun (z : Int32 × (Nat → Int64)) => x_X10_layHours_b2 N F_t z.2 x1 z.1) N ((0 : Int32), f_a2)) (fun v_4 => Option.bind (lpc (fun (z : Int32 × (Nat → Int64)) => x_X10_layHours_b35 N F_t z.2 x1 (2305843009213693951 : Int64) z.1) N ((0 : Int32), v_4)) (fun v_21 => some v_21))
set_option maxHeartbeats 4000000 in
set_option maxRecDepth 100000 in
theorem t_X10_layHours {p : Program} {l : Launch} {e : Env} {s : State} {m : MethodId} {args : Array Value} {below : List Frame} {meth : Method} {c : Code} {g : gG} {A : Nat → Prop} (E : En p s m args meth c g A cX10_layHours 9 (.code yX10_layHours cX10_layHours 9 none :: gW) RX10 none) (q_t : Nat) (Q_t : Ad) (q_a2 : Nat) (N : Nat) (F_t : St) (f_a2 : (Nat → Int64)) (x1 : Int32) (o : (Nat → Int64)) (h : x_X10_layHours N F_t f_a2 x1 = some o) : WA p l e (rM 1 23) s m args below meth c g A (MQ below (QV g A [oX10 q_t Q_t (F_t 0 0) (F_t 2 0) (F_t 3 0) (F_t 4 0) (F_t 5 0) (F_t 6 0) (F_t 7 0) (F_t 8 0) (F_t 9 0) (F_t 10 0) (F_t 11 0) (F_t 12 0) (F_t 15 0) (F_t 16 0) (F_t 17 0) (F_t 23 0) (F_t 27 0) (F_t 28 0) (F_t 30 0), ia g (Q_t 18) 16 (F_t 18), ia g (Q_t 19) 30 (F_t 19), ia g (Q_t 20) 174 (F_t 20), la g q_a2 8 o]) args s 0 0 A) 9 0 [oX10 q_t Q_t (F_t 0 0) (F_t 2 0) (F_t 3 0) (F_t 4 0) (F_t 5 0) (F_t 6 0) (F_t 7 0) (F_t 8 0) (F_t 9 0) (F_t 10 0) (F_t 11 0) (F_t 12 0) (F_t 15 0) (F_t 16 0) (F_t 17 0) (F_t 23 0) (F_t 27 0) (F_t 28 0) (F_t 30 0), ia g (Q_t 18) 16 (F_t 18), ia g (Q_t 19) 30 (F_t 19), ia g (Q_t 20) 174 (F_t 20), la g q_a2 8 f_a2] [(0, .ref q_t), (1, .int x1), (2, .ref q_a2)] [] := by
  obtain ⟨⟨hx, hb, hml, hown, hts⟩, hr, hK, hA, hlk⟩ := id E
  intro H locs ls hP hD hS hl
  refine lv_iconst (v := (0 : Int32)) hx hb dX10_layHours_0 (by decide) ?_
  refine lv_istore_n (lv' := [(3, .int (0 : Int32)), (0, .ref q_t), (1, .int x1), (2, .ref q_a2)]) hx hb dX10_layHours_1 rfl hl (by decide) rfl (fun ls hl => ?_)
  obtain ⟨v_4, hv_4, h⟩ := ox_bind h
  refine lpc_W (Wh := fun (z : Int32 × (Nat → Int64)) => WA p l e (rM 1 23) s m args below meth c g A (MQ below (QV g A [oX10 q_t Q_t (F_t 0 0) (F_t 2 0) (F_t 3 0) (F_t 4 0) (F_t 5 0) (F_t 6 0) (F_t 7 0) (F_t 8 0) (F_t 9 0) (F_t 10 0) (F_t 11 0) (F_t 12 0) (F_t 15 0) (F_t 16 0) (F_t 17 0) (F_t 23 0) (F_t 27 0) (F_t 28 0) (F_t 30 0), ia g (Q_t 18) 16 (F_t 18), ia g (Q_t 19) 30 (F_t 19), ia g (Q_t 20) 174 (F_t 20), la g q_a2 8 o]) args s 0 0 A) 9 2 [oX10 q_t Q_t (F_t 0 0) (F_t 2 0) (F_t 3 0) (F_t 4 0) (F_t 5 0) (F_t 6 0) (F_t 7 0) (F_t 8 0) (F_t 9 0) (F_t 10 0) (F_t 11 0) (F_t 12 0) (F_t 15 0) (F_t 16 0) (F_t 17 0) (F_t 23 0) (F_t 27 0) (F_t 28 0) (F_t 30 0), ia g (Q_t 18) 16 (F_t 18), ia g (Q_t 19) 30 (F_t 19), ia g (Q_t 20) 174 (F_t 20), la g q_a2 8 z.2] [(0, .ref q_t), (1, .int x1), (2, .ref q_a2), (3, .int z.1)] []) (We := fun (v : (Nat → Int64)) => WA p l e (rM 1 23) s m args below meth c g A (MQ below (QV g A [oX10 q_t Q_t (F_t 0 0) (F_t 2 0) (F_t 3 0) (F_t 4 0) (F_t 5 0) (F_t 6 0) (F_t 7 0) (F_t 8 0) (F_t 9 0) (F_t 10 0) (F_t 11 0) (F_t 12 0) (F_t 15 0) (F_t 16 0) (F_t 17 0) (F_t 23 0) (F_t 27 0) (F_t 28 0) (F_t 30 0), ia g (Q_t 18) 16 (F_t 18), ia g (Q_t 19) 30 (F_t 19), ia g (Q_t 20) 174 (F_t 20), la g q_a2 8 o]) args s 0 0 A) 9 28 [oX10 q_t Q_t (F_t 0 0) (F_t 2 0) (F_t 3 0) (F_t 4 0) (F_t 5 0) (F_t 6 0) (F_t 7 0) (F_t 8 0) (F_t 9 0) (F_t 10 0) (F_t 11 0) (F_t 12 0) (F_t 15 0) (F_t 16 0) (F_t 17 0) (F_t 23 0) (F_t 27 0) (F_t 28 0) (F_t 30 0), ia g (Q_t 18) 16 (F_t 18), ia g (Q_t 19) 30 (F_t 19), ia g (Q_t 20) 174 (F_t 20), la g q_a2 8 v] [(0, .ref q_t), (1, .int x1), (2, .ref q_a2)] []) (fun z r hb hc he => t_X10_layHours_b2 E q_t Q_t q_a2 N F_t z.2 x1 z.1 r hb hc he) N ((0 : Int32), f_a2) v_4 hv_4 ?_ H locs ls hP hD hS (lv_sub hl [1, 2, 3, 0] rfl)
  intro H locs ls hP hD hS hl
  refine lv_ldc2 (v := (2305843009213693951 : Int64)) hx hb hown (hts _ (.tail _ u_kl_X10_233)) dX10_layHours_28 ?_
  refine lv_lstore_n (lv' := [(3, .long (2305843009213693951 : Int64)), (0, .ref q_t), (1, .int x1), (2, .ref q_a2)]) hx hb dX10_layHours_31 rfl hl (by decide) rfl (fun ls hl => ?_)
  refine lv_iconst (v := (0 : Int32)) hx hb dX10_layHours_32 (by decide) ?_
  refine lv_istore (lv' := [(5, .int (0 : Int32)), (3, .long (2305843009213693951 : Int64)), (0, .ref q_t), (1, .int x1), (2, .ref q_a2)]) hx hb dX10_layHours_33 hl (by decide) rfl (fun ls hl => ?_)
  obtain ⟨v_21, hv_21, h⟩ := ox_bind h
  refine lpc_W (Wh := fun (z : Int32 × (Nat → Int64)) => WA p l e (rM 1 23) s m args below meth c g A (MQ below (QV g A [oX10 q_t Q_t (F_t 0 0) (F_t 2 0) (F_t 3 0) (F_t 4 0) (F_t 5 0) (F_t 6 0) (F_t 7 0) (F_t 8 0) (F_t 9 0) (F_t 10 0) (F_t 11 0) (F_t 12 0) (F_t 15 0) (F_t 16 0) (F_t 17 0) (F_t 23 0) (F_t 27 0) (F_t 28 0) (F_t 30 0), ia g (Q_t 18) 16 (F_t 18), ia g (Q_t 19) 30 (F_t 19), ia g (Q_t 20) 174 (F_t 20), la g q_a2 8 o]) args s 0 0 A) 9 35 [oX10 q_t Q_t (F_t 0 0) (F_t 2 0) (F_t 3 0) (F_t 4 0) (F_t 5 0) (F_t 6 0) (F_t 7 0) (F_t 8 0) (F_t 9 0) (F_t 10 0) (F_t 11 0) (F_t 12 0) (F_t 15 0) (F_t 16 0) (F_t 17 0) (F_t 23 0) (F_t 27 0) (F_t 28 0) (F_t 30 0), ia g (Q_t 18) 16 (F_t 18), ia g (Q_t 19) 30 (F_t 19), ia g (Q_t 20) 174 (F_t 20), la g q_a2 8 z.2] [(0, .ref q_t), (1, .int x1), (2, .ref q_a2), (3, .long (2305843009213693951 : Int64)), (5, .int z.1)] []) (We := fun (v : (Nat → Int64)) => WA p l e (rM 1 23) s m args below meth c g A (MQ below (QV g A [oX10 q_t Q_t (F_t 0 0) (F_t 2 0) (F_t 3 0) (F_t 4 0) (F_t 5 0) (F_t 6 0) (F_t 7 0) (F_t 8 0) (F_t 9 0) (F_t 10 0) (F_t 11 0) (F_t 12 0) (F_t 15 0) (F_t 16 0) (F_t 17 0) (F_t 23 0) (F_t 27 0) (F_t 28 0) (F_t 30 0), ia g (Q_t 18) 16 (F_t 18), ia g (Q_t 19) 30 (F_t 19), ia g (Q_t 20) 174 (F_t 20), la g q_a2 8 o]) args s 0 0 A) 9 147 [oX10 q_t Q_t (F_t 0 0) (F_t 2 0) (F_t 3 0) (F_t 4 0) (F_t 5 0) (F_t 6 0) (F_t 7 0) (F_t 8 0) (F_t 9 0) (F_t 10 0) (F_t 11 0) (F_t 12 0) (F_t 15 0) (F_t 16 0) (F_t 17 0) (F_t 23 0) (F_t 27 0) (F_t 28 0) (F_t 30 0), ia g (Q_t 18) 16 (F_t 18), ia g (Q_t 19) 30 (F_t 19), ia g (Q_t 20) 174 (F_t 20), la g q_a2 8 v] [] []) (fun z r hb hc he => t_X10_layHours_b35 E q_t Q_t q_a2 N F_t z.2 x1 (2305843009213693951 : Int64) z.1 r hb hc he) N ((0 : Int32), v_4) v_21 hv_21 ?_ H locs ls hP hD hS (lv_sub hl [2, 3, 4, 1, 0] rfl)
  intro H locs ls hP hD hS hl
  obtain rfl := Option.some.inj h
  exact k_vret hx hb hr hlk hP hD hS dX10_layHours_147
set_option maxRecDepth 100000 in
theorem c_X10_layHours (l : Launch) (g : gG) (q_t : Nat) (Q_t : Ad) (q_a2 : Nat) (N : Nat) (F_t : St) (f_a2 : (Nat → Int64)) (x1 : Int32) (o : (Nat → Int64)) (h : x_X10_layHours N F_t f_a2 x1 = some o) (sz : Nat) : MetV l yX10_layHours (.code yX10_layHours cX10_layHours 9 none :: gW) 1 23 [.ref q_t, .int x1, .ref q_a2] g [oX10 q_t Q_t (F_t 0 0) (F_t 2 0) (F_t 3 0) (F_t 4 0) (F_t 5 0) (F_t 6 0) (F_t 7 0) (F_t 8 0) (F_t 9 0) (F_t 10 0) (F_t 11 0) (F_t 12 0) (F_t 15 0) (F_t 16 0) (F_t 17 0) (F_t 23 0) (F_t 27 0) (F_t 28 0) (F_t 30 0), ia g (Q_t 18) 16 (F_t 18), ia g (Q_t 19) 30 (F_t 19), ia g (Q_t 20) 174 (F_t 20), la g q_a2 8 f_a2] [oX10 q_t Q_t (F_t 0 0) (F_t 2 0) (F_t 3 0) (F_t 4 0) (F_t 5 0) (F_t 6 0) (F_t 7 0) (F_t 8 0) (F_t 9 0) (F_t 10 0) (F_t 11 0) (F_t 12 0) (F_t 15 0) (F_t 16 0) (F_t 17 0) (F_t 23 0) (F_t 27 0) (F_t 28 0) (F_t 30 0), ia g (Q_t 18) 16 (F_t 18), ia g (Q_t 19) 30 (F_t 19), ia g (Q_t 20) 174 (F_t 20), la g q_a2 8 o] sz :=
  mkV (av := [.ref q_t, .int x1, .ref q_a2]) (by decide +kernel) rfl (fun p e s m below meth c A E H locs ls hP hD hS hl => t_X10_layHours E q_t Q_t q_a2 N F_t f_a2 x1 o h H locs ls hP hD hS hl) sz
def x_X10_meet_b91_k127 (N : Nat) (F_t : St) (L_t : SL) (x3 : Int32) (x5 : Int32) (x6 : Int64) (x8 : Int32) (s0 : Int32) : Option ((Int32 × Int32) ⊕ (Int32)) :=
  some (.inl (s0, (x8 + (-1 : Int32))))
set_option maxHeartbeats 4000000 in
set_option maxRecDepth 100000 in
theorem t_X10_meet_b91_k127 {p : Program} {l : Launch} {e : Env} {s : State} {m : MethodId} {args : Array Value} {below : List Frame} {meth : Method} {c : Code} {g : gG} {A : Nat → Prop} {Q : State → Prop} (E : En p s m args meth c g A cX10_meet 9 (.code yX10_meet cX10_meet 9 (some .int) :: gW) RX10 (some .int)) (q_t : Nat) (Q_t : Ad) (N : Nat) (F_t : St) (L_t : SL) (x3 : Int32) (x5 : Int32) (x6 : Int64) (x8 : Int32) (s0 : Int32) (o : (Int32 × Int32) ⊕ (Int32)) (h : x_X10_meet_b91_k127 N F_t L_t x3 x5 x6 x8 s0 = some o) (hc : ∀ z, o = .inl z → WA p l e (rM 2 51) s m args below meth c g A Q 9 91 [oX10 q_t Q_t (F_t 0 0) (F_t 2 0) (F_t 3 0) (F_t 4 0) (F_t 5 0) (F_t 6 0) (F_t 7 0) (F_t 8 0) (F_t 9 0) (F_t 10 0) (F_t 11 0) (F_t 12 0) (F_t 15 0) (F_t 16 0) (F_t 17 0) (F_t 23 0) (F_t 27 0) (F_t 28 0) (F_t 30 0), ia g (Q_t 18) 16 (F_t 18), ia g (Q_t 19) 30 (F_t 19), ia g (Q_t 20) 174 (F_t 20), la g (Q_t 34) 8 (L_t 34), la g (Q_t 35) 8 (L_t 35)] [(0, .ref q_t), (3, .int x3), (4, .int z.1), (5, .int x5), (6, .long x6), (8, .int z.2)] []) (he : ∀ v, o = .inr v → WA p l e (rM 2 51) s m args below meth c g A Q 9 135 [oX10 q_t Q_t (F_t 0 0) (F_t 2 0) (F_t 3 0) (F_t 4 0) (F_t 5 0) (F_t 6 0) (F_t 7 0) (F_t 8 0) (F_t 9 0) (F_t 10 0) (F_t 11 0) (F_t 12 0) (F_t 15 0) (F_t 16 0) (F_t 17 0) (F_t 23 0) (F_t 27 0) (F_t 28 0) (F_t 30 0), ia g (Q_t 18) 16 (F_t 18), ia g (Q_t 19) 30 (F_t 19), ia g (Q_t 20) 174 (F_t 20), la g (Q_t 34) 8 (L_t 34), la g (Q_t 35) 8 (L_t 35)] [(0, .ref q_t), (3, .int x3), (4, .int v), (5, .int x5)] []) : WA p l e (rM 2 51) s m args below meth c g A Q 9 127 [oX10 q_t Q_t (F_t 0 0) (F_t 2 0) (F_t 3 0) (F_t 4 0) (F_t 5 0) (F_t 6 0) (F_t 7 0) (F_t 8 0) (F_t 9 0) (F_t 10 0) (F_t 11 0) (F_t 12 0) (F_t 15 0) (F_t 16 0) (F_t 17 0) (F_t 23 0) (F_t 27 0) (F_t 28 0) (F_t 30 0), ia g (Q_t 18) 16 (F_t 18), ia g (Q_t 19) 30 (F_t 19), ia g (Q_t 20) 174 (F_t 20), la g (Q_t 34) 8 (L_t 34), la g (Q_t 35) 8 (L_t 35)] [(0, .ref q_t), (3, .int x3), (5, .int x5), (6, .long x6), (8, .int x8)] [.int s0] := by
  obtain ⟨⟨hx, hb, hml, hown, hts⟩, hr, hK, hA, hlk⟩ := id E
  intro H locs ls hP hD hS hl
  refine lv_istore (lv' := [(4, .int s0), (0, .ref q_t), (3, .int x3), (5, .int x5), (6, .long x6), (8, .int x8)]) hx hb dX10_meet_127 hl (by decide) rfl (fun ls hl => ?_)
  refine lv_iinc (v := (x8 + (-1 : Int32))) (lv' := [(8, .int (x8 + (-1 : Int32))), (4, .int s0), (0, .ref q_t), (3, .int x3), (5, .int x5), (6, .long x6)]) hx hb dX10_meet_129 hl (k := 5) rfl rfl (by decide) rfl (fun ls hl => ?_)
  refine lv_goto (tgt := 91) hx hb dX10_meet_132 (by decide) ?_
  obtain rfl := Option.some.inj h
  exact hc _ rfl H locs ls hP hD hS (lv_sub hl [2, 3, 1, 4, 5, 0] rfl)
def x_X10_meet_b91_k125 (N : Nat) (F_t : St) (L_t : SL) (x3 : Int32) (x4 : Int32) (x5 : Int32) (x6 : Int64) (x8 : Int32) : Option ((Int32 × Int32) ⊕ (Int32)) :=
  x_X10_meet_b91_k127 N F_t L_t x3 x5 x6 x8 x4
set_option maxHeartbeats 4000000 in
set_option maxRecDepth 100000 in
theorem t_X10_meet_b91_k125 {p : Program} {l : Launch} {e : Env} {s : State} {m : MethodId} {args : Array Value} {below : List Frame} {meth : Method} {c : Code} {g : gG} {A : Nat → Prop} {Q : State → Prop} (E : En p s m args meth c g A cX10_meet 9 (.code yX10_meet cX10_meet 9 (some .int) :: gW) RX10 (some .int)) (q_t : Nat) (Q_t : Ad) (N : Nat) (F_t : St) (L_t : SL) (x3 : Int32) (x4 : Int32) (x5 : Int32) (x6 : Int64) (x8 : Int32) (o : (Int32 × Int32) ⊕ (Int32)) (h : x_X10_meet_b91_k125 N F_t L_t x3 x4 x5 x6 x8 = some o) (hc : ∀ z, o = .inl z → WA p l e (rM 2 51) s m args below meth c g A Q 9 91 [oX10 q_t Q_t (F_t 0 0) (F_t 2 0) (F_t 3 0) (F_t 4 0) (F_t 5 0) (F_t 6 0) (F_t 7 0) (F_t 8 0) (F_t 9 0) (F_t 10 0) (F_t 11 0) (F_t 12 0) (F_t 15 0) (F_t 16 0) (F_t 17 0) (F_t 23 0) (F_t 27 0) (F_t 28 0) (F_t 30 0), ia g (Q_t 18) 16 (F_t 18), ia g (Q_t 19) 30 (F_t 19), ia g (Q_t 20) 174 (F_t 20), la g (Q_t 34) 8 (L_t 34), la g (Q_t 35) 8 (L_t 35)] [(0, .ref q_t), (3, .int x3), (4, .int z.1), (5, .int x5), (6, .long x6), (8, .int z.2)] []) (he : ∀ v, o = .inr v → WA p l e (rM 2 51) s m args below meth c g A Q 9 135 [oX10 q_t Q_t (F_t 0 0) (F_t 2 0) (F_t 3 0) (F_t 4 0) (F_t 5 0) (F_t 6 0) (F_t 7 0) (F_t 8 0) (F_t 9 0) (F_t 10 0) (F_t 11 0) (F_t 12 0) (F_t 15 0) (F_t 16 0) (F_t 17 0) (F_t 23 0) (F_t 27 0) (F_t 28 0) (F_t 30 0), ia g (Q_t 18) 16 (F_t 18), ia g (Q_t 19) 30 (F_t 19), ia g (Q_t 20) 174 (F_t 20), la g (Q_t 34) 8 (L_t 34), la g (Q_t 35) 8 (L_t 35)] [(0, .ref q_t), (3, .int x3), (4, .int v), (5, .int x5)] []) : WA p l e (rM 2 51) s m args below meth c g A Q 9 125 [oX10 q_t Q_t (F_t 0 0) (F_t 2 0) (F_t 3 0) (F_t 4 0) (F_t 5 0) (F_t 6 0) (F_t 7 0) (F_t 8 0) (F_t 9 0) (F_t 10 0) (F_t 11 0) (F_t 12 0) (F_t 15 0) (F_t 16 0) (F_t 17 0) (F_t 23 0) (F_t 27 0) (F_t 28 0) (F_t 30 0), ia g (Q_t 18) 16 (F_t 18), ia g (Q_t 19) 30 (F_t 19), ia g (Q_t 20) 174 (F_t 20), la g (Q_t 34) 8 (L_t 34), la g (Q_t 35) 8 (L_t 35)] [(0, .ref q_t), (3, .int x3), (4, .int x4), (5, .int x5), (6, .long x6), (8, .int x8)] [] := by
  obtain ⟨⟨hx, hb, hml, hown, hts⟩, hr, hK, hA, hlk⟩ := id E
  intro H locs ls hP hD hS hl
  refine lv_iload hx hb dX10_meet_125 (lv_at hl 2 rfl) ?_
  exact t_X10_meet_b91_k127 E q_t Q_t N F_t L_t x3 x5 x6 x8 x4 _ h hc he H locs ls hP hD hS (lv_sub hl [0, 1, 3, 4, 5] rfl)
def x_X10_meet_b91_k120 (N : Nat) (F_t : St) (L_t : SL) (x3 : Int32) (x5 : Int32) (x6 : Int64) (x8 : Int32) : Option ((Int32 × Int32) ⊕ (Int32)) :=
  x_X10_meet_b91_k127 N F_t L_t x3 x5 x6 x8 x8
set_option maxHeartbeats 4000000 in
set_option maxRecDepth 100000 in
theorem t_X10_meet_b91_k120 {p : Program} {l : Launch} {e : Env} {s : State} {m : MethodId} {args : Array Value} {below : List Frame} {meth : Method} {c : Code} {g : gG} {A : Nat → Prop} {Q : State → Prop} (E : En p s m args meth c g A cX10_meet 9 (.code yX10_meet cX10_meet 9 (some .int) :: gW) RX10 (some .int)) (q_t : Nat) (Q_t : Ad) (N : Nat) (F_t : St) (L_t : SL) (x3 : Int32) (x5 : Int32) (x6 : Int64) (x8 : Int32) (o : (Int32 × Int32) ⊕ (Int32)) (h : x_X10_meet_b91_k120 N F_t L_t x3 x5 x6 x8 = some o) (hc : ∀ z, o = .inl z → WA p l e (rM 2 51) s m args below meth c g A Q 9 91 [oX10 q_t Q_t (F_t 0 0) (F_t 2 0) (F_t 3 0) (F_t 4 0) (F_t 5 0) (F_t 6 0) (F_t 7 0) (F_t 8 0) (F_t 9 0) (F_t 10 0) (F_t 11 0) (F_t 12 0) (F_t 15 0) (F_t 16 0) (F_t 17 0) (F_t 23 0) (F_t 27 0) (F_t 28 0) (F_t 30 0), ia g (Q_t 18) 16 (F_t 18), ia g (Q_t 19) 30 (F_t 19), ia g (Q_t 20) 174 (F_t 20), la g (Q_t 34) 8 (L_t 34), la g (Q_t 35) 8 (L_t 35)] [(0, .ref q_t), (3, .int x3), (4, .int z.1), (5, .int x5), (6, .long x6), (8, .int z.2)] []) (he : ∀ v, o = .inr v → WA p l e (rM 2 51) s m args below meth c g A Q 9 135 [oX10 q_t Q_t (F_t 0 0) (F_t 2 0) (F_t 3 0) (F_t 4 0) (F_t 5 0) (F_t 6 0) (F_t 7 0) (F_t 8 0) (F_t 9 0) (F_t 10 0) (F_t 11 0) (F_t 12 0) (F_t 15 0) (F_t 16 0) (F_t 17 0) (F_t 23 0) (F_t 27 0) (F_t 28 0) (F_t 30 0), ia g (Q_t 18) 16 (F_t 18), ia g (Q_t 19) 30 (F_t 19), ia g (Q_t 20) 174 (F_t 20), la g (Q_t 34) 8 (L_t 34), la g (Q_t 35) 8 (L_t 35)] [(0, .ref q_t), (3, .int x3), (4, .int v), (5, .int x5)] []) : WA p l e (rM 2 51) s m args below meth c g A Q 9 120 [oX10 q_t Q_t (F_t 0 0) (F_t 2 0) (F_t 3 0) (F_t 4 0) (F_t 5 0) (F_t 6 0) (F_t 7 0) (F_t 8 0) (F_t 9 0) (F_t 10 0) (F_t 11 0) (F_t 12 0) (F_t 15 0) (F_t 16 0) (F_t 17 0) (F_t 23 0) (F_t 27 0) (F_t 28 0) (F_t 30 0), ia g (Q_t 18) 16 (F_t 18), ia g (Q_t 19) 30 (F_t 19), ia g (Q_t 20) 174 (F_t 20), la g (Q_t 34) 8 (L_t 34), la g (Q_t 35) 8 (L_t 35)] [(0, .ref q_t), (3, .int x3), (5, .int x5), (6, .long x6), (8, .int x8)] [] := by
  obtain ⟨⟨hx, hb, hml, hown, hts⟩, hr, hK, hA, hlk⟩ := id E
  intro H locs ls hP hD hS hl
  refine lv_iload hx hb dX10_meet_120 (lv_at hl 4 rfl) ?_
  refine lv_goto (tgt := 127) hx hb dX10_meet_122 (by decide) ?_
  exact t_X10_meet_b91_k127 E q_t Q_t N F_t L_t x3 x5 x6 x8 x8 _ h hc he H locs ls hP hD hS hl
def x_X10_meet_b91 (N : Nat) (F_t : St) (L_t : SL) (x3 : Int32) (x4 : Int32) (x5 : Int32) (x6 : Int64) (x8 : Int32) : Option ((Int32 × Int32) ⊕ (Int32)) :=
  if x8 < 0 then (some (.inr x4)) else (if (lg_cmp ((x6 >>> (x8.toInt64 &&& 63)) &&& (1 : Int64)) (1 : Int64)) = 0 then (if x4 < 0 then (x_X10_meet_b91_k120 N F_t L_t x3 x5 x6 x8) else (if x4 ≤ x8 then (x_X10_meet_b91_k125 N F_t L_t x3 x4 x5 x6 x8) else (x_X10_meet_b91_k120 N F_t L_t x3 x5 x6 x8))) else (x_X10_meet_b91_k125 N F_t L_t x3 x4 x5 x6 x8))
set_option maxHeartbeats 4000000 in
set_option maxRecDepth 100000 in
theorem t_X10_meet_b91 {p : Program} {l : Launch} {e : Env} {s : State} {m : MethodId} {args : Array Value} {below : List Frame} {meth : Method} {c : Code} {g : gG} {A : Nat → Prop} {Q : State → Prop} (E : En p s m args meth c g A cX10_meet 9 (.code yX10_meet cX10_meet 9 (some .int) :: gW) RX10 (some .int)) (q_t : Nat) (Q_t : Ad) (N : Nat) (F_t : St) (L_t : SL) (x3 : Int32) (x4 : Int32) (x5 : Int32) (x6 : Int64) (x8 : Int32) (o : (Int32 × Int32) ⊕ (Int32)) (h : x_X10_meet_b91 N F_t L_t x3 x4 x5 x6 x8 = some o) (hc : ∀ z, o = .inl z → WA p l e (rM 2 51) s m args below meth c g A Q 9 91 [oX10 q_t Q_t (F_t 0 0) (F_t 2 0) (F_t 3 0) (F_t 4 0) (F_t 5 0) (F_t 6 0) (F_t 7 0) (F_t 8 0) (F_t 9 0) (F_t 10 0) (F_t 11 0) (F_t 12 0) (F_t 15 0) (F_t 16 0) (F_t 17 0) (F_t 23 0) (F_t 27 0) (F_t 28 0) (F_t 30 0), ia g (Q_t 18) 16 (F_t 18), ia g (Q_t 19) 30 (F_t 19), ia g (Q_t 20) 174 (F_t 20), la g (Q_t 34) 8 (L_t 34), la g (Q_t 35) 8 (L_t 35)] [(0, .ref q_t), (3, .int x3), (4, .int z.1), (5, .int x5), (6, .long x6), (8, .int z.2)] []) (he : ∀ v, o = .inr v → WA p l e (rM 2 51) s m args below meth c g A Q 9 135 [oX10 q_t Q_t (F_t 0 0) (F_t 2 0) (F_t 3 0) (F_t 4 0) (F_t 5 0) (F_t 6 0) (F_t 7 0) (F_t 8 0) (F_t 9 0) (F_t 10 0) (F_t 11 0) (F_t 12 0) (F_t 15 0) (F_t 16 0) (F_t 17 0) (F_t 23 0) (F_t 27 0) (F_t 28 0) (F_t 30 0), ia g (Q_t 18) 16 (F_t 18), ia g (Q_t 19) 30 (F_t 19), ia g (Q_t 20) 174 (F_t 20), la g (Q_t 34) 8 (L_t 34), la g (Q_t 35) 8 (L_t 35)] [(0, .ref q_t), (3, .int x3), (4, .int v), (5, .int x5)] []) : WA p l e (rM 2 51) s m args below meth c g A Q 9 91 [oX10 q_t Q_t (F_t 0 0) (F_t 2 0) (F_t 3 0) (F_t 4 0) (F_t 5 0) (F_t 6 0) (F_t 7 0) (F_t 8 0) (F_t 9 0) (F_t 10 0) (F_t 11 0) (F_t 12 0) (F_t 15 0) (F_t 16 0) (F_t 17 0) (F_t 23 0) (F_t 27 0) (F_t 28 0) (F_t 30 0), ia g (Q_t 18) 16 (F_t 18), ia g (Q_t 19) 30 (F_t 19), ia g (Q_t 20) 174 (F_t 20), la g (Q_t 34) 8 (L_t 34), la g (Q_t 35) 8 (L_t 35)] [(0, .ref q_t), (3, .int x3), (4, .int x4), (5, .int x5), (6, .long x6), (8, .int x8)] [] := by
  obtain ⟨⟨hx, hb, hml, hown, hts⟩, hr, hK, hA, hlk⟩ := id E
  intro H locs ls hP hD hS hl
  refine lv_iload hx hb dX10_meet_91 (lv_at hl 5 rfl) ?_
  refine lv_if_lt (tgt := 135) hx hb dX10_meet_93 (by decide) (fun c_14 => ?_) (fun c_14 => ?_)
  · have h := ox_t c_14 h
    obtain rfl := Option.some.inj h
    exact he _ rfl H locs ls hP hD hS (lv_sub hl [0, 1, 2, 3] rfl)
  · have h := ox_f c_14 h
    refine lv_lload hx hb dX10_meet_96 (lv_at hl 4 rfl) ?_
    refine lv_iload hx hb dX10_meet_98 (lv_at hl 5 rfl) ?_
    refine lv_lshr (v := (x6 >>> (x8.toInt64 &&& 63))) hx hb dX10_meet_100 rfl ?_
    refine lv_lconst (v := (1 : Int64)) hx hb dX10_meet_101 (by decide) ?_
    refine lv_land hx hb dX10_meet_102 ?_
    refine lv_lconst (v := (1 : Int64)) hx hb dX10_meet_103 (by decide) ?_
    refine W.lcmp hx hb dX10_meet_104 ?_
    refine lv_if_ne (tgt := 125) hx hb dX10_meet_105 (by decide) (fun c_15 => ?_) (fun c_15 => ?_)
    · have h := ox_f c_15 h
      exact t_X10_meet_b91_k125 E q_t Q_t N F_t L_t x3 x4 x5 x6 x8 _ h hc he H locs ls hP hD hS hl
    · have h := ox_t c_15 h
      refine lv_iload hx hb dX10_meet_108 (lv_at hl 2 rfl) ?_
      refine lv_if_lt (tgt := 120) hx hb dX10_meet_110 (by decide) (fun c_16 => ?_) (fun c_16 => ?_)
      · have h := ox_t c_16 h
        exact t_X10_meet_b91_k120 E q_t Q_t N F_t L_t x3 x5 x6 x8 _ h hc he H locs ls hP hD hS (lv_sub hl [0, 1, 3, 4, 5] rfl)
      · have h := ox_f c_16 h
        refine lv_iload hx hb dX10_meet_113 (lv_at hl 5 rfl) ?_
        refine lv_iload hx hb dX10_meet_115 (lv_at hl 2 rfl) ?_
        refine lv_icmp_ge (tgt := 125) hx hb dX10_meet_117 (by decide) (fun c_17 => ?_) (fun c_17 => ?_)
        · have h := ox_t c_17 h
          exact t_X10_meet_b91_k125 E q_t Q_t N F_t L_t x3 x4 x5 x6 x8 _ h hc he H locs ls hP hD hS hl
        · have h := ox_f c_17 h
          exact t_X10_meet_b91_k120 E q_t Q_t N F_t L_t x3 x5 x6 x8 _ h hc he H locs ls hP hD hS (lv_sub hl [0, 1, 3, 4, 5] rfl)
def x_X10_meet_b59 (N : Nat) (F_t : St) (L_t : SL) (x3 : Int32) (x4 : Int32) (x5 : Int32) : Option ((Int32 × Int32) ⊕ (Int32)) :=
  if (F_t 16 0) ≤ x5 then (some (.inr x4)) else (if x5 < 0 ∨ 8 ≤ x5.toNatClampNeg then none else if x5 < 0 ∨ 8 ≤ x5.toNatClampNeg then none else xl (((L_t 34) x5.toNatClampNeg) &&& (((L_t 35) x5.toNatClampNeg) <<< (x3.toInt64 &&& 63))) (fun y_13 => Option.bind (lpc (fun (z : Int32 × Int32) => x_X10_meet_b91 N F_t L_t x3 z.1 x5 y_13 z.2) N (x4, (60 : Int32))) (fun v_18 => some (.inl (v_18, (x5 + (1 : Int32)))))))
set_option maxHeartbeats 4000000 in
set_option maxRecDepth 100000 in
theorem t_X10_meet_b59 {p : Program} {l : Launch} {e : Env} {s : State} {m : MethodId} {args : Array Value} {below : List Frame} {meth : Method} {c : Code} {g : gG} {A : Nat → Prop} {Q : State → Prop} (E : En p s m args meth c g A cX10_meet 9 (.code yX10_meet cX10_meet 9 (some .int) :: gW) RX10 (some .int)) (q_t : Nat) (Q_t : Ad) (N : Nat) (F_t : St) (L_t : SL) (x3 : Int32) (x4 : Int32) (x5 : Int32) (o : (Int32 × Int32) ⊕ (Int32)) (h : x_X10_meet_b59 N F_t L_t x3 x4 x5 = some o) (hc : ∀ z, o = .inl z → WA p l e (rM 2 51) s m args below meth c g A Q 9 59 [oX10 q_t Q_t (F_t 0 0) (F_t 2 0) (F_t 3 0) (F_t 4 0) (F_t 5 0) (F_t 6 0) (F_t 7 0) (F_t 8 0) (F_t 9 0) (F_t 10 0) (F_t 11 0) (F_t 12 0) (F_t 15 0) (F_t 16 0) (F_t 17 0) (F_t 23 0) (F_t 27 0) (F_t 28 0) (F_t 30 0), ia g (Q_t 18) 16 (F_t 18), ia g (Q_t 19) 30 (F_t 19), ia g (Q_t 20) 174 (F_t 20), la g (Q_t 34) 8 (L_t 34), la g (Q_t 35) 8 (L_t 35)] [(0, .ref q_t), (3, .int x3), (4, .int z.1), (5, .int z.2)] []) (he : ∀ v, o = .inr v → WA p l e (rM 2 51) s m args below meth c g A Q 9 141 [oX10 q_t Q_t (F_t 0 0) (F_t 2 0) (F_t 3 0) (F_t 4 0) (F_t 5 0) (F_t 6 0) (F_t 7 0) (F_t 8 0) (F_t 9 0) (F_t 10 0) (F_t 11 0) (F_t 12 0) (F_t 15 0) (F_t 16 0) (F_t 17 0) (F_t 23 0) (F_t 27 0) (F_t 28 0) (F_t 30 0), ia g (Q_t 18) 16 (F_t 18), ia g (Q_t 19) 30 (F_t 19), ia g (Q_t 20) 174 (F_t 20), la g (Q_t 34) 8 (L_t 34), la g (Q_t 35) 8 (L_t 35)] [(4, .int v)] []) : WA p l e (rM 2 51) s m args below meth c g A Q 9 59 [oX10 q_t Q_t (F_t 0 0) (F_t 2 0) (F_t 3 0) (F_t 4 0) (F_t 5 0) (F_t 6 0) (F_t 7 0) (F_t 8 0) (F_t 9 0) (F_t 10 0) (F_t 11 0) (F_t 12 0) (F_t 15 0) (F_t 16 0) (F_t 17 0) (F_t 23 0) (F_t 27 0) (F_t 28 0) (F_t 30 0), ia g (Q_t 18) 16 (F_t 18), ia g (Q_t 19) 30 (F_t 19), ia g (Q_t 20) 174 (F_t 20), la g (Q_t 34) 8 (L_t 34), la g (Q_t 35) 8 (L_t 35)] [(0, .ref q_t), (3, .int x3), (4, .int x4), (5, .int x5)] [] := by
  obtain ⟨⟨hx, hb, hml, hown, hts⟩, hr, hK, hA, hlk⟩ := id E
  intro H locs ls hP hD hS hl
  refine lv_iload hx hb dX10_meet_59 (lv_at hl 3 rfl) ?_
  refine lv_aload_n hx hb dX10_meet_61 rfl (lv_at hl 0 rfl) ?_
  refine va_get (ci := 10) (v := .int (F_t 16 0)) (C := RX10) (T := TX10) (N := 38) hx hb hts (fun w h => .tail _ (u_inX10 w h)) hown hK.1 hP 0 rfl rfl 16 (by decide) (hts _ (.tail _ u_fl_X10_80)) (fun _ h9 => h9) rfl dX10_meet_62 ?_
  refine lv_icmp_ge (tgt := 141) hx hb dX10_meet_65 (by decide) (fun c_10 => ?_) (fun c_10 => ?_)
  · have h := ox_t c_10 h
    obtain rfl := Option.some.inj h
    exact he _ rfl H locs ls hP hD hS (lv_sub hl [2] rfl)
  · have h := ox_f c_10 h
    refine lv_aload_n hx hb dX10_meet_68 rfl (lv_at hl 0 rfl) ?_
    refine va_get (ci := 10) (v := .ref (Q_t 34)) (C := RX10) (T := TX10) (N := 38) hx hb hts (fun w h => .tail _ (u_inX10 w h)) hown hK.1 hP 0 rfl rfl 34 (by decide) (hts _ (.tail _ u_fl_X10_60)) (fun _ h9 => h9) rfl dX10_meet_69 ?_
    refine lv_iload hx hb dX10_meet_72 (lv_at hl 3 rfl) ?_
    obtain ⟨hi_11, h⟩ := ox_chk h
    refine va_lald hx hb hK.1 hP 4 1 rfl rfl hi_11 dX10_meet_74 ?_
    refine lv_aload_n hx hb dX10_meet_75 rfl (lv_at hl 0 rfl) ?_
    refine va_get (ci := 10) (v := .ref (Q_t 35)) (C := RX10) (T := TX10) (N := 38) hx hb hts (fun w h => .tail _ (u_inX10 w h)) hown hK.1 hP 0 rfl rfl 35 (by decide) (hts _ (.tail _ u_fl_X10_64)) (fun _ h9 => h9) rfl dX10_meet_76 ?_
    refine lv_iload hx hb dX10_meet_79 (lv_at hl 3 rfl) ?_
    obtain ⟨hi_12, h⟩ := ox_chk h
    refine va_lald hx hb hK.1 hP 5 1 rfl rfl hi_12 dX10_meet_81 ?_
    refine lv_iload_n hx hb dX10_meet_82 rfl (lv_at hl 1 rfl) ?_
    refine lv_lshl (v := (((L_t 35) x5.toNatClampNeg) <<< (x3.toInt64 &&& 63))) hx hb dX10_meet_83 rfl ?_
    refine lv_land hx hb dX10_meet_84 ?_
    refine lv_topl (fun y_13 ey_13 => ?_)
    have h := xl_at ey_13 h
    refine lv_lstore (lv' := [(6, .long y_13), (0, .ref q_t), (3, .int x3), (4, .int x4), (5, .int x5)]) hx hb dX10_meet_85 hl (by decide) rfl (fun ls hl => ?_)
    refine lv_bipush (v := (60 : Int32)) hx hb dX10_meet_87 (by decide) ?_
    refine lv_istore (lv' := [(8, .int (60 : Int32)), (6, .long y_13), (0, .ref q_t), (3, .int x3), (4, .int x4), (5, .int x5)]) hx hb dX10_meet_89 hl (by decide) rfl (fun ls hl => ?_)
    obtain ⟨v_18, hv_18, h⟩ := ox_bind h
    refine lpc_W (Wh := fun (z : Int32 × Int32) => WA p l e (rM 2 51) s m args below meth c g A Q 9 91 [oX10 q_t Q_t (F_t 0 0) (F_t 2 0) (F_t 3 0) (F_t 4 0) (F_t 5 0) (F_t 6 0) (F_t 7 0) (F_t 8 0) (F_t 9 0) (F_t 10 0) (F_t 11 0) (F_t 12 0) (F_t 15 0) (F_t 16 0) (F_t 17 0) (F_t 23 0) (F_t 27 0) (F_t 28 0) (F_t 30 0), ia g (Q_t 18) 16 (F_t 18), ia g (Q_t 19) 30 (F_t 19), ia g (Q_t 20) 174 (F_t 20), la g (Q_t 34) 8 (L_t 34), la g (Q_t 35) 8 (L_t 35)] [(0, .ref q_t), (3, .int x3), (4, .int z.1), (5, .int x5), (6, .long y_13), (8, .int z.2)] []) (We := fun (v : Int32) => WA p l e (rM 2 51) s m args below meth c g A Q 9 135 [oX10 q_t Q_t (F_t 0 0) (F_t 2 0) (F_t 3 0) (F_t 4 0) (F_t 5 0) (F_t 6 0) (F_t 7 0) (F_t 8 0) (F_t 9 0) (F_t 10 0) (F_t 11 0) (F_t 12 0) (F_t 15 0) (F_t 16 0) (F_t 17 0) (F_t 23 0) (F_t 27 0) (F_t 28 0) (F_t 30 0), ia g (Q_t 18) 16 (F_t 18), ia g (Q_t 19) 30 (F_t 19), ia g (Q_t 20) 174 (F_t 20), la g (Q_t 34) 8 (L_t 34), la g (Q_t 35) 8 (L_t 35)] [(0, .ref q_t), (3, .int x3), (4, .int v), (5, .int x5)] []) (fun z r hb hc he => t_X10_meet_b91 E q_t Q_t N F_t L_t x3 z.1 x5 y_13 z.2 r hb hc he) N (x4, (60 : Int32)) v_18 hv_18 ?_ H locs ls hP hD hS (lv_sub hl [2, 3, 4, 5, 1, 0] rfl)
    intro H locs ls hP hD hS hl
    refine lv_iinc (v := (x5 + (1 : Int32))) (lv' := [(5, .int (x5 + (1 : Int32))), (0, .ref q_t), (3, .int x3), (4, .int v_18)]) hx hb dX10_meet_135 hl (k := 3) rfl rfl (by decide) rfl (fun ls hl => ?_)
    refine lv_goto (tgt := 59) hx hb dX10_meet_138 (by decide) ?_
    obtain rfl := Option.some.inj h
    exact hc _ rfl H locs ls hP hD hS (lv_sub hl [1, 2, 3, 0] rfl)
def x_X10_meet (N : Nat) (F_t : St) (L_t : SL) (x1 : Int32) (x2 : Int32) (x3 : Int32) : Option (Int32 × (Nat → Int64) × (Nat → Int64)) :=
  Option.bind (x_X10_isSaying x1) (fun v_1 => if v_1 = 0 then (some ((-1000000001 : Int32), (L_t 34), (L_t 35))) else (Option.bind (x_X10_isSaying x2) (fun v_3 => if v_3 = 0 then (some ((-1000000001 : Int32), (L_t 34), (L_t 35))) else (if x1 = x2 then (some ((-1000000001 : Int32), (L_t 34), (L_t 35))) else (Option.bind (x_X10_in x3 (0 : Int32) (30 : Int32)) (fun v_6 => if v_6 = 0 then (some ((-1000000002 : Int32), (L_t 34), (L_t 35))) else (Option.bind (x_X10_layHours N F_t (L_t 34) x1) (fun v_8 => Option.bind (x_X10_layHours N F_t (L_t 35) x2) (fun v_9 => Option.bind (lpc (fun (z : Int32 × Int32) => x_X10_meet_b59 N F_t (va_up (va_up L_t 34 v_8) 35 v_9) x3 z.1 z.2) N ((-1 : Int32), (0 : Int32))) (fun v_19 => some (v_19, v_8, v_9)))))))))))
set_option maxHeartbeats 4000000 in
set_option maxRecDepth 100000 in
theorem t_X10_meet {p : Program} {l : Launch} {e : Env} {s : State} {m : MethodId} {args : Array Value} {below : List Frame} {meth : Method} {c : Code} {g : gG} {A : Nat → Prop} (E : En p s m args meth c g A cX10_meet 9 (.code yX10_meet cX10_meet 9 (some .int) :: gW) RX10 (some .int)) (q_t : Nat) (Q_t : Ad) (N : Nat) (F_t : St) (L_t : SL) (x1 : Int32) (x2 : Int32) (x3 : Int32) (o : Int32 × (Nat → Int64) × (Nat → Int64)) (h : x_X10_meet N F_t L_t x1 x2 x3 = some o) : WA p l e (rM 2 51) s m args below meth c g A (MQ below (QI g A o.1 [oX10 q_t Q_t (F_t 0 0) (F_t 2 0) (F_t 3 0) (F_t 4 0) (F_t 5 0) (F_t 6 0) (F_t 7 0) (F_t 8 0) (F_t 9 0) (F_t 10 0) (F_t 11 0) (F_t 12 0) (F_t 15 0) (F_t 16 0) (F_t 17 0) (F_t 23 0) (F_t 27 0) (F_t 28 0) (F_t 30 0), ia g (Q_t 18) 16 (F_t 18), ia g (Q_t 19) 30 (F_t 19), ia g (Q_t 20) 174 (F_t 20), la g (Q_t 34) 8 o.2.1, la g (Q_t 35) 8 o.2.2]) args s 0 0 A) 9 0 [oX10 q_t Q_t (F_t 0 0) (F_t 2 0) (F_t 3 0) (F_t 4 0) (F_t 5 0) (F_t 6 0) (F_t 7 0) (F_t 8 0) (F_t 9 0) (F_t 10 0) (F_t 11 0) (F_t 12 0) (F_t 15 0) (F_t 16 0) (F_t 17 0) (F_t 23 0) (F_t 27 0) (F_t 28 0) (F_t 30 0), ia g (Q_t 18) 16 (F_t 18), ia g (Q_t 19) 30 (F_t 19), ia g (Q_t 20) 174 (F_t 20), la g (Q_t 34) 8 (L_t 34), la g (Q_t 35) 8 (L_t 35)] [(0, .ref q_t), (1, .int x1), (2, .int x2), (3, .int x3)] [] := by
  obtain ⟨⟨hx, hb, hml, hown, hts⟩, hr, hK, hA, hlk⟩ := id E
  intro H locs ls hP hD hS hl
  refine lv_iload_n hx hb dX10_meet_0 rfl (lv_at hl 1 rfl) ?_
  obtain ⟨v_1, hv_1, h⟩ := ox_bind h
  refine kSi ⟨hx, hb, hml, hown, hts⟩ (c_X10_isSaying l g x1 v_1 hv_1 H.size) (gS u_ml_X10_187 u_st_X10_isSaying u_ini_X10 u_co_X10_isSaying) hd_X10_isSaying ⟨rfl, rfl⟩ hK hP hD hS hA [] [0, 1, 2, 3, 4, 5] rfl rfl 0 rfl (w2 := [oX10 q_t Q_t (F_t 0 0) (F_t 2 0) (F_t 3 0) (F_t 4 0) (F_t 5 0) (F_t 6 0) (F_t 7 0) (F_t 8 0) (F_t 9 0) (F_t 10 0) (F_t 11 0) (F_t 12 0) (F_t 15 0) (F_t 16 0) (F_t 17 0) (F_t 23 0) (F_t 27 0) (F_t 28 0) (F_t 30 0), ia g (Q_t 18) 16 (F_t 18), ia g (Q_t 19) 30 (F_t 19), ia g (Q_t 20) 174 (F_t 20), la g (Q_t 34) 8 (L_t 34), la g (Q_t 35) 8 (L_t 35)]) rfl rfl (As := [.int x1]) (rest := []) rfl hl.1 rfl rfl dX10_meet_1 (fun H locs hP hD hS => ?_)
  refine lv_if_eq (tgt := 19) hx hb dX10_meet_4 (by decide) (fun c_2 => ?_) (fun c_2 => ?_)
  · have h := ox_t c_2 h
    refine lv_ldc (v := (-1000000001 : Int32)) hx hb hown (hts _ (.tail _ u_k_X10_183)) dX10_meet_19 ?_
    obtain rfl := Option.some.inj h
    exact k_iret hx hb hr hlk hP hD hS dX10_meet_21
  · have h := ox_f c_2 h
    refine lv_iload_n hx hb dX10_meet_7 rfl (lv_at hl 2 rfl) ?_
    obtain ⟨v_3, hv_3, h⟩ := ox_bind h
    refine kSi ⟨hx, hb, hml, hown, hts⟩ (c_X10_isSaying l g x2 v_3 hv_3 H.size) (gS u_ml_X10_187 u_st_X10_isSaying u_ini_X10 u_co_X10_isSaying) hd_X10_isSaying ⟨rfl, rfl⟩ hK hP hD hS hA [] [0, 1, 2, 3, 4, 5] rfl rfl 0 rfl (w2 := [oX10 q_t Q_t (F_t 0 0) (F_t 2 0) (F_t 3 0) (F_t 4 0) (F_t 5 0) (F_t 6 0) (F_t 7 0) (F_t 8 0) (F_t 9 0) (F_t 10 0) (F_t 11 0) (F_t 12 0) (F_t 15 0) (F_t 16 0) (F_t 17 0) (F_t 23 0) (F_t 27 0) (F_t 28 0) (F_t 30 0), ia g (Q_t 18) 16 (F_t 18), ia g (Q_t 19) 30 (F_t 19), ia g (Q_t 20) 174 (F_t 20), la g (Q_t 34) 8 (L_t 34), la g (Q_t 35) 8 (L_t 35)]) rfl rfl (As := [.int x2]) (rest := []) rfl hl.1 rfl rfl dX10_meet_8 (fun H locs hP hD hS => ?_)
    refine lv_if_eq (tgt := 19) hx hb dX10_meet_11 (by decide) (fun c_4 => ?_) (fun c_4 => ?_)
    · have h := ox_t c_4 h
      refine lv_ldc (v := (-1000000001 : Int32)) hx hb hown (hts _ (.tail _ u_k_X10_183)) dX10_meet_19 ?_
      obtain rfl := Option.some.inj h
      exact k_iret hx hb hr hlk hP hD hS dX10_meet_21
    · have h := ox_f c_4 h
      refine lv_iload_n hx hb dX10_meet_14 rfl (lv_at hl 1 rfl) ?_
      refine lv_iload_n hx hb dX10_meet_15 rfl (lv_at hl 2 rfl) ?_
      refine lv_icmp_ne (tgt := 22) hx hb dX10_meet_16 (by decide) (fun c_5 => ?_) (fun c_5 => ?_)
      · have h := ox_f c_5 h
        refine lv_iload_n hx hb dX10_meet_22 rfl (lv_at hl 3 rfl) ?_
        refine lv_iconst (v := (0 : Int32)) hx hb dX10_meet_23 (by decide) ?_
        refine lv_bipush (v := (30 : Int32)) hx hb dX10_meet_24 (by decide) ?_
        obtain ⟨v_6, hv_6, h⟩ := ox_bind h
        refine kSi ⟨hx, hb, hml, hown, hts⟩ (c_X10_in l g x3 (0 : Int32) (30 : Int32) v_6 hv_6 H.size) (gS u_ml_X10_83 u_st_X10_in u_ini_X10 u_co_X10_in) hd_X10_in ⟨rfl, rfl⟩ hK hP hD hS hA [] [0, 1, 2, 3, 4, 5] rfl rfl 0 rfl (w2 := [oX10 q_t Q_t (F_t 0 0) (F_t 2 0) (F_t 3 0) (F_t 4 0) (F_t 5 0) (F_t 6 0) (F_t 7 0) (F_t 8 0) (F_t 9 0) (F_t 10 0) (F_t 11 0) (F_t 12 0) (F_t 15 0) (F_t 16 0) (F_t 17 0) (F_t 23 0) (F_t 27 0) (F_t 28 0) (F_t 30 0), ia g (Q_t 18) 16 (F_t 18), ia g (Q_t 19) 30 (F_t 19), ia g (Q_t 20) 174 (F_t 20), la g (Q_t 34) 8 (L_t 34), la g (Q_t 35) 8 (L_t 35)]) rfl rfl (As := [.int x3, .int (0 : Int32), .int (30 : Int32)]) (rest := []) rfl hl.1 rfl rfl dX10_meet_26 (fun H locs hP hD hS => ?_)
        refine lv_if_ne (tgt := 35) hx hb dX10_meet_29 (by decide) (fun c_7 => ?_) (fun c_7 => ?_)
        · have h := ox_f c_7 h
          refine lv_aload_n hx hb dX10_meet_35 rfl (lv_at hl 0 rfl) ?_
          refine lv_iload_n hx hb dX10_meet_36 rfl (lv_at hl 1 rfl) ?_
          refine lv_aload_n hx hb dX10_meet_37 rfl (lv_at hl 0 rfl) ?_
          refine va_get (ci := 10) (v := .ref (Q_t 34)) (C := RX10) (T := TX10) (N := 38) hx hb hts (fun w h => .tail _ (u_inX10 w h)) hown hK.1 hP 0 rfl rfl 34 (by decide) (hts _ (.tail _ u_fl_X10_60)) (fun _ h9 => h9) rfl dX10_meet_38 ?_
          obtain ⟨v_8, hv_8, h⟩ := ox_bind h
          refine kVv ⟨hx, hb, hml, hown, hts⟩ (c_X10_layHours l g q_t Q_t (Q_t 34) N F_t (L_t 34) x1 v_8 hv_8 H.size) (gV u_ml_X10_235 u_im_X10_layHours u_se_X10_layHours u_ini_X10 u_co_X10_layHours) hd_X10_layHours ⟨rfl, rfl⟩ hK hP hD hS hA 0 10 rfl rfl [0, 1, 2, 3, 4] [0, 1, 2, 3, 4, 10] rfl rfl 5 rfl (w2 := [oX10 q_t Q_t (F_t 0 0) (F_t 2 0) (F_t 3 0) (F_t 4 0) (F_t 5 0) (F_t 6 0) (F_t 7 0) (F_t 8 0) (F_t 9 0) (F_t 10 0) (F_t 11 0) (F_t 12 0) (F_t 15 0) (F_t 16 0) (F_t 17 0) (F_t 23 0) (F_t 27 0) (F_t 28 0) (F_t 30 0), ia g (Q_t 18) 16 (F_t 18), ia g (Q_t 19) 30 (F_t 19), ia g (Q_t 20) 174 (F_t 20), la g (Q_t 34) 8 v_8, la g (Q_t 35) 8 (L_t 35)]) rfl rfl (As := [.int x1, .ref (Q_t 34)]) (rest := []) rfl hl.1 rfl rfl dX10_meet_41 (fun H locs hP hD hS => ?_)
          refine lv_aload_n hx hb dX10_meet_44 rfl (lv_at hl 0 rfl) ?_
          refine lv_iload_n hx hb dX10_meet_45 rfl (lv_at hl 2 rfl) ?_
          refine lv_aload_n hx hb dX10_meet_46 rfl (lv_at hl 0 rfl) ?_
          refine va_get (ci := 10) (v := .ref (Q_t 35)) (C := RX10) (T := TX10) (N := 38) hx hb hts (fun w h => .tail _ (u_inX10 w h)) hown hK.1 hP 0 rfl rfl 35 (by decide) (hts _ (.tail _ u_fl_X10_64)) (fun _ h9 => h9) rfl dX10_meet_47 ?_
          obtain ⟨v_9, hv_9, h⟩ := ox_bind h
          refine kVv ⟨hx, hb, hml, hown, hts⟩ (c_X10_layHours l g q_t Q_t (Q_t 35) N F_t (L_t 35) x2 v_9 hv_9 H.size) (gV u_ml_X10_235 u_im_X10_layHours u_se_X10_layHours u_ini_X10 u_co_X10_layHours) hd_X10_layHours ⟨rfl, rfl⟩ hK hP hD hS hA 0 10 rfl rfl [0, 1, 2, 3, 5] [0, 1, 2, 3, 9, 4] rfl rfl 5 rfl (w2 := [oX10 q_t Q_t (F_t 0 0) (F_t 2 0) (F_t 3 0) (F_t 4 0) (F_t 5 0) (F_t 6 0) (F_t 7 0) (F_t 8 0) (F_t 9 0) (F_t 10 0) (F_t 11 0) (F_t 12 0) (F_t 15 0) (F_t 16 0) (F_t 17 0) (F_t 23 0) (F_t 27 0) (F_t 28 0) (F_t 30 0), ia g (Q_t 18) 16 (F_t 18), ia g (Q_t 19) 30 (F_t 19), ia g (Q_t 20) 174 (F_t 20), la g (Q_t 34) 8 v_8, la g (Q_t 35) 8 v_9]) rfl rfl (As := [.int x2, .ref (Q_t 35)]) (rest := []) rfl hl.1 rfl rfl dX10_meet_50 (fun H locs hP hD hS => ?_)
          refine lv_iconst (v := (-1 : Int32)) hx hb dX10_meet_53 (by decide) ?_
          refine lv_istore (lv' := [(4, .int (-1 : Int32)), (0, .ref q_t), (1, .int x1), (2, .int x2), (3, .int x3)]) hx hb dX10_meet_54 hl (by decide) rfl (fun ls hl => ?_)
          refine lv_iconst (v := (0 : Int32)) hx hb dX10_meet_56 (by decide) ?_
          refine lv_istore (lv' := [(5, .int (0 : Int32)), (4, .int (-1 : Int32)), (0, .ref q_t), (1, .int x1), (2, .int x2), (3, .int x3)]) hx hb dX10_meet_57 hl (by decide) rfl (fun ls hl => ?_)
          obtain ⟨v_19, hv_19, h⟩ := ox_bind h
          refine lpc_W (Wh := fun (z : Int32 × Int32) => WA p l e (rM 2 51) s m args below meth c g A (MQ below (QI g A o.1 [oX10 q_t Q_t (F_t 0 0) (F_t 2 0) (F_t 3 0) (F_t 4 0) (F_t 5 0) (F_t 6 0) (F_t 7 0) (F_t 8 0) (F_t 9 0) (F_t 10 0) (F_t 11 0) (F_t 12 0) (F_t 15 0) (F_t 16 0) (F_t 17 0) (F_t 23 0) (F_t 27 0) (F_t 28 0) (F_t 30 0), ia g (Q_t 18) 16 (F_t 18), ia g (Q_t 19) 30 (F_t 19), ia g (Q_t 20) 174 (F_t 20), la g (Q_t 34) 8 o.2.1, la g (Q_t 35) 8 o.2.2]) args s 0 0 A) 9 59 [oX10 q_t Q_t (F_t 0 0) (F_t 2 0) (F_t 3 0) (F_t 4 0) (F_t 5 0) (F_t 6 0) (F_t 7 0) (F_t 8 0) (F_t 9 0) (F_t 10 0) (F_t 11 0) (F_t 12 0) (F_t 15 0) (F_t 16 0) (F_t 17 0) (F_t 23 0) (F_t 27 0) (F_t 28 0) (F_t 30 0), ia g (Q_t 18) 16 (F_t 18), ia g (Q_t 19) 30 (F_t 19), ia g (Q_t 20) 174 (F_t 20), la g (Q_t 34) 8 v_8, la g (Q_t 35) 8 v_9] [(0, .ref q_t), (3, .int x3), (4, .int z.1), (5, .int z.2)] []) (We := fun (v : Int32) => WA p l e (rM 2 51) s m args below meth c g A (MQ below (QI g A o.1 [oX10 q_t Q_t (F_t 0 0) (F_t 2 0) (F_t 3 0) (F_t 4 0) (F_t 5 0) (F_t 6 0) (F_t 7 0) (F_t 8 0) (F_t 9 0) (F_t 10 0) (F_t 11 0) (F_t 12 0) (F_t 15 0) (F_t 16 0) (F_t 17 0) (F_t 23 0) (F_t 27 0) (F_t 28 0) (F_t 30 0), ia g (Q_t 18) 16 (F_t 18), ia g (Q_t 19) 30 (F_t 19), ia g (Q_t 20) 174 (F_t 20), la g (Q_t 34) 8 o.2.1, la g (Q_t 35) 8 o.2.2]) args s 0 0 A) 9 141 [oX10 q_t Q_t (F_t 0 0) (F_t 2 0) (F_t 3 0) (F_t 4 0) (F_t 5 0) (F_t 6 0) (F_t 7 0) (F_t 8 0) (F_t 9 0) (F_t 10 0) (F_t 11 0) (F_t 12 0) (F_t 15 0) (F_t 16 0) (F_t 17 0) (F_t 23 0) (F_t 27 0) (F_t 28 0) (F_t 30 0), ia g (Q_t 18) 16 (F_t 18), ia g (Q_t 19) 30 (F_t 19), ia g (Q_t 20) 174 (F_t 20), la g (Q_t 34) 8 v_8, la g (Q_t 35) 8 v_9] [(4, .int v)] []) (fun z r hb hc he => t_X10_meet_b59 E q_t Q_t N F_t (va_up (va_up L_t 34 v_8) 35 v_9) x3 z.1 z.2 r hb hc he) N ((-1 : Int32), (0 : Int32)) v_19 hv_19 ?_ H locs ls hP hD hS (lv_sub hl [2, 5, 1, 0] rfl)
          intro H locs ls hP hD hS hl
          refine lv_iload hx hb dX10_meet_141 (lv_at hl 0 rfl) ?_
          obtain rfl := Option.some.inj h
          exact k_iret hx hb hr hlk hP hD hS dX10_meet_143
        · have h := ox_t c_7 h
          refine lv_ldc (v := (-1000000002 : Int32)) hx hb hown (hts _ (.tail _ u_k_X10_90)) dX10_meet_32 ?_
          obtain rfl := Option.some.inj h
          exact k_iret hx hb hr hlk hP hD hS dX10_meet_34
      · have h := ox_t c_5 h
        refine lv_ldc (v := (-1000000001 : Int32)) hx hb hown (hts _ (.tail _ u_k_X10_183)) dX10_meet_19 ?_
        obtain rfl := Option.some.inj h
        exact k_iret hx hb hr hlk hP hD hS dX10_meet_21
set_option maxRecDepth 100000 in
theorem c_X10_meet (l : Launch) (g : gG) (q_t : Nat) (Q_t : Ad) (N : Nat) (F_t : St) (L_t : SL) (x1 : Int32) (x2 : Int32) (x3 : Int32) (o : Int32 × (Nat → Int64) × (Nat → Int64)) (h : x_X10_meet N F_t L_t x1 x2 x3 = some o) (sz : Nat) : MetI l yX10_meet (.code yX10_meet cX10_meet 9 (some .int) :: gW) 2 51 [.ref q_t, .int x1, .int x2, .int x3] o.1 g [oX10 q_t Q_t (F_t 0 0) (F_t 2 0) (F_t 3 0) (F_t 4 0) (F_t 5 0) (F_t 6 0) (F_t 7 0) (F_t 8 0) (F_t 9 0) (F_t 10 0) (F_t 11 0) (F_t 12 0) (F_t 15 0) (F_t 16 0) (F_t 17 0) (F_t 23 0) (F_t 27 0) (F_t 28 0) (F_t 30 0), ia g (Q_t 18) 16 (F_t 18), ia g (Q_t 19) 30 (F_t 19), ia g (Q_t 20) 174 (F_t 20), la g (Q_t 34) 8 (L_t 34), la g (Q_t 35) 8 (L_t 35)] [oX10 q_t Q_t (F_t 0 0) (F_t 2 0) (F_t 3 0) (F_t 4 0) (F_t 5 0) (F_t 6 0) (F_t 7 0) (F_t 8 0) (F_t 9 0) (F_t 10 0) (F_t 11 0) (F_t 12 0) (F_t 15 0) (F_t 16 0) (F_t 17 0) (F_t 23 0) (F_t 27 0) (F_t 28 0) (F_t 30 0), ia g (Q_t 18) 16 (F_t 18), ia g (Q_t 19) 30 (F_t 19), ia g (Q_t 20) 174 (F_t 20), la g (Q_t 34) 8 o.2.1, la g (Q_t 35) 8 o.2.2] sz :=
  mkI (av := [.ref q_t, .int x1, .int x2, .int x3]) (by decide +kernel) rfl (fun p e s m below meth c A E H locs ls hP hD hS hl => t_X10_meet E q_t Q_t N F_t L_t x1 x2 x3 o h H locs ls hP hD hS hl) sz
def x_X10_layOrder_b12 (N : Nat) (F_t : St) (x1 : Int32) (x2 : Int32) : Option ((Int32 × (Nat → Int32)) ⊕ (Int32 × (Nat → Int32))) :=
  if x2 ≤ 0 then (some (.inr (x2, (F_t 37)))) else (if (x2 - (1 : Int32)) < 0 ∨ 8 ≤ (x2 - (1 : Int32)).toNatClampNeg then none else if (((2 : Int32) * ((F_t 37) (x2 - (1 : Int32)).toNatClampNeg)) + (1 : Int32)) < 0 ∨ 16 ≤ (((2 : Int32) * ((F_t 37) (x2 - (1 : Int32)).toNatClampNeg)) + (1 : Int32)).toNatClampNeg then none else if (((2 : Int32) * x1) + (1 : Int32)) < 0 ∨ 16 ≤ (((2 : Int32) * x1) + (1 : Int32)).toNatClampNeg then none else if ((F_t 18) (((2 : Int32) * x1) + (1 : Int32)).toNatClampNeg) ≤ ((F_t 18) (((2 : Int32) * ((F_t 37) (x2 - (1 : Int32)).toNatClampNeg)) + (1 : Int32)).toNatClampNeg) then (some (.inr (x2, (F_t 37)))) else (if (x2 - (1 : Int32)) < 0 ∨ 8 ≤ (x2 - (1 : Int32)).toNatClampNeg then none else if x2 < 0 ∨ 8 ≤ x2.toNatClampNeg then none else xl ((F_t 37) (x2 - (1 : Int32)).toNatClampNeg) (fun y_9 => some (.inl ((x2 + (-1 : Int32)), (upd (F_t 37) x2.toNatClampNeg y_9))))))
set_option maxHeartbeats 4000000 in
set_option maxRecDepth 100000 in
theorem t_X10_layOrder_b12 {p : Program} {l : Launch} {e : Env} {s : State} {m : MethodId} {args : Array Value} {below : List Frame} {meth : Method} {c : Code} {g : gG} {A : Nat → Prop} {Q : State → Prop} (E : En p s m args meth c g A cX10_layOrder 3 (.code yX10_layOrder cX10_layOrder 3 none :: gW) RX10 none) (q_t : Nat) (Q_t : Ad) (N : Nat) (F_t : St) (x1 : Int32) (x2 : Int32) (o : (Int32 × (Nat → Int32)) ⊕ (Int32 × (Nat → Int32))) (h : x_X10_layOrder_b12 N F_t x1 x2 = some o) (hc : ∀ z, o = .inl z → WA p l e (rM 0 0) s m args below meth c g A Q 3 12 [oX10 q_t Q_t (F_t 0 0) (F_t 2 0) (F_t 3 0) (F_t 4 0) (F_t 5 0) (F_t 6 0) (F_t 7 0) (F_t 8 0) (F_t 9 0) (F_t 10 0) (F_t 11 0) (F_t 12 0) (F_t 15 0) (F_t 16 0) (F_t 17 0) (F_t 23 0) (F_t 27 0) (F_t 28 0) (F_t 30 0), ia g (Q_t 18) 16 (F_t 18), ia g (Q_t 37) 8 z.2] [(0, .ref q_t), (1, .int x1), (2, .int z.1)] []) (he : ∀ v, o = .inr v → WA p l e (rM 0 0) s m args below meth c g A Q 3 66 [oX10 q_t Q_t (F_t 0 0) (F_t 2 0) (F_t 3 0) (F_t 4 0) (F_t 5 0) (F_t 6 0) (F_t 7 0) (F_t 8 0) (F_t 9 0) (F_t 10 0) (F_t 11 0) (F_t 12 0) (F_t 15 0) (F_t 16 0) (F_t 17 0) (F_t 23 0) (F_t 27 0) (F_t 28 0) (F_t 30 0), ia g (Q_t 18) 16 (F_t 18), ia g (Q_t 37) 8 v.2] [(0, .ref q_t), (1, .int x1), (2, .int v.1)] []) : WA p l e (rM 0 0) s m args below meth c g A Q 3 12 [oX10 q_t Q_t (F_t 0 0) (F_t 2 0) (F_t 3 0) (F_t 4 0) (F_t 5 0) (F_t 6 0) (F_t 7 0) (F_t 8 0) (F_t 9 0) (F_t 10 0) (F_t 11 0) (F_t 12 0) (F_t 15 0) (F_t 16 0) (F_t 17 0) (F_t 23 0) (F_t 27 0) (F_t 28 0) (F_t 30 0), ia g (Q_t 18) 16 (F_t 18), ia g (Q_t 37) 8 (F_t 37)] [(0, .ref q_t), (1, .int x1), (2, .int x2)] [] := by
  obtain ⟨⟨hx, hb, hml, hown, hts⟩, hr, hK, hA, hlk⟩ := id E
  intro H locs ls hP hD hS hl
  refine lv_iload_n hx hb dX10_layOrder_12 rfl (lv_at hl 2 rfl) ?_
  refine lv_if_le (tgt := 66) hx hb dX10_layOrder_13 (by decide) (fun c_2 => ?_) (fun c_2 => ?_)
  · have h := ox_t c_2 h
    obtain rfl := Option.some.inj h
    exact he _ rfl H locs ls hP hD hS hl
  · have h := ox_f c_2 h
    refine lv_aload_n hx hb dX10_layOrder_16 rfl (lv_at hl 0 rfl) ?_
    refine va_get (ci := 10) (v := .ref (Q_t 18)) (C := RX10) (T := TX10) (N := 38) hx hb hts (fun w h => .tail _ (u_inX10 w h)) hown hK.1 hP 0 rfl rfl 18 (by decide) (hts _ (.tail _ u_fl_X10_23)) (fun _ h9 => h9) rfl dX10_layOrder_17 ?_
    refine lv_iconst (v := (2 : Int32)) hx hb dX10_layOrder_20 (by decide) ?_
    refine lv_aload_n hx hb dX10_layOrder_21 rfl (lv_at hl 0 rfl) ?_
    refine va_get (ci := 10) (v := .ref (Q_t 37)) (C := RX10) (T := TX10) (N := 38) hx hb hts (fun w h => .tail _ (u_inX10 w h)) hown hK.1 hP 0 rfl rfl 37 (by decide) (hts _ (.tail _ u_fl_X10_70)) (fun _ h9 => h9) rfl dX10_layOrder_22 ?_
    refine lv_iload_n hx hb dX10_layOrder_25 rfl (lv_at hl 2 rfl) ?_
    refine lv_iconst (v := (1 : Int32)) hx hb dX10_layOrder_26 (by decide) ?_
    refine lv_isub hx hb dX10_layOrder_27 ?_
    obtain ⟨hi_3, h⟩ := ox_chk h
    refine va_iald hx hb hK.1 hP 2 0 rfl rfl hi_3 dX10_layOrder_28 ?_
    refine lv_imul hx hb dX10_layOrder_29 ?_
    refine lv_iconst (v := (1 : Int32)) hx hb dX10_layOrder_30 (by decide) ?_
    refine lv_iadd hx hb dX10_layOrder_31 ?_
    obtain ⟨hi_4, h⟩ := ox_chk h
    refine va_iald hx hb hK.1 hP 1 0 rfl rfl hi_4 dX10_layOrder_32 ?_
    refine lv_aload_n hx hb dX10_layOrder_33 rfl (lv_at hl 0 rfl) ?_
    refine va_get (ci := 10) (v := .ref (Q_t 18)) (C := RX10) (T := TX10) (N := 38) hx hb hts (fun w h => .tail _ (u_inX10 w h)) hown hK.1 hP 0 rfl rfl 18 (by decide) (hts _ (.tail _ u_fl_X10_23)) (fun _ h9 => h9) rfl dX10_layOrder_34 ?_
    refine lv_iconst (v := (2 : Int32)) hx hb dX10_layOrder_37 (by decide) ?_
    refine lv_iload_n hx hb dX10_layOrder_38 rfl (lv_at hl 1 rfl) ?_
    refine lv_imul hx hb dX10_layOrder_39 ?_
    refine lv_iconst (v := (1 : Int32)) hx hb dX10_layOrder_40 (by decide) ?_
    refine lv_iadd hx hb dX10_layOrder_41 ?_
    obtain ⟨hi_5, h⟩ := ox_chk h
    refine va_iald hx hb hK.1 hP 1 0 rfl rfl hi_5 dX10_layOrder_42 ?_
    refine lv_icmp_ge (tgt := 66) hx hb dX10_layOrder_43 (by decide) (fun c_6 => ?_) (fun c_6 => ?_)
    · have h := ox_t c_6 h
      obtain rfl := Option.some.inj h
      exact he _ rfl H locs ls hP hD hS hl
    · have h := ox_f c_6 h
      refine lv_aload_n hx hb dX10_layOrder_46 rfl (lv_at hl 0 rfl) ?_
      refine va_get (ci := 10) (v := .ref (Q_t 37)) (C := RX10) (T := TX10) (N := 38) hx hb hts (fun w h => .tail _ (u_inX10 w h)) hown hK.1 hP 0 rfl rfl 37 (by decide) (hts _ (.tail _ u_fl_X10_70)) (fun _ h9 => h9) rfl dX10_layOrder_47 ?_
      refine lv_iload_n hx hb dX10_layOrder_50 rfl (lv_at hl 2 rfl) ?_
      refine lv_aload_n hx hb dX10_layOrder_51 rfl (lv_at hl 0 rfl) ?_
      refine va_get (ci := 10) (v := .ref (Q_t 37)) (C := RX10) (T := TX10) (N := 38) hx hb hts (fun w h => .tail _ (u_inX10 w h)) hown hK.1 hP 0 rfl rfl 37 (by decide) (hts _ (.tail _ u_fl_X10_70)) (fun _ h9 => h9) rfl dX10_layOrder_52 ?_
      refine lv_iload_n hx hb dX10_layOrder_55 rfl (lv_at hl 2 rfl) ?_
      refine lv_iconst (v := (1 : Int32)) hx hb dX10_layOrder_56 (by decide) ?_
      refine lv_isub hx hb dX10_layOrder_57 ?_
      obtain ⟨hi_7, h⟩ := ox_chk h
      refine va_iald hx hb hK.1 hP 2 0 rfl rfl hi_7 dX10_layOrder_58 ?_
      obtain ⟨hi_8, h⟩ := ox_chk h
      refine lv_topi (fun y_9 ey_9 => ?_)
      have h := xl_at ey_9 h
      refine va_iast hx hb hK.1 hP hD hS 2 0 rfl rfl hi_8 dX10_layOrder_59 (fun H locs hP hD hS => ?_)
      have hP : va_P g.1 vwCl [oX10 q_t Q_t (F_t 0 0) (F_t 2 0) (F_t 3 0) (F_t 4 0) (F_t 5 0) (F_t 6 0) (F_t 7 0) (F_t 8 0) (F_t 9 0) (F_t 10 0) (F_t 11 0) (F_t 12 0) (F_t 15 0) (F_t 16 0) (F_t 17 0) (F_t 23 0) (F_t 27 0) (F_t 28 0) (F_t 30 0), ia g (Q_t 18) 16 (F_t 18), ia g (Q_t 37) 8 (upd (F_t 37) x2.toNatClampNeg y_9)] H := hP
      have hD : va_D A [oX10 q_t Q_t (F_t 0 0) (F_t 2 0) (F_t 3 0) (F_t 4 0) (F_t 5 0) (F_t 6 0) (F_t 7 0) (F_t 8 0) (F_t 9 0) (F_t 10 0) (F_t 11 0) (F_t 12 0) (F_t 15 0) (F_t 16 0) (F_t 17 0) (F_t 23 0) (F_t 27 0) (F_t 28 0) (F_t 30 0), ia g (Q_t 18) 16 (F_t 18), ia g (Q_t 37) 8 (upd (F_t 37) x2.toNatClampNeg y_9)] := hD
      refine lv_iinc (v := (x2 + (-1 : Int32))) (lv' := [(2, .int (x2 + (-1 : Int32))), (0, .ref q_t), (1, .int x1)]) hx hb dX10_layOrder_60 hl (k := 2) rfl rfl (by decide) rfl (fun ls hl => ?_)
      refine lv_goto (tgt := 12) hx hb dX10_layOrder_63 (by decide) ?_
      obtain rfl := Option.some.inj h
      exact hc _ rfl H locs ls hP hD hS (lv_sub hl [1, 2, 0] rfl)
def x_X10_layOrder_b2 (N : Nat) (F_t : St) (x1 : Int32) : Option ((Int32 × (Nat → Int32)) ⊕ ((Nat → Int32))) :=
  if (F_t 16 0) ≤ x1 then (some (.inr (F_t 37))) else (Option.bind (lpc (fun (z : Int32 × (Nat → Int32)) => x_X10_layOrder_b12 N (va_up F_t 37 z.2) x1 z.1) N (x1, (F_t 37))) (fun v_10 => if v_10.1 < 0 ∨ 8 ≤ v_10.1.toNatClampNeg then none else some (.inl ((x1 + (1 : Int32)), (upd v_10.2 v_10.1.toNatClampNeg x1)))))
set_option maxHeartbeats 4000000 in
set_option maxRecDepth 100000 in
theorem t_X10_layOrder_b2 {p : Program} {l : Launch} {e : Env} {s : State} {m : MethodId} {args : Array Value} {below : List Frame} {meth : Method} {c : Code} {g : gG} {A : Nat → Prop} {Q : State → Prop} (E : En p s m args meth c g A cX10_layOrder 3 (.code yX10_layOrder cX10_layOrder 3 none :: gW) RX10 none) (q_t : Nat) (Q_t : Ad) (N : Nat) (F_t : St) (x1 : Int32) (o : (Int32 × (Nat → Int32)) ⊕ ((Nat → Int32))) (h : x_X10_layOrder_b2 N F_t x1 = some o) (hc : ∀ z, o = .inl z → WA p l e (rM 0 0) s m args below meth c g A Q 3 2 [oX10 q_t Q_t (F_t 0 0) (F_t 2 0) (F_t 3 0) (F_t 4 0) (F_t 5 0) (F_t 6 0) (F_t 7 0) (F_t 8 0) (F_t 9 0) (F_t 10 0) (F_t 11 0) (F_t 12 0) (F_t 15 0) (F_t 16 0) (F_t 17 0) (F_t 23 0) (F_t 27 0) (F_t 28 0) (F_t 30 0), ia g (Q_t 18) 16 (F_t 18), ia g (Q_t 37) 8 z.2] [(0, .ref q_t), (1, .int z.1)] []) (he : ∀ v, o = .inr v → WA p l e (rM 0 0) s m args below meth c g A Q 3 79 [oX10 q_t Q_t (F_t 0 0) (F_t 2 0) (F_t 3 0) (F_t 4 0) (F_t 5 0) (F_t 6 0) (F_t 7 0) (F_t 8 0) (F_t 9 0) (F_t 10 0) (F_t 11 0) (F_t 12 0) (F_t 15 0) (F_t 16 0) (F_t 17 0) (F_t 23 0) (F_t 27 0) (F_t 28 0) (F_t 30 0), ia g (Q_t 18) 16 (F_t 18), ia g (Q_t 37) 8 v] [] []) : WA p l e (rM 0 0) s m args below meth c g A Q 3 2 [oX10 q_t Q_t (F_t 0 0) (F_t 2 0) (F_t 3 0) (F_t 4 0) (F_t 5 0) (F_t 6 0) (F_t 7 0) (F_t 8 0) (F_t 9 0) (F_t 10 0) (F_t 11 0) (F_t 12 0) (F_t 15 0) (F_t 16 0) (F_t 17 0) (F_t 23 0) (F_t 27 0) (F_t 28 0) (F_t 30 0), ia g (Q_t 18) 16 (F_t 18), ia g (Q_t 37) 8 (F_t 37)] [(0, .ref q_t), (1, .int x1)] [] := by
  obtain ⟨⟨hx, hb, hml, hown, hts⟩, hr, hK, hA, hlk⟩ := id E
  intro H locs ls hP hD hS hl
  refine lv_iload_n hx hb dX10_layOrder_2 rfl (lv_at hl 1 rfl) ?_
  refine lv_aload_n hx hb dX10_layOrder_3 rfl (lv_at hl 0 rfl) ?_
  refine va_get (ci := 10) (v := .int (F_t 16 0)) (C := RX10) (T := TX10) (N := 38) hx hb hts (fun w h => .tail _ (u_inX10 w h)) hown hK.1 hP 0 rfl rfl 16 (by decide) (hts _ (.tail _ u_fl_X10_80)) (fun _ h9 => h9) rfl dX10_layOrder_4 ?_
  refine lv_icmp_ge (tgt := 79) hx hb dX10_layOrder_7 (by decide) (fun c_1 => ?_) (fun c_1 => ?_)
  · have h := ox_t c_1 h
    obtain rfl := Option.some.inj h
    exact he _ rfl H locs ls hP hD hS (lv_sub hl [] rfl)
  · have h := ox_f c_1 h
    refine lv_iload_n hx hb dX10_layOrder_10 rfl (lv_at hl 1 rfl) ?_
    refine lv_istore_n (lv' := [(2, .int x1), (0, .ref q_t), (1, .int x1)]) hx hb dX10_layOrder_11 rfl hl (by decide) rfl (fun ls hl => ?_)
    obtain ⟨v_10, hv_10, h⟩ := ox_bind h
    refine lpc_W (Wh := fun (z : Int32 × (Nat → Int32)) => WA p l e (rM 0 0) s m args below meth c g A Q 3 12 [oX10 q_t Q_t (F_t 0 0) (F_t 2 0) (F_t 3 0) (F_t 4 0) (F_t 5 0) (F_t 6 0) (F_t 7 0) (F_t 8 0) (F_t 9 0) (F_t 10 0) (F_t 11 0) (F_t 12 0) (F_t 15 0) (F_t 16 0) (F_t 17 0) (F_t 23 0) (F_t 27 0) (F_t 28 0) (F_t 30 0), ia g (Q_t 18) 16 (F_t 18), ia g (Q_t 37) 8 z.2] [(0, .ref q_t), (1, .int x1), (2, .int z.1)] []) (We := fun (v : Int32 × (Nat → Int32)) => WA p l e (rM 0 0) s m args below meth c g A Q 3 66 [oX10 q_t Q_t (F_t 0 0) (F_t 2 0) (F_t 3 0) (F_t 4 0) (F_t 5 0) (F_t 6 0) (F_t 7 0) (F_t 8 0) (F_t 9 0) (F_t 10 0) (F_t 11 0) (F_t 12 0) (F_t 15 0) (F_t 16 0) (F_t 17 0) (F_t 23 0) (F_t 27 0) (F_t 28 0) (F_t 30 0), ia g (Q_t 18) 16 (F_t 18), ia g (Q_t 37) 8 v.2] [(0, .ref q_t), (1, .int x1), (2, .int v.1)] []) (fun z r hb hc he => t_X10_layOrder_b12 E q_t Q_t N (va_up F_t 37 z.2) x1 z.1 r hb hc he) N (x1, (F_t 37)) v_10 hv_10 ?_ H locs ls hP hD hS (lv_sub hl [1, 2, 0] rfl)
    intro H locs ls hP hD hS hl
    refine lv_aload_n hx hb dX10_layOrder_66 rfl (lv_at hl 0 rfl) ?_
    refine va_get (ci := 10) (v := .ref (Q_t 37)) (C := RX10) (T := TX10) (N := 38) hx hb hts (fun w h => .tail _ (u_inX10 w h)) hown hK.1 hP 0 rfl rfl 37 (by decide) (hts _ (.tail _ u_fl_X10_70)) (fun _ h9 => h9) rfl dX10_layOrder_67 ?_
    refine lv_iload_n hx hb dX10_layOrder_70 rfl (lv_at hl 2 rfl) ?_
    refine lv_iload_n hx hb dX10_layOrder_71 rfl (lv_at hl 1 rfl) ?_
    obtain ⟨hi_11, h⟩ := ox_chk h
    refine va_iast hx hb hK.1 hP hD hS 2 0 rfl rfl hi_11 dX10_layOrder_72 (fun H locs hP hD hS => ?_)
    have hP : va_P g.1 vwCl [oX10 q_t Q_t (F_t 0 0) (F_t 2 0) (F_t 3 0) (F_t 4 0) (F_t 5 0) (F_t 6 0) (F_t 7 0) (F_t 8 0) (F_t 9 0) (F_t 10 0) (F_t 11 0) (F_t 12 0) (F_t 15 0) (F_t 16 0) (F_t 17 0) (F_t 23 0) (F_t 27 0) (F_t 28 0) (F_t 30 0), ia g (Q_t 18) 16 (F_t 18), ia g (Q_t 37) 8 (upd v_10.2 v_10.1.toNatClampNeg x1)] H := hP
    have hD : va_D A [oX10 q_t Q_t (F_t 0 0) (F_t 2 0) (F_t 3 0) (F_t 4 0) (F_t 5 0) (F_t 6 0) (F_t 7 0) (F_t 8 0) (F_t 9 0) (F_t 10 0) (F_t 11 0) (F_t 12 0) (F_t 15 0) (F_t 16 0) (F_t 17 0) (F_t 23 0) (F_t 27 0) (F_t 28 0) (F_t 30 0), ia g (Q_t 18) 16 (F_t 18), ia g (Q_t 37) 8 (upd v_10.2 v_10.1.toNatClampNeg x1)] := hD
    refine lv_iinc (v := (x1 + (1 : Int32))) (lv' := [(1, .int (x1 + (1 : Int32))), (0, .ref q_t), (2, .int v_10.1)]) hx hb dX10_layOrder_73 hl (k := 1) rfl rfl (by decide) rfl (fun ls hl => ?_)
    refine lv_goto (tgt := 2) hx hb dX10_layOrder_76 (by decide) ?_
    obtain rfl := Option.some.inj h
    exact hc _ rfl H locs ls hP hD hS (lv_sub hl [1, 0] rfl)
def x_X10_layOrder (N : Nat) (F_t : St) : Option ((Nat → Int32)) :=
  Option.bind (lpc (fun (z : Int32 × (Nat → Int32)) => x_X10_layOrder_b2 N (va_up F_t 37 z.2) z.1) N ((0 : Int32), (F_t 37))) (fun v_12 => some v_12)
set_option maxHeartbeats 4000000 in
set_option maxRecDepth 100000 in
theorem t_X10_layOrder {p : Program} {l : Launch} {e : Env} {s : State} {m : MethodId} {args : Array Value} {below : List Frame} {meth : Method} {c : Code} {g : gG} {A : Nat → Prop} (E : En p s m args meth c g A cX10_layOrder 3 (.code yX10_layOrder cX10_layOrder 3 none :: gW) RX10 none) (q_t : Nat) (Q_t : Ad) (N : Nat) (F_t : St) (o : (Nat → Int32)) (h : x_X10_layOrder N F_t = some o) : WA p l e (rM 0 0) s m args below meth c g A (MQ below (QV g A [oX10 q_t Q_t (F_t 0 0) (F_t 2 0) (F_t 3 0) (F_t 4 0) (F_t 5 0) (F_t 6 0) (F_t 7 0) (F_t 8 0) (F_t 9 0) (F_t 10 0) (F_t 11 0) (F_t 12 0) (F_t 15 0) (F_t 16 0) (F_t 17 0) (F_t 23 0) (F_t 27 0) (F_t 28 0) (F_t 30 0), ia g (Q_t 18) 16 (F_t 18), ia g (Q_t 37) 8 o]) args s 0 0 A) 3 0 [oX10 q_t Q_t (F_t 0 0) (F_t 2 0) (F_t 3 0) (F_t 4 0) (F_t 5 0) (F_t 6 0) (F_t 7 0) (F_t 8 0) (F_t 9 0) (F_t 10 0) (F_t 11 0) (F_t 12 0) (F_t 15 0) (F_t 16 0) (F_t 17 0) (F_t 23 0) (F_t 27 0) (F_t 28 0) (F_t 30 0), ia g (Q_t 18) 16 (F_t 18), ia g (Q_t 37) 8 (F_t 37)] [(0, .ref q_t)] [] := by
  obtain ⟨⟨hx, hb, hml, hown, hts⟩, hr, hK, hA, hlk⟩ := id E
  intro H locs ls hP hD hS hl
  refine lv_iconst (v := (0 : Int32)) hx hb dX10_layOrder_0 (by decide) ?_
  refine lv_istore_n (lv' := [(1, .int (0 : Int32)), (0, .ref q_t)]) hx hb dX10_layOrder_1 rfl hl (by decide) rfl (fun ls hl => ?_)
  obtain ⟨v_12, hv_12, h⟩ := ox_bind h
  refine lpc_W (Wh := fun (z : Int32 × (Nat → Int32)) => WA p l e (rM 0 0) s m args below meth c g A (MQ below (QV g A [oX10 q_t Q_t (F_t 0 0) (F_t 2 0) (F_t 3 0) (F_t 4 0) (F_t 5 0) (F_t 6 0) (F_t 7 0) (F_t 8 0) (F_t 9 0) (F_t 10 0) (F_t 11 0) (F_t 12 0) (F_t 15 0) (F_t 16 0) (F_t 17 0) (F_t 23 0) (F_t 27 0) (F_t 28 0) (F_t 30 0), ia g (Q_t 18) 16 (F_t 18), ia g (Q_t 37) 8 o]) args s 0 0 A) 3 2 [oX10 q_t Q_t (F_t 0 0) (F_t 2 0) (F_t 3 0) (F_t 4 0) (F_t 5 0) (F_t 6 0) (F_t 7 0) (F_t 8 0) (F_t 9 0) (F_t 10 0) (F_t 11 0) (F_t 12 0) (F_t 15 0) (F_t 16 0) (F_t 17 0) (F_t 23 0) (F_t 27 0) (F_t 28 0) (F_t 30 0), ia g (Q_t 18) 16 (F_t 18), ia g (Q_t 37) 8 z.2] [(0, .ref q_t), (1, .int z.1)] []) (We := fun (v : (Nat → Int32)) => WA p l e (rM 0 0) s m args below meth c g A (MQ below (QV g A [oX10 q_t Q_t (F_t 0 0) (F_t 2 0) (F_t 3 0) (F_t 4 0) (F_t 5 0) (F_t 6 0) (F_t 7 0) (F_t 8 0) (F_t 9 0) (F_t 10 0) (F_t 11 0) (F_t 12 0) (F_t 15 0) (F_t 16 0) (F_t 17 0) (F_t 23 0) (F_t 27 0) (F_t 28 0) (F_t 30 0), ia g (Q_t 18) 16 (F_t 18), ia g (Q_t 37) 8 o]) args s 0 0 A) 3 79 [oX10 q_t Q_t (F_t 0 0) (F_t 2 0) (F_t 3 0) (F_t 4 0) (F_t 5 0) (F_t 6 0) (F_t 7 0) (F_t 8 0) (F_t 9 0) (F_t 10 0) (F_t 11 0) (F_t 12 0) (F_t 15 0) (F_t 16 0) (F_t 17 0) (F_t 23 0) (F_t 27 0) (F_t 28 0) (F_t 30 0), ia g (Q_t 18) 16 (F_t 18), ia g (Q_t 37) 8 v] [] []) (fun z r hb hc he => t_X10_layOrder_b2 E q_t Q_t N (va_up F_t 37 z.2) z.1 r hb hc he) N ((0 : Int32), (F_t 37)) v_12 hv_12 ?_ H locs ls hP hD hS (lv_sub hl [1, 0] rfl)
  intro H locs ls hP hD hS hl
  obtain rfl := Option.some.inj h
  exact k_vret hx hb hr hlk hP hD hS dX10_layOrder_79
set_option maxRecDepth 100000 in
theorem c_X10_layOrder (l : Launch) (g : gG) (q_t : Nat) (Q_t : Ad) (N : Nat) (F_t : St) (o : (Nat → Int32)) (h : x_X10_layOrder N F_t = some o) (sz : Nat) : MetV l yX10_layOrder (.code yX10_layOrder cX10_layOrder 3 none :: gW) 0 0 [.ref q_t] g [oX10 q_t Q_t (F_t 0 0) (F_t 2 0) (F_t 3 0) (F_t 4 0) (F_t 5 0) (F_t 6 0) (F_t 7 0) (F_t 8 0) (F_t 9 0) (F_t 10 0) (F_t 11 0) (F_t 12 0) (F_t 15 0) (F_t 16 0) (F_t 17 0) (F_t 23 0) (F_t 27 0) (F_t 28 0) (F_t 30 0), ia g (Q_t 18) 16 (F_t 18), ia g (Q_t 37) 8 (F_t 37)] [oX10 q_t Q_t (F_t 0 0) (F_t 2 0) (F_t 3 0) (F_t 4 0) (F_t 5 0) (F_t 6 0) (F_t 7 0) (F_t 8 0) (F_t 9 0) (F_t 10 0) (F_t 11 0) (F_t 12 0) (F_t 15 0) (F_t 16 0) (F_t 17 0) (F_t 23 0) (F_t 27 0) (F_t 28 0) (F_t 30 0), ia g (Q_t 18) 16 (F_t 18), ia g (Q_t 37) 8 o] sz :=
  mkV (av := [.ref q_t]) (by decide +kernel) rfl (fun p e s m below meth c A E H locs ls hP hD hS hl => t_X10_layOrder E q_t Q_t N F_t o h H locs ls hP hD hS hl) sz
def x_X10_layWays_b6_k43 (N : Nat) (F_t : St) (x1 : Int32) (s1 : Int32) (s2 : Int32) : Option ((Int32 × (Nat → Int32) × (Nat → Int32)) ⊕ ((Nat → Int32) × (Nat → Int32))) :=
  if s1 < 0 ∨ 8 ≤ s1.toNatClampNeg then none else some (.inl ((x1 + (1 : Int32)), (F_t 32), (upd (F_t 33) s1.toNatClampNeg s2)))
set_option maxHeartbeats 4000000 in
set_option maxRecDepth 100000 in
theorem t_X10_layWays_b6_k43 {p : Program} {l : Launch} {e : Env} {s : State} {m : MethodId} {args : Array Value} {below : List Frame} {meth : Method} {c : Code} {g : gG} {A : Nat → Prop} {Q : State → Prop} (E : En p s m args meth c g A cX10_layWays 6 (.code yX10_layWays cX10_layWays 6 none :: gW) RX10 none) (q_t : Nat) (Q_t : Ad) (N : Nat) (F_t : St) (x1 : Int32) (s1 : Int32) (s2 : Int32) (o : (Int32 × (Nat → Int32) × (Nat → Int32)) ⊕ ((Nat → Int32) × (Nat → Int32))) (h : x_X10_layWays_b6_k43 N F_t x1 s1 s2 = some o) (hc : ∀ z, o = .inl z → WA p l e (rM 1 22) s m args below meth c g A Q 6 6 [oX10 q_t Q_t (F_t 0 0) (F_t 2 0) (F_t 3 0) (F_t 4 0) (F_t 5 0) (F_t 6 0) (F_t 7 0) (F_t 8 0) (F_t 9 0) (F_t 10 0) (F_t 11 0) (F_t 12 0) (F_t 15 0) (F_t 16 0) (F_t 17 0) (F_t 23 0) (F_t 27 0) (F_t 28 0) (F_t 30 0), ia g (Q_t 18) 16 (F_t 18), ia g (Q_t 19) 30 (F_t 19), ia g (Q_t 20) 174 (F_t 20), ia g (Q_t 32) 8 z.2.1, ia g (Q_t 33) 8 z.2.2, ia g (Q_t 37) 8 (F_t 37)] [(0, .ref q_t), (1, .int z.1)] []) (he : ∀ v, o = .inr v → WA p l e (rM 1 22) s m args below meth c g A Q 6 50 [oX10 q_t Q_t (F_t 0 0) (F_t 2 0) (F_t 3 0) (F_t 4 0) (F_t 5 0) (F_t 6 0) (F_t 7 0) (F_t 8 0) (F_t 9 0) (F_t 10 0) (F_t 11 0) (F_t 12 0) (F_t 15 0) (F_t 16 0) (F_t 17 0) (F_t 23 0) (F_t 27 0) (F_t 28 0) (F_t 30 0), ia g (Q_t 18) 16 (F_t 18), ia g (Q_t 19) 30 (F_t 19), ia g (Q_t 20) 174 (F_t 20), ia g (Q_t 32) 8 v.1, ia g (Q_t 33) 8 v.2, ia g (Q_t 37) 8 (F_t 37)] [(0, .ref q_t)] []) : WA p l e (rM 1 22) s m args below meth c g A Q 6 43 [oX10 q_t Q_t (F_t 0 0) (F_t 2 0) (F_t 3 0) (F_t 4 0) (F_t 5 0) (F_t 6 0) (F_t 7 0) (F_t 8 0) (F_t 9 0) (F_t 10 0) (F_t 11 0) (F_t 12 0) (F_t 15 0) (F_t 16 0) (F_t 17 0) (F_t 23 0) (F_t 27 0) (F_t 28 0) (F_t 30 0), ia g (Q_t 18) 16 (F_t 18), ia g (Q_t 19) 30 (F_t 19), ia g (Q_t 20) 174 (F_t 20), ia g (Q_t 32) 8 (F_t 32), ia g (Q_t 33) 8 (F_t 33), ia g (Q_t 37) 8 (F_t 37)] [(0, .ref q_t), (1, .int x1)] [.int s2, .int s1, .ref (Q_t 33)] := by
  obtain ⟨⟨hx, hb, hml, hown, hts⟩, hr, hK, hA, hlk⟩ := id E
  intro H locs ls hP hD hS hl
  obtain ⟨hi_2, h⟩ := ox_chk h
  refine va_iast hx hb hK.1 hP hD hS 5 0 rfl rfl hi_2 dX10_layWays_43 (fun H locs hP hD hS => ?_)
  have hP : va_P g.1 vwCl [oX10 q_t Q_t (F_t 0 0) (F_t 2 0) (F_t 3 0) (F_t 4 0) (F_t 5 0) (F_t 6 0) (F_t 7 0) (F_t 8 0) (F_t 9 0) (F_t 10 0) (F_t 11 0) (F_t 12 0) (F_t 15 0) (F_t 16 0) (F_t 17 0) (F_t 23 0) (F_t 27 0) (F_t 28 0) (F_t 30 0), ia g (Q_t 18) 16 (F_t 18), ia g (Q_t 19) 30 (F_t 19), ia g (Q_t 20) 174 (F_t 20), ia g (Q_t 32) 8 (F_t 32), ia g (Q_t 33) 8 (upd (F_t 33) s1.toNatClampNeg s2), ia g (Q_t 37) 8 (F_t 37)] H := hP
  have hD : va_D A [oX10 q_t Q_t (F_t 0 0) (F_t 2 0) (F_t 3 0) (F_t 4 0) (F_t 5 0) (F_t 6 0) (F_t 7 0) (F_t 8 0) (F_t 9 0) (F_t 10 0) (F_t 11 0) (F_t 12 0) (F_t 15 0) (F_t 16 0) (F_t 17 0) (F_t 23 0) (F_t 27 0) (F_t 28 0) (F_t 30 0), ia g (Q_t 18) 16 (F_t 18), ia g (Q_t 19) 30 (F_t 19), ia g (Q_t 20) 174 (F_t 20), ia g (Q_t 32) 8 (F_t 32), ia g (Q_t 33) 8 (upd (F_t 33) s1.toNatClampNeg s2), ia g (Q_t 37) 8 (F_t 37)] := hD
  refine lv_iinc (v := (x1 + (1 : Int32))) (lv' := [(1, .int (x1 + (1 : Int32))), (0, .ref q_t)]) hx hb dX10_layWays_44 hl (k := 1) rfl rfl (by decide) rfl (fun ls hl => ?_)
  refine lv_goto (tgt := 6) hx hb dX10_layWays_47 (by decide) ?_
  obtain rfl := Option.some.inj h
  exact hc _ rfl H locs ls hP hD hS (lv_sub hl [1, 0] rfl)
def x_X10_layWays_b6_k28 (N : Nat) (F_t : St) (x1 : Int32) (s1 : Int32) (s2 : Int32) : Option ((Int32 × (Nat → Int32) × (Nat → Int32)) ⊕ ((Nat → Int32) × (Nat → Int32))) :=
  if s1 < 0 ∨ 8 ≤ s1.toNatClampNeg then none else if x1 = 0 then (x_X10_layWays_b6_k43 N (va_up F_t 32 (upd (F_t 32) s1.toNatClampNeg s2)) x1 x1 (1 : Int32)) else (x_X10_layWays_b6_k43 N (va_up F_t 32 (upd (F_t 32) s1.toNatClampNeg s2)) x1 x1 (0 : Int32))
set_option maxHeartbeats 4000000 in
set_option maxRecDepth 100000 in
theorem t_X10_layWays_b6_k28 {p : Program} {l : Launch} {e : Env} {s : State} {m : MethodId} {args : Array Value} {below : List Frame} {meth : Method} {c : Code} {g : gG} {A : Nat → Prop} {Q : State → Prop} (E : En p s m args meth c g A cX10_layWays 6 (.code yX10_layWays cX10_layWays 6 none :: gW) RX10 none) (q_t : Nat) (Q_t : Ad) (N : Nat) (F_t : St) (x1 : Int32) (s1 : Int32) (s2 : Int32) (o : (Int32 × (Nat → Int32) × (Nat → Int32)) ⊕ ((Nat → Int32) × (Nat → Int32))) (h : x_X10_layWays_b6_k28 N F_t x1 s1 s2 = some o) (hc : ∀ z, o = .inl z → WA p l e (rM 1 22) s m args below meth c g A Q 6 6 [oX10 q_t Q_t (F_t 0 0) (F_t 2 0) (F_t 3 0) (F_t 4 0) (F_t 5 0) (F_t 6 0) (F_t 7 0) (F_t 8 0) (F_t 9 0) (F_t 10 0) (F_t 11 0) (F_t 12 0) (F_t 15 0) (F_t 16 0) (F_t 17 0) (F_t 23 0) (F_t 27 0) (F_t 28 0) (F_t 30 0), ia g (Q_t 18) 16 (F_t 18), ia g (Q_t 19) 30 (F_t 19), ia g (Q_t 20) 174 (F_t 20), ia g (Q_t 32) 8 z.2.1, ia g (Q_t 33) 8 z.2.2, ia g (Q_t 37) 8 (F_t 37)] [(0, .ref q_t), (1, .int z.1)] []) (he : ∀ v, o = .inr v → WA p l e (rM 1 22) s m args below meth c g A Q 6 50 [oX10 q_t Q_t (F_t 0 0) (F_t 2 0) (F_t 3 0) (F_t 4 0) (F_t 5 0) (F_t 6 0) (F_t 7 0) (F_t 8 0) (F_t 9 0) (F_t 10 0) (F_t 11 0) (F_t 12 0) (F_t 15 0) (F_t 16 0) (F_t 17 0) (F_t 23 0) (F_t 27 0) (F_t 28 0) (F_t 30 0), ia g (Q_t 18) 16 (F_t 18), ia g (Q_t 19) 30 (F_t 19), ia g (Q_t 20) 174 (F_t 20), ia g (Q_t 32) 8 v.1, ia g (Q_t 33) 8 v.2, ia g (Q_t 37) 8 (F_t 37)] [(0, .ref q_t)] []) : WA p l e (rM 1 22) s m args below meth c g A Q 6 28 [oX10 q_t Q_t (F_t 0 0) (F_t 2 0) (F_t 3 0) (F_t 4 0) (F_t 5 0) (F_t 6 0) (F_t 7 0) (F_t 8 0) (F_t 9 0) (F_t 10 0) (F_t 11 0) (F_t 12 0) (F_t 15 0) (F_t 16 0) (F_t 17 0) (F_t 23 0) (F_t 27 0) (F_t 28 0) (F_t 30 0), ia g (Q_t 18) 16 (F_t 18), ia g (Q_t 19) 30 (F_t 19), ia g (Q_t 20) 174 (F_t 20), ia g (Q_t 32) 8 (F_t 32), ia g (Q_t 33) 8 (F_t 33), ia g (Q_t 37) 8 (F_t 37)] [(0, .ref q_t), (1, .int x1)] [.int s2, .int s1, .ref (Q_t 32)] := by
  obtain ⟨⟨hx, hb, hml, hown, hts⟩, hr, hK, hA, hlk⟩ := id E
  intro H locs ls hP hD hS hl
  obtain ⟨hi_3, h⟩ := ox_chk h
  refine va_iast hx hb hK.1 hP hD hS 4 0 rfl rfl hi_3 dX10_layWays_28 (fun H locs hP hD hS => ?_)
  have hP : va_P g.1 vwCl [oX10 q_t Q_t (F_t 0 0) (F_t 2 0) (F_t 3 0) (F_t 4 0) (F_t 5 0) (F_t 6 0) (F_t 7 0) (F_t 8 0) (F_t 9 0) (F_t 10 0) (F_t 11 0) (F_t 12 0) (F_t 15 0) (F_t 16 0) (F_t 17 0) (F_t 23 0) (F_t 27 0) (F_t 28 0) (F_t 30 0), ia g (Q_t 18) 16 (F_t 18), ia g (Q_t 19) 30 (F_t 19), ia g (Q_t 20) 174 (F_t 20), ia g (Q_t 32) 8 (upd (F_t 32) s1.toNatClampNeg s2), ia g (Q_t 33) 8 (F_t 33), ia g (Q_t 37) 8 (F_t 37)] H := hP
  have hD : va_D A [oX10 q_t Q_t (F_t 0 0) (F_t 2 0) (F_t 3 0) (F_t 4 0) (F_t 5 0) (F_t 6 0) (F_t 7 0) (F_t 8 0) (F_t 9 0) (F_t 10 0) (F_t 11 0) (F_t 12 0) (F_t 15 0) (F_t 16 0) (F_t 17 0) (F_t 23 0) (F_t 27 0) (F_t 28 0) (F_t 30 0), ia g (Q_t 18) 16 (F_t 18), ia g (Q_t 19) 30 (F_t 19), ia g (Q_t 20) 174 (F_t 20), ia g (Q_t 32) 8 (upd (F_t 32) s1.toNatClampNeg s2), ia g (Q_t 33) 8 (F_t 33), ia g (Q_t 37) 8 (F_t 37)] := hD
  refine lv_aload_n hx hb dX10_layWays_29 rfl (lv_at hl 0 rfl) ?_
  refine va_get (ci := 10) (v := .ref (Q_t 33)) (C := RX10) (T := TX10) (N := 38) hx hb hts (fun w h => .tail _ (u_inX10 w h)) hown hK.1 hP 0 rfl rfl 33 (by decide) (hts _ (.tail _ u_fl_X10_57)) (fun _ h9 => h9) rfl dX10_layWays_30 ?_
  refine lv_iload_n hx hb dX10_layWays_33 rfl (lv_at hl 1 rfl) ?_
  refine lv_iload_n hx hb dX10_layWays_34 rfl (lv_at hl 1 rfl) ?_
  refine lv_if_ne (tgt := 42) hx hb dX10_layWays_35 (by decide) (fun c_4 => ?_) (fun c_4 => ?_)
  · have h := ox_f c_4 h
    refine lv_iconst (v := (0 : Int32)) hx hb dX10_layWays_42 (by decide) ?_
    exact t_X10_layWays_b6_k43 E q_t Q_t N (va_up F_t 32 (upd (F_t 32) s1.toNatClampNeg s2)) x1 x1 (0 : Int32) _ h hc he H locs ls hP hD hS hl
  · have h := ox_t c_4 h
    refine lv_iconst (v := (1 : Int32)) hx hb dX10_layWays_38 (by decide) ?_
    refine lv_goto (tgt := 43) hx hb dX10_layWays_39 (by decide) ?_
    exact t_X10_layWays_b6_k43 E q_t Q_t N (va_up F_t 32 (upd (F_t 32) s1.toNatClampNeg s2)) x1 x1 (1 : Int32) _ h hc he H locs ls hP hD hS hl
def x_X10_layWays_b6 (N : Nat) (F_t : St) (x1 : Int32) : Option ((Int32 × (Nat → Int32) × (Nat → Int32)) ⊕ ((Nat → Int32) × (Nat → Int32))) :=
  if (F_t 16 0) ≤ x1 then (some (.inr ((F_t 32), (F_t 33)))) else (if x1 = 0 then (x_X10_layWays_b6_k28 N F_t x1 x1 (0 : Int32)) else (x_X10_layWays_b6_k28 N F_t x1 x1 (-1 : Int32)))
set_option maxHeartbeats 4000000 in
set_option maxRecDepth 100000 in
theorem t_X10_layWays_b6 {p : Program} {l : Launch} {e : Env} {s : State} {m : MethodId} {args : Array Value} {below : List Frame} {meth : Method} {c : Code} {g : gG} {A : Nat → Prop} {Q : State → Prop} (E : En p s m args meth c g A cX10_layWays 6 (.code yX10_layWays cX10_layWays 6 none :: gW) RX10 none) (q_t : Nat) (Q_t : Ad) (N : Nat) (F_t : St) (x1 : Int32) (o : (Int32 × (Nat → Int32) × (Nat → Int32)) ⊕ ((Nat → Int32) × (Nat → Int32))) (h : x_X10_layWays_b6 N F_t x1 = some o) (hc : ∀ z, o = .inl z → WA p l e (rM 1 22) s m args below meth c g A Q 6 6 [oX10 q_t Q_t (F_t 0 0) (F_t 2 0) (F_t 3 0) (F_t 4 0) (F_t 5 0) (F_t 6 0) (F_t 7 0) (F_t 8 0) (F_t 9 0) (F_t 10 0) (F_t 11 0) (F_t 12 0) (F_t 15 0) (F_t 16 0) (F_t 17 0) (F_t 23 0) (F_t 27 0) (F_t 28 0) (F_t 30 0), ia g (Q_t 18) 16 (F_t 18), ia g (Q_t 19) 30 (F_t 19), ia g (Q_t 20) 174 (F_t 20), ia g (Q_t 32) 8 z.2.1, ia g (Q_t 33) 8 z.2.2, ia g (Q_t 37) 8 (F_t 37)] [(0, .ref q_t), (1, .int z.1)] []) (he : ∀ v, o = .inr v → WA p l e (rM 1 22) s m args below meth c g A Q 6 50 [oX10 q_t Q_t (F_t 0 0) (F_t 2 0) (F_t 3 0) (F_t 4 0) (F_t 5 0) (F_t 6 0) (F_t 7 0) (F_t 8 0) (F_t 9 0) (F_t 10 0) (F_t 11 0) (F_t 12 0) (F_t 15 0) (F_t 16 0) (F_t 17 0) (F_t 23 0) (F_t 27 0) (F_t 28 0) (F_t 30 0), ia g (Q_t 18) 16 (F_t 18), ia g (Q_t 19) 30 (F_t 19), ia g (Q_t 20) 174 (F_t 20), ia g (Q_t 32) 8 v.1, ia g (Q_t 33) 8 v.2, ia g (Q_t 37) 8 (F_t 37)] [(0, .ref q_t)] []) : WA p l e (rM 1 22) s m args below meth c g A Q 6 6 [oX10 q_t Q_t (F_t 0 0) (F_t 2 0) (F_t 3 0) (F_t 4 0) (F_t 5 0) (F_t 6 0) (F_t 7 0) (F_t 8 0) (F_t 9 0) (F_t 10 0) (F_t 11 0) (F_t 12 0) (F_t 15 0) (F_t 16 0) (F_t 17 0) (F_t 23 0) (F_t 27 0) (F_t 28 0) (F_t 30 0), ia g (Q_t 18) 16 (F_t 18), ia g (Q_t 19) 30 (F_t 19), ia g (Q_t 20) 174 (F_t 20), ia g (Q_t 32) 8 (F_t 32), ia g (Q_t 33) 8 (F_t 33), ia g (Q_t 37) 8 (F_t 37)] [(0, .ref q_t), (1, .int x1)] [] := by
  obtain ⟨⟨hx, hb, hml, hown, hts⟩, hr, hK, hA, hlk⟩ := id E
  intro H locs ls hP hD hS hl
  refine lv_iload_n hx hb dX10_layWays_6 rfl (lv_at hl 1 rfl) ?_
  refine lv_aload_n hx hb dX10_layWays_7 rfl (lv_at hl 0 rfl) ?_
  refine va_get (ci := 10) (v := .int (F_t 16 0)) (C := RX10) (T := TX10) (N := 38) hx hb hts (fun w h => .tail _ (u_inX10 w h)) hown hK.1 hP 0 rfl rfl 16 (by decide) (hts _ (.tail _ u_fl_X10_80)) (fun _ h9 => h9) rfl dX10_layWays_8 ?_
  refine lv_icmp_ge (tgt := 50) hx hb dX10_layWays_11 (by decide) (fun c_5 => ?_) (fun c_5 => ?_)
  · have h := ox_t c_5 h
    obtain rfl := Option.some.inj h
    exact he _ rfl H locs ls hP hD hS (lv_sub hl [0] rfl)
  · have h := ox_f c_5 h
    refine lv_aload_n hx hb dX10_layWays_14 rfl (lv_at hl 0 rfl) ?_
    refine va_get (ci := 10) (v := .ref (Q_t 32)) (C := RX10) (T := TX10) (N := 38) hx hb hts (fun w h => .tail _ (u_inX10 w h)) hown hK.1 hP 0 rfl rfl 32 (by decide) (hts _ (.tail _ u_fl_X10_54)) (fun _ h9 => h9) rfl dX10_layWays_15 ?_
    refine lv_iload_n hx hb dX10_layWays_18 rfl (lv_at hl 1 rfl) ?_
    refine lv_iload_n hx hb dX10_layWays_19 rfl (lv_at hl 1 rfl) ?_
    refine lv_if_ne (tgt := 27) hx hb dX10_layWays_20 (by decide) (fun c_6 => ?_) (fun c_6 => ?_)
    · have h := ox_f c_6 h
      refine lv_iconst (v := (-1 : Int32)) hx hb dX10_layWays_27 (by decide) ?_
      exact t_X10_layWays_b6_k28 E q_t Q_t N F_t x1 x1 (-1 : Int32) _ h hc he H locs ls hP hD hS hl
    · have h := ox_t c_6 h
      refine lv_iconst (v := (0 : Int32)) hx hb dX10_layWays_23 (by decide) ?_
      refine lv_goto (tgt := 28) hx hb dX10_layWays_24 (by decide) ?_
      exact t_X10_layWays_b6_k28 E q_t Q_t N F_t x1 x1 (0 : Int32) _ h hc he H locs ls hP hD hS hl
def x_X10_layWays_b69_k175 (N : Nat) (F_t : St) (x1 : Int32) (x2 : Int32) (x3 : Int32) (x4 : Int32) (s1 : Int32) (s2 : Int32) : Option ((Int32 × (Nat → Int32) × (Nat → Int32)) ⊕ ((Nat → Int32) × (Nat → Int32))) :=
  if s1 < 0 ∨ 8 ≤ s1.toNatClampNeg then none else if x4 < 0 ∨ 8 ≤ x4.toNatClampNeg then none else if x2 < 0 ∨ 8 ≤ x2.toNatClampNeg then none else if x4 < 0 ∨ 8 ≤ x4.toNatClampNeg then none else xl (((F_t 33) x4.toNatClampNeg) + ((F_t 33) x2.toNatClampNeg)) (fun y_15 => some (.inl ((x3 + (1 : Int32)), (upd (F_t 32) s1.toNatClampNeg s2), (upd (F_t 33) x4.toNatClampNeg y_15))))
set_option maxHeartbeats 4000000 in
set_option maxRecDepth 100000 in
theorem t_X10_layWays_b69_k175 {p : Program} {l : Launch} {e : Env} {s : State} {m : MethodId} {args : Array Value} {below : List Frame} {meth : Method} {c : Code} {g : gG} {A : Nat → Prop} {Q : State → Prop} (E : En p s m args meth c g A cX10_layWays 6 (.code yX10_layWays cX10_layWays 6 none :: gW) RX10 none) (q_t : Nat) (Q_t : Ad) (N : Nat) (F_t : St) (x1 : Int32) (x2 : Int32) (x3 : Int32) (x4 : Int32) (s1 : Int32) (s2 : Int32) (o : (Int32 × (Nat → Int32) × (Nat → Int32)) ⊕ ((Nat → Int32) × (Nat → Int32))) (h : x_X10_layWays_b69_k175 N F_t x1 x2 x3 x4 s1 s2 = some o) (hc : ∀ z, o = .inl z → WA p l e (rM 1 22) s m args below meth c g A Q 6 69 [oX10 q_t Q_t (F_t 0 0) (F_t 2 0) (F_t 3 0) (F_t 4 0) (F_t 5 0) (F_t 6 0) (F_t 7 0) (F_t 8 0) (F_t 9 0) (F_t 10 0) (F_t 11 0) (F_t 12 0) (F_t 15 0) (F_t 16 0) (F_t 17 0) (F_t 23 0) (F_t 27 0) (F_t 28 0) (F_t 30 0), ia g (Q_t 18) 16 (F_t 18), ia g (Q_t 19) 30 (F_t 19), ia g (Q_t 20) 174 (F_t 20), ia g (Q_t 32) 8 z.2.1, ia g (Q_t 33) 8 z.2.2, ia g (Q_t 37) 8 (F_t 37)] [(0, .ref q_t), (1, .int x1), (2, .int x2), (3, .int z.1)] []) (he : ∀ v, o = .inr v → WA p l e (rM 1 22) s m args below meth c g A Q 6 198 [oX10 q_t Q_t (F_t 0 0) (F_t 2 0) (F_t 3 0) (F_t 4 0) (F_t 5 0) (F_t 6 0) (F_t 7 0) (F_t 8 0) (F_t 9 0) (F_t 10 0) (F_t 11 0) (F_t 12 0) (F_t 15 0) (F_t 16 0) (F_t 17 0) (F_t 23 0) (F_t 27 0) (F_t 28 0) (F_t 30 0), ia g (Q_t 18) 16 (F_t 18), ia g (Q_t 19) 30 (F_t 19), ia g (Q_t 20) 174 (F_t 20), ia g (Q_t 32) 8 v.1, ia g (Q_t 33) 8 v.2, ia g (Q_t 37) 8 (F_t 37)] [(0, .ref q_t), (1, .int x1)] []) : WA p l e (rM 1 22) s m args below meth c g A Q 6 175 [oX10 q_t Q_t (F_t 0 0) (F_t 2 0) (F_t 3 0) (F_t 4 0) (F_t 5 0) (F_t 6 0) (F_t 7 0) (F_t 8 0) (F_t 9 0) (F_t 10 0) (F_t 11 0) (F_t 12 0) (F_t 15 0) (F_t 16 0) (F_t 17 0) (F_t 23 0) (F_t 27 0) (F_t 28 0) (F_t 30 0), ia g (Q_t 18) 16 (F_t 18), ia g (Q_t 19) 30 (F_t 19), ia g (Q_t 20) 174 (F_t 20), ia g (Q_t 32) 8 (F_t 32), ia g (Q_t 33) 8 (F_t 33), ia g (Q_t 37) 8 (F_t 37)] [(0, .ref q_t), (1, .int x1), (2, .int x2), (3, .int x3), (4, .int x4)] [.int s2, .int s1, .ref (Q_t 32)] := by
  obtain ⟨⟨hx, hb, hml, hown, hts⟩, hr, hK, hA, hlk⟩ := id E
  intro H locs ls hP hD hS hl
  obtain ⟨hi_11, h⟩ := ox_chk h
  refine va_iast hx hb hK.1 hP hD hS 4 0 rfl rfl hi_11 dX10_layWays_175 (fun H locs hP hD hS => ?_)
  have hP : va_P g.1 vwCl [oX10 q_t Q_t (F_t 0 0) (F_t 2 0) (F_t 3 0) (F_t 4 0) (F_t 5 0) (F_t 6 0) (F_t 7 0) (F_t 8 0) (F_t 9 0) (F_t 10 0) (F_t 11 0) (F_t 12 0) (F_t 15 0) (F_t 16 0) (F_t 17 0) (F_t 23 0) (F_t 27 0) (F_t 28 0) (F_t 30 0), ia g (Q_t 18) 16 (F_t 18), ia g (Q_t 19) 30 (F_t 19), ia g (Q_t 20) 174 (F_t 20), ia g (Q_t 32) 8 (upd (F_t 32) s1.toNatClampNeg s2), ia g (Q_t 33) 8 (F_t 33), ia g (Q_t 37) 8 (F_t 37)] H := hP
  have hD : va_D A [oX10 q_t Q_t (F_t 0 0) (F_t 2 0) (F_t 3 0) (F_t 4 0) (F_t 5 0) (F_t 6 0) (F_t 7 0) (F_t 8 0) (F_t 9 0) (F_t 10 0) (F_t 11 0) (F_t 12 0) (F_t 15 0) (F_t 16 0) (F_t 17 0) (F_t 23 0) (F_t 27 0) (F_t 28 0) (F_t 30 0), ia g (Q_t 18) 16 (F_t 18), ia g (Q_t 19) 30 (F_t 19), ia g (Q_t 20) 174 (F_t 20), ia g (Q_t 32) 8 (upd (F_t 32) s1.toNatClampNeg s2), ia g (Q_t 33) 8 (F_t 33), ia g (Q_t 37) 8 (F_t 37)] := hD
  refine lv_aload_n hx hb dX10_layWays_176 rfl (lv_at hl 0 rfl) ?_
  refine va_get (ci := 10) (v := .ref (Q_t 33)) (C := RX10) (T := TX10) (N := 38) hx hb hts (fun w h => .tail _ (u_inX10 w h)) hown hK.1 hP 0 rfl rfl 33 (by decide) (hts _ (.tail _ u_fl_X10_57)) (fun _ h9 => h9) rfl dX10_layWays_177 ?_
  refine lv_iload hx hb dX10_layWays_180 (lv_at hl 4 rfl) ?_
  refine lv_dup2_11 hx hb dX10_layWays_182 rfl rfl ?_
  obtain ⟨hi_12, h⟩ := ox_chk h
  refine va_iald hx hb hK.1 hP 5 0 rfl rfl hi_12 dX10_layWays_183 ?_
  refine lv_aload_n hx hb dX10_layWays_184 rfl (lv_at hl 0 rfl) ?_
  refine va_get (ci := 10) (v := .ref (Q_t 33)) (C := RX10) (T := TX10) (N := 38) hx hb hts (fun w h => .tail _ (u_inX10 w h)) hown hK.1 hP 0 rfl rfl 33 (by decide) (hts _ (.tail _ u_fl_X10_57)) (fun _ h9 => h9) rfl dX10_layWays_185 ?_
  refine lv_iload_n hx hb dX10_layWays_188 rfl (lv_at hl 2 rfl) ?_
  obtain ⟨hi_13, h⟩ := ox_chk h
  refine va_iald hx hb hK.1 hP 5 0 rfl rfl hi_13 dX10_layWays_189 ?_
  refine lv_iadd hx hb dX10_layWays_190 ?_
  obtain ⟨hi_14, h⟩ := ox_chk h
  refine lv_topi (fun y_15 ey_15 => ?_)
  have h := xl_at ey_15 h
  refine va_iast hx hb hK.1 hP hD hS 5 0 rfl rfl hi_14 dX10_layWays_191 (fun H locs hP hD hS => ?_)
  have hP : va_P g.1 vwCl [oX10 q_t Q_t (F_t 0 0) (F_t 2 0) (F_t 3 0) (F_t 4 0) (F_t 5 0) (F_t 6 0) (F_t 7 0) (F_t 8 0) (F_t 9 0) (F_t 10 0) (F_t 11 0) (F_t 12 0) (F_t 15 0) (F_t 16 0) (F_t 17 0) (F_t 23 0) (F_t 27 0) (F_t 28 0) (F_t 30 0), ia g (Q_t 18) 16 (F_t 18), ia g (Q_t 19) 30 (F_t 19), ia g (Q_t 20) 174 (F_t 20), ia g (Q_t 32) 8 (upd (F_t 32) s1.toNatClampNeg s2), ia g (Q_t 33) 8 (upd (F_t 33) x4.toNatClampNeg y_15), ia g (Q_t 37) 8 (F_t 37)] H := hP
  have hD : va_D A [oX10 q_t Q_t (F_t 0 0) (F_t 2 0) (F_t 3 0) (F_t 4 0) (F_t 5 0) (F_t 6 0) (F_t 7 0) (F_t 8 0) (F_t 9 0) (F_t 10 0) (F_t 11 0) (F_t 12 0) (F_t 15 0) (F_t 16 0) (F_t 17 0) (F_t 23 0) (F_t 27 0) (F_t 28 0) (F_t 30 0), ia g (Q_t 18) 16 (F_t 18), ia g (Q_t 19) 30 (F_t 19), ia g (Q_t 20) 174 (F_t 20), ia g (Q_t 32) 8 (upd (F_t 32) s1.toNatClampNeg s2), ia g (Q_t 33) 8 (upd (F_t 33) x4.toNatClampNeg y_15), ia g (Q_t 37) 8 (F_t 37)] := hD
  refine lv_iinc (v := (x3 + (1 : Int32))) (lv' := [(3, .int (x3 + (1 : Int32))), (0, .ref q_t), (1, .int x1), (2, .int x2), (4, .int x4)]) hx hb dX10_layWays_192 hl (k := 3) rfl rfl (by decide) rfl (fun ls hl => ?_)
  refine lv_goto (tgt := 69) hx hb dX10_layWays_195 (by decide) ?_
  obtain rfl := Option.some.inj h
  exact hc _ rfl H locs ls hP hD hS (lv_sub hl [1, 2, 3, 0] rfl)
def x_X10_layWays_b69 (N : Nat) (F_t : St) (x1 : Int32) (x2 : Int32) (x3 : Int32) : Option ((Int32 × (Nat → Int32) × (Nat → Int32)) ⊕ ((Nat → Int32) × (Nat → Int32))) :=
  if (F_t 17 0) ≤ x3 then (some (.inr ((F_t 32), (F_t 33)))) else (if ((3 : Int32) * x3) < 0 ∨ 30 ≤ ((3 : Int32) * x3).toNatClampNeg then none else if ((F_t 19) ((3 : Int32) * x3).toNatClampNeg) = x2 then (Option.bind (x_X10_has ((F_t 20) (172 : Int32).toNatClampNeg) x3) (fun v_19 => if v_19 = 0 then (if x2 < 0 ∨ 8 ≤ x2.toNatClampNeg then none else if ((F_t 32) x2.toNatClampNeg) = (-1 : Int32) then (some (.inl ((x3 + (1 : Int32)), (F_t 32), (F_t 33)))) else (if (((3 : Int32) * x3) + (1 : Int32)) < 0 ∨ 30 ≤ (((3 : Int32) * x3) + (1 : Int32)).toNatClampNeg then none else xl ((F_t 19) (((3 : Int32) * x3) + (1 : Int32)).toNatClampNeg) (fun y_24 => if x2 < 0 ∨ 8 ≤ x2.toNatClampNeg then none else if (((3 : Int32) * x3) + (2 : Int32)) < 0 ∨ 30 ≤ (((3 : Int32) * x3) + (2 : Int32)).toNatClampNeg then none else xl (((F_t 32) x2.toNatClampNeg) + ((F_t 19) (((3 : Int32) * x3) + (2 : Int32)).toNatClampNeg)) (fun y_27 => if y_24 < 0 ∨ 8 ≤ y_24.toNatClampNeg then none else if y_27 ≤ ((F_t 32) y_24.toNatClampNeg) then (if y_24 < 0 ∨ 8 ≤ y_24.toNatClampNeg then none else x_X10_layWays_b69_k175 N F_t x1 x2 x3 y_24 y_24 ((F_t 32) y_24.toNatClampNeg)) else (x_X10_layWays_b69_k175 N F_t x1 x2 x3 y_24 y_24 y_27))))) else (some (.inl ((x3 + (1 : Int32)), (F_t 32), (F_t 33)))))) else (some (.inl ((x3 + (1 : Int32)), (F_t 32), (F_t 33)))))
set_option maxHeartbeats 4000000 in
set_option maxRecDepth 100000 in
theorem t_X10_layWays_b69 {p : Program} {l : Launch} {e : Env} {s : State} {m : MethodId} {args : Array Value} {below : List Frame} {meth : Method} {c : Code} {g : gG} {A : Nat → Prop} {Q : State → Prop} (E : En p s m args meth c g A cX10_layWays 6 (.code yX10_layWays cX10_layWays 6 none :: gW) RX10 none) (q_t : Nat) (Q_t : Ad) (N : Nat) (F_t : St) (x1 : Int32) (x2 : Int32) (x3 : Int32) (o : (Int32 × (Nat → Int32) × (Nat → Int32)) ⊕ ((Nat → Int32) × (Nat → Int32))) (h : x_X10_layWays_b69 N F_t x1 x2 x3 = some o) (hc : ∀ z, o = .inl z → WA p l e (rM 1 22) s m args below meth c g A Q 6 69 [oX10 q_t Q_t (F_t 0 0) (F_t 2 0) (F_t 3 0) (F_t 4 0) (F_t 5 0) (F_t 6 0) (F_t 7 0) (F_t 8 0) (F_t 9 0) (F_t 10 0) (F_t 11 0) (F_t 12 0) (F_t 15 0) (F_t 16 0) (F_t 17 0) (F_t 23 0) (F_t 27 0) (F_t 28 0) (F_t 30 0), ia g (Q_t 18) 16 (F_t 18), ia g (Q_t 19) 30 (F_t 19), ia g (Q_t 20) 174 (F_t 20), ia g (Q_t 32) 8 z.2.1, ia g (Q_t 33) 8 z.2.2, ia g (Q_t 37) 8 (F_t 37)] [(0, .ref q_t), (1, .int x1), (2, .int x2), (3, .int z.1)] []) (he : ∀ v, o = .inr v → WA p l e (rM 1 22) s m args below meth c g A Q 6 198 [oX10 q_t Q_t (F_t 0 0) (F_t 2 0) (F_t 3 0) (F_t 4 0) (F_t 5 0) (F_t 6 0) (F_t 7 0) (F_t 8 0) (F_t 9 0) (F_t 10 0) (F_t 11 0) (F_t 12 0) (F_t 15 0) (F_t 16 0) (F_t 17 0) (F_t 23 0) (F_t 27 0) (F_t 28 0) (F_t 30 0), ia g (Q_t 18) 16 (F_t 18), ia g (Q_t 19) 30 (F_t 19), ia g (Q_t 20) 174 (F_t 20), ia g (Q_t 32) 8 v.1, ia g (Q_t 33) 8 v.2, ia g (Q_t 37) 8 (F_t 37)] [(0, .ref q_t), (1, .int x1)] []) : WA p l e (rM 1 22) s m args below meth c g A Q 6 69 [oX10 q_t Q_t (F_t 0 0) (F_t 2 0) (F_t 3 0) (F_t 4 0) (F_t 5 0) (F_t 6 0) (F_t 7 0) (F_t 8 0) (F_t 9 0) (F_t 10 0) (F_t 11 0) (F_t 12 0) (F_t 15 0) (F_t 16 0) (F_t 17 0) (F_t 23 0) (F_t 27 0) (F_t 28 0) (F_t 30 0), ia g (Q_t 18) 16 (F_t 18), ia g (Q_t 19) 30 (F_t 19), ia g (Q_t 20) 174 (F_t 20), ia g (Q_t 32) 8 (F_t 32), ia g (Q_t 33) 8 (F_t 33), ia g (Q_t 37) 8 (F_t 37)] [(0, .ref q_t), (1, .int x1), (2, .int x2), (3, .int x3)] [] := by
  obtain ⟨⟨hx, hb, hml, hown, hts⟩, hr, hK, hA, hlk⟩ := id E
  intro H locs ls hP hD hS hl
  refine lv_iload_n hx hb dX10_layWays_69 rfl (lv_at hl 3 rfl) ?_
  refine lv_aload_n hx hb dX10_layWays_70 rfl (lv_at hl 0 rfl) ?_
  refine va_get (ci := 10) (v := .int (F_t 17 0)) (C := RX10) (T := TX10) (N := 38) hx hb hts (fun w h => .tail _ (u_inX10 w h)) hown hK.1 hP 0 rfl rfl 17 (by decide) (hts _ (.tail _ u_fl_X10_87)) (fun _ h9 => h9) rfl dX10_layWays_71 ?_
  refine lv_icmp_ge (tgt := 198) hx hb dX10_layWays_74 (by decide) (fun c_16 => ?_) (fun c_16 => ?_)
  · have h := ox_t c_16 h
    obtain rfl := Option.some.inj h
    exact he _ rfl H locs ls hP hD hS (lv_sub hl [0, 1] rfl)
  · have h := ox_f c_16 h
    refine lv_aload_n hx hb dX10_layWays_77 rfl (lv_at hl 0 rfl) ?_
    refine va_get (ci := 10) (v := .ref (Q_t 19)) (C := RX10) (T := TX10) (N := 38) hx hb hts (fun w h => .tail _ (u_inX10 w h)) hown hK.1 hP 0 rfl rfl 19 (by decide) (hts _ (.tail _ u_fl_X10_26)) (fun _ h9 => h9) rfl dX10_layWays_78 ?_
    refine lv_iconst (v := (3 : Int32)) hx hb dX10_layWays_81 (by decide) ?_
    refine lv_iload_n hx hb dX10_layWays_82 rfl (lv_at hl 3 rfl) ?_
    refine lv_imul hx hb dX10_layWays_83 ?_
    obtain ⟨hi_17, h⟩ := ox_chk h
    refine va_iald hx hb hK.1 hP 2 0 rfl rfl hi_17 dX10_layWays_84 ?_
    refine lv_iload_n hx hb dX10_layWays_85 rfl (lv_at hl 2 rfl) ?_
    refine lv_icmp_ne (tgt := 192) hx hb dX10_layWays_86 (by decide) (fun c_18 => ?_) (fun c_18 => ?_)
    · have h := ox_f c_18 h
      refine lv_iinc (v := (x3 + (1 : Int32))) (lv' := [(3, .int (x3 + (1 : Int32))), (0, .ref q_t), (1, .int x1), (2, .int x2)]) hx hb dX10_layWays_192 hl (k := 3) rfl rfl (by decide) rfl (fun ls hl => ?_)
      refine lv_goto (tgt := 69) hx hb dX10_layWays_195 (by decide) ?_
      obtain rfl := Option.some.inj h
      exact hc _ rfl H locs ls hP hD hS (lv_sub hl [1, 2, 3, 0] rfl)
    · have h := ox_t c_18 h
      refine lv_aload_n hx hb dX10_layWays_89 rfl (lv_at hl 0 rfl) ?_
      refine va_get (ci := 10) (v := .ref (Q_t 20)) (C := RX10) (T := TX10) (N := 38) hx hb hts (fun w h => .tail _ (u_inX10 w h)) hown hK.1 hP 0 rfl rfl 20 (by decide) (hts _ (.tail _ u_fl_X10_29)) (fun _ h9 => h9) rfl dX10_layWays_90 ?_
      refine lv_sipush (v := (172 : Int32)) hx hb dX10_layWays_93 (by decide) ?_
      refine va_iald hx hb hK.1 hP 3 0 rfl rfl (by unfold vp_in; decide) dX10_layWays_96 ?_
      refine lv_iload_n hx hb dX10_layWays_97 rfl (lv_at hl 3 rfl) ?_
      obtain ⟨v_19, hv_19, h⟩ := ox_bind h
      refine kSi ⟨hx, hb, hml, hown, hts⟩ (c_X10_has l g ((F_t 20) (172 : Int32).toNatClampNeg) x3 v_19 hv_19 H.size) (gS u_ml_X10_194 u_st_X10_has u_ini_X10 u_co_X10_has) hd_X10_has ⟨rfl, rfl⟩ hK hP hD hS hA [] [0, 1, 2, 3, 4, 5, 6] rfl rfl 0 rfl (w2 := [oX10 q_t Q_t (F_t 0 0) (F_t 2 0) (F_t 3 0) (F_t 4 0) (F_t 5 0) (F_t 6 0) (F_t 7 0) (F_t 8 0) (F_t 9 0) (F_t 10 0) (F_t 11 0) (F_t 12 0) (F_t 15 0) (F_t 16 0) (F_t 17 0) (F_t 23 0) (F_t 27 0) (F_t 28 0) (F_t 30 0), ia g (Q_t 18) 16 (F_t 18), ia g (Q_t 19) 30 (F_t 19), ia g (Q_t 20) 174 (F_t 20), ia g (Q_t 32) 8 (F_t 32), ia g (Q_t 33) 8 (F_t 33), ia g (Q_t 37) 8 (F_t 37)]) rfl rfl (As := [.int ((F_t 20) (172 : Int32).toNatClampNeg), .int x3]) (rest := []) rfl hl.1 rfl rfl dX10_layWays_98 (fun H locs hP hD hS => ?_)
      refine lv_if_ne (tgt := 192) hx hb dX10_layWays_101 (by decide) (fun c_20 => ?_) (fun c_20 => ?_)
      · have h := ox_f c_20 h
        refine lv_iinc (v := (x3 + (1 : Int32))) (lv' := [(3, .int (x3 + (1 : Int32))), (0, .ref q_t), (1, .int x1), (2, .int x2)]) hx hb dX10_layWays_192 hl (k := 3) rfl rfl (by decide) rfl (fun ls hl => ?_)
        refine lv_goto (tgt := 69) hx hb dX10_layWays_195 (by decide) ?_
        obtain rfl := Option.some.inj h
        exact hc _ rfl H locs ls hP hD hS (lv_sub hl [1, 2, 3, 0] rfl)
      · have h := ox_t c_20 h
        refine lv_aload_n hx hb dX10_layWays_104 rfl (lv_at hl 0 rfl) ?_
        refine va_get (ci := 10) (v := .ref (Q_t 32)) (C := RX10) (T := TX10) (N := 38) hx hb hts (fun w h => .tail _ (u_inX10 w h)) hown hK.1 hP 0 rfl rfl 32 (by decide) (hts _ (.tail _ u_fl_X10_54)) (fun _ h9 => h9) rfl dX10_layWays_105 ?_
        refine lv_iload_n hx hb dX10_layWays_108 rfl (lv_at hl 2 rfl) ?_
        obtain ⟨hi_21, h⟩ := ox_chk h
        refine va_iald hx hb hK.1 hP 4 0 rfl rfl hi_21 dX10_layWays_109 ?_
        refine lv_iconst (v := (-1 : Int32)) hx hb dX10_layWays_110 (by decide) ?_
        refine lv_icmp_eq (tgt := 192) hx hb dX10_layWays_111 (by decide) (fun c_22 => ?_) (fun c_22 => ?_)
        · have h := ox_t c_22 h
          refine lv_iinc (v := (x3 + (1 : Int32))) (lv' := [(3, .int (x3 + (1 : Int32))), (0, .ref q_t), (1, .int x1), (2, .int x2)]) hx hb dX10_layWays_192 hl (k := 3) rfl rfl (by decide) rfl (fun ls hl => ?_)
          refine lv_goto (tgt := 69) hx hb dX10_layWays_195 (by decide) ?_
          obtain rfl := Option.some.inj h
          exact hc _ rfl H locs ls hP hD hS (lv_sub hl [1, 2, 3, 0] rfl)
        · have h := ox_f c_22 h
          refine lv_aload_n hx hb dX10_layWays_114 rfl (lv_at hl 0 rfl) ?_
          refine va_get (ci := 10) (v := .ref (Q_t 19)) (C := RX10) (T := TX10) (N := 38) hx hb hts (fun w h => .tail _ (u_inX10 w h)) hown hK.1 hP 0 rfl rfl 19 (by decide) (hts _ (.tail _ u_fl_X10_26)) (fun _ h9 => h9) rfl dX10_layWays_115 ?_
          refine lv_iconst (v := (3 : Int32)) hx hb dX10_layWays_118 (by decide) ?_
          refine lv_iload_n hx hb dX10_layWays_119 rfl (lv_at hl 3 rfl) ?_
          refine lv_imul hx hb dX10_layWays_120 ?_
          refine lv_iconst (v := (1 : Int32)) hx hb dX10_layWays_121 (by decide) ?_
          refine lv_iadd hx hb dX10_layWays_122 ?_
          obtain ⟨hi_23, h⟩ := ox_chk h
          refine va_iald hx hb hK.1 hP 2 0 rfl rfl hi_23 dX10_layWays_123 ?_
          refine lv_topi (fun y_24 ey_24 => ?_)
          have h := xl_at ey_24 h
          refine lv_istore (lv' := [(4, .int y_24), (0, .ref q_t), (1, .int x1), (2, .int x2), (3, .int x3)]) hx hb dX10_layWays_124 hl (by decide) rfl (fun ls hl => ?_)
          refine lv_aload_n hx hb dX10_layWays_126 rfl (lv_at hl 1 rfl) ?_
          refine va_get (ci := 10) (v := .ref (Q_t 32)) (C := RX10) (T := TX10) (N := 38) hx hb hts (fun w h => .tail _ (u_inX10 w h)) hown hK.1 hP 0 rfl rfl 32 (by decide) (hts _ (.tail _ u_fl_X10_54)) (fun _ h9 => h9) rfl dX10_layWays_127 ?_
          refine lv_iload_n hx hb dX10_layWays_130 rfl (lv_at hl 3 rfl) ?_
          obtain ⟨hi_25, h⟩ := ox_chk h
          refine va_iald hx hb hK.1 hP 4 0 rfl rfl hi_25 dX10_layWays_131 ?_
          refine lv_aload_n hx hb dX10_layWays_132 rfl (lv_at hl 1 rfl) ?_
          refine va_get (ci := 10) (v := .ref (Q_t 19)) (C := RX10) (T := TX10) (N := 38) hx hb hts (fun w h => .tail _ (u_inX10 w h)) hown hK.1 hP 0 rfl rfl 19 (by decide) (hts _ (.tail _ u_fl_X10_26)) (fun _ h9 => h9) rfl dX10_layWays_133 ?_
          refine lv_iconst (v := (3 : Int32)) hx hb dX10_layWays_136 (by decide) ?_
          refine lv_iload_n hx hb dX10_layWays_137 rfl (lv_at hl 4 rfl) ?_
          refine lv_imul hx hb dX10_layWays_138 ?_
          refine lv_iconst (v := (2 : Int32)) hx hb dX10_layWays_139 (by decide) ?_
          refine lv_iadd hx hb dX10_layWays_140 ?_
          obtain ⟨hi_26, h⟩ := ox_chk h
          refine va_iald hx hb hK.1 hP 2 0 rfl rfl hi_26 dX10_layWays_141 ?_
          refine lv_iadd hx hb dX10_layWays_142 ?_
          refine lv_topi (fun y_27 ey_27 => ?_)
          have h := xl_at ey_27 h
          refine lv_istore (lv' := [(5, .int y_27), (4, .int y_24), (0, .ref q_t), (1, .int x1), (2, .int x2), (3, .int x3)]) hx hb dX10_layWays_143 hl (by decide) rfl (fun ls hl => ?_)
          refine lv_aload_n hx hb dX10_layWays_145 rfl (lv_at hl 2 rfl) ?_
          refine va_get (ci := 10) (v := .ref (Q_t 32)) (C := RX10) (T := TX10) (N := 38) hx hb hts (fun w h => .tail _ (u_inX10 w h)) hown hK.1 hP 0 rfl rfl 32 (by decide) (hts _ (.tail _ u_fl_X10_54)) (fun _ h9 => h9) rfl dX10_layWays_146 ?_
          refine lv_iload hx hb dX10_layWays_149 (lv_at hl 1 rfl) ?_
          refine lv_iload hx hb dX10_layWays_151 (lv_at hl 0 rfl) ?_
          refine lv_aload_n hx hb dX10_layWays_153 rfl (lv_at hl 2 rfl) ?_
          refine va_get (ci := 10) (v := .ref (Q_t 32)) (C := RX10) (T := TX10) (N := 38) hx hb hts (fun w h => .tail _ (u_inX10 w h)) hown hK.1 hP 0 rfl rfl 32 (by decide) (hts _ (.tail _ u_fl_X10_54)) (fun _ h9 => h9) rfl dX10_layWays_154 ?_
          refine lv_iload hx hb dX10_layWays_157 (lv_at hl 1 rfl) ?_
          obtain ⟨hi_28, h⟩ := ox_chk h
          refine va_iald hx hb hK.1 hP 4 0 rfl rfl hi_28 dX10_layWays_159 ?_
          refine lv_icmp_le (tgt := 168) hx hb dX10_layWays_160 (by decide) (fun c_29 => ?_) (fun c_29 => ?_)
          · have h := ox_t c_29 h
            refine lv_aload_n hx hb dX10_layWays_168 rfl (lv_at hl 2 rfl) ?_
            refine va_get (ci := 10) (v := .ref (Q_t 32)) (C := RX10) (T := TX10) (N := 38) hx hb hts (fun w h => .tail _ (u_inX10 w h)) hown hK.1 hP 0 rfl rfl 32 (by decide) (hts _ (.tail _ u_fl_X10_54)) (fun _ h9 => h9) rfl dX10_layWays_169 ?_
            refine lv_iload hx hb dX10_layWays_172 (lv_at hl 1 rfl) ?_
            obtain ⟨hi_30, h⟩ := ox_chk h
            refine va_iald hx hb hK.1 hP 4 0 rfl rfl hi_30 dX10_layWays_174 ?_
            exact t_X10_layWays_b69_k175 E q_t Q_t N F_t x1 x2 x3 y_24 y_24 ((F_t 32) y_24.toNatClampNeg) _ h hc he H locs ls hP hD hS (lv_sub hl [2, 3, 4, 5, 1] rfl)
          · have h := ox_f c_29 h
            refine lv_iload hx hb dX10_layWays_163 (lv_at hl 0 rfl) ?_
            refine lv_goto (tgt := 175) hx hb dX10_layWays_165 (by decide) ?_
            exact t_X10_layWays_b69_k175 E q_t Q_t N F_t x1 x2 x3 y_24 y_24 y_27 _ h hc he H locs ls hP hD hS (lv_sub hl [2, 3, 4, 5, 1] rfl)
def x_X10_layWays_b52 (N : Nat) (F_t : St) (x1 : Int32) : Option ((Int32 × (Nat → Int32) × (Nat → Int32)) ⊕ ((Nat → Int32) × (Nat → Int32))) :=
  if (F_t 16 0) ≤ x1 then (some (.inr ((F_t 32), (F_t 33)))) else (if x1 < 0 ∨ 8 ≤ x1.toNatClampNeg then none else xl ((F_t 37) x1.toNatClampNeg) (fun y_10 => Option.bind (lpc (fun (z : Int32 × (Nat → Int32) × (Nat → Int32)) => x_X10_layWays_b69 N (va_up (va_up F_t 32 z.2.1) 33 z.2.2) x1 y_10 z.1) N ((0 : Int32), (F_t 32), (F_t 33))) (fun v_31 => some (.inl ((x1 + (1 : Int32)), v_31.1, v_31.2)))))
set_option maxHeartbeats 4000000 in
set_option maxRecDepth 100000 in
theorem t_X10_layWays_b52 {p : Program} {l : Launch} {e : Env} {s : State} {m : MethodId} {args : Array Value} {below : List Frame} {meth : Method} {c : Code} {g : gG} {A : Nat → Prop} {Q : State → Prop} (E : En p s m args meth c g A cX10_layWays 6 (.code yX10_layWays cX10_layWays 6 none :: gW) RX10 none) (q_t : Nat) (Q_t : Ad) (N : Nat) (F_t : St) (x1 : Int32) (o : (Int32 × (Nat → Int32) × (Nat → Int32)) ⊕ ((Nat → Int32) × (Nat → Int32))) (h : x_X10_layWays_b52 N F_t x1 = some o) (hc : ∀ z, o = .inl z → WA p l e (rM 1 22) s m args below meth c g A Q 6 52 [oX10 q_t Q_t (F_t 0 0) (F_t 2 0) (F_t 3 0) (F_t 4 0) (F_t 5 0) (F_t 6 0) (F_t 7 0) (F_t 8 0) (F_t 9 0) (F_t 10 0) (F_t 11 0) (F_t 12 0) (F_t 15 0) (F_t 16 0) (F_t 17 0) (F_t 23 0) (F_t 27 0) (F_t 28 0) (F_t 30 0), ia g (Q_t 18) 16 (F_t 18), ia g (Q_t 19) 30 (F_t 19), ia g (Q_t 20) 174 (F_t 20), ia g (Q_t 32) 8 z.2.1, ia g (Q_t 33) 8 z.2.2, ia g (Q_t 37) 8 (F_t 37)] [(0, .ref q_t), (1, .int z.1)] []) (he : ∀ v, o = .inr v → WA p l e (rM 1 22) s m args below meth c g A Q 6 204 [oX10 q_t Q_t (F_t 0 0) (F_t 2 0) (F_t 3 0) (F_t 4 0) (F_t 5 0) (F_t 6 0) (F_t 7 0) (F_t 8 0) (F_t 9 0) (F_t 10 0) (F_t 11 0) (F_t 12 0) (F_t 15 0) (F_t 16 0) (F_t 17 0) (F_t 23 0) (F_t 27 0) (F_t 28 0) (F_t 30 0), ia g (Q_t 18) 16 (F_t 18), ia g (Q_t 19) 30 (F_t 19), ia g (Q_t 20) 174 (F_t 20), ia g (Q_t 32) 8 v.1, ia g (Q_t 33) 8 v.2, ia g (Q_t 37) 8 (F_t 37)] [] []) : WA p l e (rM 1 22) s m args below meth c g A Q 6 52 [oX10 q_t Q_t (F_t 0 0) (F_t 2 0) (F_t 3 0) (F_t 4 0) (F_t 5 0) (F_t 6 0) (F_t 7 0) (F_t 8 0) (F_t 9 0) (F_t 10 0) (F_t 11 0) (F_t 12 0) (F_t 15 0) (F_t 16 0) (F_t 17 0) (F_t 23 0) (F_t 27 0) (F_t 28 0) (F_t 30 0), ia g (Q_t 18) 16 (F_t 18), ia g (Q_t 19) 30 (F_t 19), ia g (Q_t 20) 174 (F_t 20), ia g (Q_t 32) 8 (F_t 32), ia g (Q_t 33) 8 (F_t 33), ia g (Q_t 37) 8 (F_t 37)] [(0, .ref q_t), (1, .int x1)] [] := by
  obtain ⟨⟨hx, hb, hml, hown, hts⟩, hr, hK, hA, hlk⟩ := id E
  intro H locs ls hP hD hS hl
  refine lv_iload_n hx hb dX10_layWays_52 rfl (lv_at hl 1 rfl) ?_
  refine lv_aload_n hx hb dX10_layWays_53 rfl (lv_at hl 0 rfl) ?_
  refine va_get (ci := 10) (v := .int (F_t 16 0)) (C := RX10) (T := TX10) (N := 38) hx hb hts (fun w h => .tail _ (u_inX10 w h)) hown hK.1 hP 0 rfl rfl 16 (by decide) (hts _ (.tail _ u_fl_X10_80)) (fun _ h9 => h9) rfl dX10_layWays_54 ?_
  refine lv_icmp_ge (tgt := 204) hx hb dX10_layWays_57 (by decide) (fun c_8 => ?_) (fun c_8 => ?_)
  · have h := ox_t c_8 h
    obtain rfl := Option.some.inj h
    exact he _ rfl H locs ls hP hD hS (lv_sub hl [] rfl)
  · have h := ox_f c_8 h
    refine lv_aload_n hx hb dX10_layWays_60 rfl (lv_at hl 0 rfl) ?_
    refine va_get (ci := 10) (v := .ref (Q_t 37)) (C := RX10) (T := TX10) (N := 38) hx hb hts (fun w h => .tail _ (u_inX10 w h)) hown hK.1 hP 0 rfl rfl 37 (by decide) (hts _ (.tail _ u_fl_X10_70)) (fun _ h9 => h9) rfl dX10_layWays_61 ?_
    refine lv_iload_n hx hb dX10_layWays_64 rfl (lv_at hl 1 rfl) ?_
    obtain ⟨hi_9, h⟩ := ox_chk h
    refine va_iald hx hb hK.1 hP 6 0 rfl rfl hi_9 dX10_layWays_65 ?_
    refine lv_topi (fun y_10 ey_10 => ?_)
    have h := xl_at ey_10 h
    refine lv_istore_n (lv' := [(2, .int y_10), (0, .ref q_t), (1, .int x1)]) hx hb dX10_layWays_66 rfl hl (by decide) rfl (fun ls hl => ?_)
    refine lv_iconst (v := (0 : Int32)) hx hb dX10_layWays_67 (by decide) ?_
    refine lv_istore_n (lv' := [(3, .int (0 : Int32)), (2, .int y_10), (0, .ref q_t), (1, .int x1)]) hx hb dX10_layWays_68 rfl hl (by decide) rfl (fun ls hl => ?_)
    obtain ⟨v_31, hv_31, h⟩ := ox_bind h
    refine lpc_W (Wh := fun (z : Int32 × (Nat → Int32) × (Nat → Int32)) => WA p l e (rM 1 22) s m args below meth c g A Q 6 69 [oX10 q_t Q_t (F_t 0 0) (F_t 2 0) (F_t 3 0) (F_t 4 0) (F_t 5 0) (F_t 6 0) (F_t 7 0) (F_t 8 0) (F_t 9 0) (F_t 10 0) (F_t 11 0) (F_t 12 0) (F_t 15 0) (F_t 16 0) (F_t 17 0) (F_t 23 0) (F_t 27 0) (F_t 28 0) (F_t 30 0), ia g (Q_t 18) 16 (F_t 18), ia g (Q_t 19) 30 (F_t 19), ia g (Q_t 20) 174 (F_t 20), ia g (Q_t 32) 8 z.2.1, ia g (Q_t 33) 8 z.2.2, ia g (Q_t 37) 8 (F_t 37)] [(0, .ref q_t), (1, .int x1), (2, .int y_10), (3, .int z.1)] []) (We := fun (v : (Nat → Int32) × (Nat → Int32)) => WA p l e (rM 1 22) s m args below meth c g A Q 6 198 [oX10 q_t Q_t (F_t 0 0) (F_t 2 0) (F_t 3 0) (F_t 4 0) (F_t 5 0) (F_t 6 0) (F_t 7 0) (F_t 8 0) (F_t 9 0) (F_t 10 0) (F_t 11 0) (F_t 12 0) (F_t 15 0) (F_t 16 0) (F_t 17 0) (F_t 23 0) (F_t 27 0) (F_t 28 0) (F_t 30 0), ia g (Q_t 18) 16 (F_t 18), ia g (Q_t 19) 30 (F_t 19), ia g (Q_t 20) 174 (F_t 20), ia g (Q_t 32) 8 v.1, ia g (Q_t 33) 8 v.2, ia g (Q_t 37) 8 (F_t 37)] [(0, .ref q_t), (1, .int x1)] []) (fun z r hb hc he => t_X10_layWays_b69 E q_t Q_t N (va_up (va_up F_t 32 z.2.1) 33 z.2.2) x1 y_10 z.1 r hb hc he) N ((0 : Int32), (F_t 32), (F_t 33)) v_31 hv_31 ?_ H locs ls hP hD hS (lv_sub hl [2, 3, 1, 0] rfl)
    intro H locs ls hP hD hS hl
    refine lv_iinc (v := (x1 + (1 : Int32))) (lv' := [(1, .int (x1 + (1 : Int32))), (0, .ref q_t)]) hx hb dX10_layWays_198 hl (k := 1) rfl rfl (by decide) rfl (fun ls hl => ?_)
    refine lv_goto (tgt := 52) hx hb dX10_layWays_201 (by decide) ?_
    obtain rfl := Option.some.inj h
    exact hc _ rfl H locs ls hP hD hS (lv_sub hl [1, 0] rfl)
def x_X10_layWays (N : Nat) (F_t : St) : Option ((Nat → Int32) × (Nat → Int32) × (Nat → Int32)) :=
  Option.bind (x_X10_layOrder N F_t) (fun v_1 => Option.bind (lpc (fun (z : Int32 × (Nat → Int32) × (Nat → Int32)) => x_X10_layWays_b6 N (va_up (va_up (va_up F_t 32 z.2.1) 33 z.2.2) 37 v_1) z.1) N ((0 : Int32), (F_t 32), (F_t 33))) (fun v_7 => Option.bind (lpc (fun (z : Int32 × (Nat → Int32) × (Nat → Int32)) => x_X10_layWays_b52 N (va_up (va_up (va_up F_t 32 z.2.1) 33 z.2.2) 37 v_1) z.1) N ((0 : Int32), v_7.1, v_7.2)) (fun v_32 => some (v_32.1, v_32.2, v_1))))
set_option maxHeartbeats 4000000 in
set_option maxRecDepth 100000 in
theorem t_X10_layWays {p : Program} {l : Launch} {e : Env} {s : State} {m : MethodId} {args : Array Value} {below : List Frame} {meth : Method} {c : Code} {g : gG} {A : Nat → Prop} (E : En p s m args meth c g A cX10_layWays 6 (.code yX10_layWays cX10_layWays 6 none :: gW) RX10 none) (q_t : Nat) (Q_t : Ad) (N : Nat) (F_t : St) (o : (Nat → Int32) × (Nat → Int32) × (Nat → Int32)) (h : x_X10_layWays N F_t = some o) : WA p l e (rM 1 22) s m args below meth c g A (MQ below (QV g A [oX10 q_t Q_t (F_t 0 0) (F_t 2 0) (F_t 3 0) (F_t 4 0) (F_t 5 0) (F_t 6 0) (F_t 7 0) (F_t 8 0) (F_t 9 0) (F_t 10 0) (F_t 11 0) (F_t 12 0) (F_t 15 0) (F_t 16 0) (F_t 17 0) (F_t 23 0) (F_t 27 0) (F_t 28 0) (F_t 30 0), ia g (Q_t 18) 16 (F_t 18), ia g (Q_t 19) 30 (F_t 19), ia g (Q_t 20) 174 (F_t 20), ia g (Q_t 32) 8 o.1, ia g (Q_t 33) 8 o.2.1, ia g (Q_t 37) 8 o.2.2]) args s 0 0 A) 6 0 [oX10 q_t Q_t (F_t 0 0) (F_t 2 0) (F_t 3 0) (F_t 4 0) (F_t 5 0) (F_t 6 0) (F_t 7 0) (F_t 8 0) (F_t 9 0) (F_t 10 0) (F_t 11 0) (F_t 12 0) (F_t 15 0) (F_t 16 0) (F_t 17 0) (F_t 23 0) (F_t 27 0) (F_t 28 0) (F_t 30 0), ia g (Q_t 18) 16 (F_t 18), ia g (Q_t 19) 30 (F_t 19), ia g (Q_t 20) 174 (F_t 20), ia g (Q_t 32) 8 (F_t 32), ia g (Q_t 33) 8 (F_t 33), ia g (Q_t 37) 8 (F_t 37)] [(0, .ref q_t)] [] := by
  obtain ⟨⟨hx, hb, hml, hown, hts⟩, hr, hK, hA, hlk⟩ := id E
  intro H locs ls hP hD hS hl
  refine lv_aload_n hx hb dX10_layWays_0 rfl (lv_at hl 0 rfl) ?_
  obtain ⟨v_1, hv_1, h⟩ := ox_bind h
  refine kVv ⟨hx, hb, hml, hown, hts⟩ (c_X10_layOrder l g q_t Q_t N F_t v_1 hv_1 H.size) (gV u_ml_X10_239 u_im_X10_layOrder u_se_X10_layOrder u_ini_X10 u_co_X10_layOrder) hd_X10_layOrder ⟨rfl, rfl⟩ hK hP hD hS hA 0 10 rfl rfl [0, 1, 6] [0, 1, 5, 6, 7, 8, 2] rfl rfl 3 rfl (w2 := [oX10 q_t Q_t (F_t 0 0) (F_t 2 0) (F_t 3 0) (F_t 4 0) (F_t 5 0) (F_t 6 0) (F_t 7 0) (F_t 8 0) (F_t 9 0) (F_t 10 0) (F_t 11 0) (F_t 12 0) (F_t 15 0) (F_t 16 0) (F_t 17 0) (F_t 23 0) (F_t 27 0) (F_t 28 0) (F_t 30 0), ia g (Q_t 18) 16 (F_t 18), ia g (Q_t 19) 30 (F_t 19), ia g (Q_t 20) 174 (F_t 20), ia g (Q_t 32) 8 (F_t 32), ia g (Q_t 33) 8 (F_t 33), ia g (Q_t 37) 8 v_1]) rfl rfl (As := []) (rest := []) rfl hl.1 rfl rfl dX10_layWays_1 (fun H locs hP hD hS => ?_)
  refine lv_iconst (v := (0 : Int32)) hx hb dX10_layWays_4 (by decide) ?_
  refine lv_istore_n (lv' := [(1, .int (0 : Int32)), (0, .ref q_t)]) hx hb dX10_layWays_5 rfl hl (by decide) rfl (fun ls hl => ?_)
  obtain ⟨v_7, hv_7, h⟩ := ox_bind h
  refine lpc_W (Wh := fun (z : Int32 × (Nat → Int32) × (Nat → Int32)) => WA p l e (rM 1 22) s m args below meth c g A (MQ below (QV g A [oX10 q_t Q_t (F_t 0 0) (F_t 2 0) (F_t 3 0) (F_t 4 0) (F_t 5 0) (F_t 6 0) (F_t 7 0) (F_t 8 0) (F_t 9 0) (F_t 10 0) (F_t 11 0) (F_t 12 0) (F_t 15 0) (F_t 16 0) (F_t 17 0) (F_t 23 0) (F_t 27 0) (F_t 28 0) (F_t 30 0), ia g (Q_t 18) 16 (F_t 18), ia g (Q_t 19) 30 (F_t 19), ia g (Q_t 20) 174 (F_t 20), ia g (Q_t 32) 8 o.1, ia g (Q_t 33) 8 o.2.1, ia g (Q_t 37) 8 o.2.2]) args s 0 0 A) 6 6 [oX10 q_t Q_t (F_t 0 0) (F_t 2 0) (F_t 3 0) (F_t 4 0) (F_t 5 0) (F_t 6 0) (F_t 7 0) (F_t 8 0) (F_t 9 0) (F_t 10 0) (F_t 11 0) (F_t 12 0) (F_t 15 0) (F_t 16 0) (F_t 17 0) (F_t 23 0) (F_t 27 0) (F_t 28 0) (F_t 30 0), ia g (Q_t 18) 16 (F_t 18), ia g (Q_t 19) 30 (F_t 19), ia g (Q_t 20) 174 (F_t 20), ia g (Q_t 32) 8 z.2.1, ia g (Q_t 33) 8 z.2.2, ia g (Q_t 37) 8 v_1] [(0, .ref q_t), (1, .int z.1)] []) (We := fun (v : (Nat → Int32) × (Nat → Int32)) => WA p l e (rM 1 22) s m args below meth c g A (MQ below (QV g A [oX10 q_t Q_t (F_t 0 0) (F_t 2 0) (F_t 3 0) (F_t 4 0) (F_t 5 0) (F_t 6 0) (F_t 7 0) (F_t 8 0) (F_t 9 0) (F_t 10 0) (F_t 11 0) (F_t 12 0) (F_t 15 0) (F_t 16 0) (F_t 17 0) (F_t 23 0) (F_t 27 0) (F_t 28 0) (F_t 30 0), ia g (Q_t 18) 16 (F_t 18), ia g (Q_t 19) 30 (F_t 19), ia g (Q_t 20) 174 (F_t 20), ia g (Q_t 32) 8 o.1, ia g (Q_t 33) 8 o.2.1, ia g (Q_t 37) 8 o.2.2]) args s 0 0 A) 6 50 [oX10 q_t Q_t (F_t 0 0) (F_t 2 0) (F_t 3 0) (F_t 4 0) (F_t 5 0) (F_t 6 0) (F_t 7 0) (F_t 8 0) (F_t 9 0) (F_t 10 0) (F_t 11 0) (F_t 12 0) (F_t 15 0) (F_t 16 0) (F_t 17 0) (F_t 23 0) (F_t 27 0) (F_t 28 0) (F_t 30 0), ia g (Q_t 18) 16 (F_t 18), ia g (Q_t 19) 30 (F_t 19), ia g (Q_t 20) 174 (F_t 20), ia g (Q_t 32) 8 v.1, ia g (Q_t 33) 8 v.2, ia g (Q_t 37) 8 v_1] [(0, .ref q_t)] []) (fun z r hb hc he => t_X10_layWays_b6 E q_t Q_t N (va_up (va_up (va_up F_t 32 z.2.1) 33 z.2.2) 37 v_1) z.1 r hb hc he) N ((0 : Int32), (F_t 32), (F_t 33)) v_7 hv_7 ?_ H locs ls hP hD hS (lv_sub hl [1, 0] rfl)
  intro H locs ls hP hD hS hl
  refine lv_iconst (v := (0 : Int32)) hx hb dX10_layWays_50 (by decide) ?_
  refine lv_istore_n (lv' := [(1, .int (0 : Int32)), (0, .ref q_t)]) hx hb dX10_layWays_51 rfl hl (by decide) rfl (fun ls hl => ?_)
  obtain ⟨v_32, hv_32, h⟩ := ox_bind h
  refine lpc_W (Wh := fun (z : Int32 × (Nat → Int32) × (Nat → Int32)) => WA p l e (rM 1 22) s m args below meth c g A (MQ below (QV g A [oX10 q_t Q_t (F_t 0 0) (F_t 2 0) (F_t 3 0) (F_t 4 0) (F_t 5 0) (F_t 6 0) (F_t 7 0) (F_t 8 0) (F_t 9 0) (F_t 10 0) (F_t 11 0) (F_t 12 0) (F_t 15 0) (F_t 16 0) (F_t 17 0) (F_t 23 0) (F_t 27 0) (F_t 28 0) (F_t 30 0), ia g (Q_t 18) 16 (F_t 18), ia g (Q_t 19) 30 (F_t 19), ia g (Q_t 20) 174 (F_t 20), ia g (Q_t 32) 8 o.1, ia g (Q_t 33) 8 o.2.1, ia g (Q_t 37) 8 o.2.2]) args s 0 0 A) 6 52 [oX10 q_t Q_t (F_t 0 0) (F_t 2 0) (F_t 3 0) (F_t 4 0) (F_t 5 0) (F_t 6 0) (F_t 7 0) (F_t 8 0) (F_t 9 0) (F_t 10 0) (F_t 11 0) (F_t 12 0) (F_t 15 0) (F_t 16 0) (F_t 17 0) (F_t 23 0) (F_t 27 0) (F_t 28 0) (F_t 30 0), ia g (Q_t 18) 16 (F_t 18), ia g (Q_t 19) 30 (F_t 19), ia g (Q_t 20) 174 (F_t 20), ia g (Q_t 32) 8 z.2.1, ia g (Q_t 33) 8 z.2.2, ia g (Q_t 37) 8 v_1] [(0, .ref q_t), (1, .int z.1)] []) (We := fun (v : (Nat → Int32) × (Nat → Int32)) => WA p l e (rM 1 22) s m args below meth c g A (MQ below (QV g A [oX10 q_t Q_t (F_t 0 0) (F_t 2 0) (F_t 3 0) (F_t 4 0) (F_t 5 0) (F_t 6 0) (F_t 7 0) (F_t 8 0) (F_t 9 0) (F_t 10 0) (F_t 11 0) (F_t 12 0) (F_t 15 0) (F_t 16 0) (F_t 17 0) (F_t 23 0) (F_t 27 0) (F_t 28 0) (F_t 30 0), ia g (Q_t 18) 16 (F_t 18), ia g (Q_t 19) 30 (F_t 19), ia g (Q_t 20) 174 (F_t 20), ia g (Q_t 32) 8 o.1, ia g (Q_t 33) 8 o.2.1, ia g (Q_t 37) 8 o.2.2]) args s 0 0 A) 6 204 [oX10 q_t Q_t (F_t 0 0) (F_t 2 0) (F_t 3 0) (F_t 4 0) (F_t 5 0) (F_t 6 0) (F_t 7 0) (F_t 8 0) (F_t 9 0) (F_t 10 0) (F_t 11 0) (F_t 12 0) (F_t 15 0) (F_t 16 0) (F_t 17 0) (F_t 23 0) (F_t 27 0) (F_t 28 0) (F_t 30 0), ia g (Q_t 18) 16 (F_t 18), ia g (Q_t 19) 30 (F_t 19), ia g (Q_t 20) 174 (F_t 20), ia g (Q_t 32) 8 v.1, ia g (Q_t 33) 8 v.2, ia g (Q_t 37) 8 v_1] [] []) (fun z r hb hc he => t_X10_layWays_b52 E q_t Q_t N (va_up (va_up (va_up F_t 32 z.2.1) 33 z.2.2) 37 v_1) z.1 r hb hc he) N ((0 : Int32), v_7.1, v_7.2) v_32 hv_32 ?_ H locs ls hP hD hS (lv_sub hl [1, 0] rfl)
  intro H locs ls hP hD hS hl
  obtain rfl := Option.some.inj h
  exact k_vret hx hb hr hlk hP hD hS dX10_layWays_204
set_option maxRecDepth 100000 in
theorem c_X10_layWays (l : Launch) (g : gG) (q_t : Nat) (Q_t : Ad) (N : Nat) (F_t : St) (o : (Nat → Int32) × (Nat → Int32) × (Nat → Int32)) (h : x_X10_layWays N F_t = some o) (sz : Nat) : MetV l yX10_layWays (.code yX10_layWays cX10_layWays 6 none :: gW) 1 22 [.ref q_t] g [oX10 q_t Q_t (F_t 0 0) (F_t 2 0) (F_t 3 0) (F_t 4 0) (F_t 5 0) (F_t 6 0) (F_t 7 0) (F_t 8 0) (F_t 9 0) (F_t 10 0) (F_t 11 0) (F_t 12 0) (F_t 15 0) (F_t 16 0) (F_t 17 0) (F_t 23 0) (F_t 27 0) (F_t 28 0) (F_t 30 0), ia g (Q_t 18) 16 (F_t 18), ia g (Q_t 19) 30 (F_t 19), ia g (Q_t 20) 174 (F_t 20), ia g (Q_t 32) 8 (F_t 32), ia g (Q_t 33) 8 (F_t 33), ia g (Q_t 37) 8 (F_t 37)] [oX10 q_t Q_t (F_t 0 0) (F_t 2 0) (F_t 3 0) (F_t 4 0) (F_t 5 0) (F_t 6 0) (F_t 7 0) (F_t 8 0) (F_t 9 0) (F_t 10 0) (F_t 11 0) (F_t 12 0) (F_t 15 0) (F_t 16 0) (F_t 17 0) (F_t 23 0) (F_t 27 0) (F_t 28 0) (F_t 30 0), ia g (Q_t 18) 16 (F_t 18), ia g (Q_t 19) 30 (F_t 19), ia g (Q_t 20) 174 (F_t 20), ia g (Q_t 32) 8 o.1, ia g (Q_t 33) 8 o.2.1, ia g (Q_t 37) 8 o.2.2] sz :=
  mkV (av := [.ref q_t]) (by decide +kernel) rfl (fun p e s m below meth c A E H locs ls hP hD hS hl => t_X10_layWays E q_t Q_t N F_t o h H locs ls hP hD hS hl) sz
def x_X10_longest (N : Nat) (F_t : St) (x1 : Int32) : Option (Int32 × (Nat → Int32) × (Nat → Int32) × (Nat → Int32)) :=
  Option.bind (x_X10_isPlace F_t x1) (fun v_1 => if v_1 = 0 then (some ((-1000000001 : Int32), (F_t 32), (F_t 33), (F_t 37))) else (Option.bind (x_X10_layWays N F_t) (fun v_3 => if x1 < 0 ∨ 8 ≤ x1.toNatClampNeg then none else some ((v_3.1 x1.toNatClampNeg), v_3.1, v_3.2.1, v_3.2.2))))
set_option maxHeartbeats 4000000 in
set_option maxRecDepth 100000 in
theorem t_X10_longest {p : Program} {l : Launch} {e : Env} {s : State} {m : MethodId} {args : Array Value} {below : List Frame} {meth : Method} {c : Code} {g : gG} {A : Nat → Prop} (E : En p s m args meth c g A cX10_longest 2 (.code yX10_longest cX10_longest 2 (some .int) :: gW) RX10 (some .int)) (q_t : Nat) (Q_t : Ad) (N : Nat) (F_t : St) (x1 : Int32) (o : Int32 × (Nat → Int32) × (Nat → Int32) × (Nat → Int32)) (h : x_X10_longest N F_t x1 = some o) : WA p l e (rM 2 47) s m args below meth c g A (MQ below (QI g A o.1 [oX10 q_t Q_t (F_t 0 0) (F_t 2 0) (F_t 3 0) (F_t 4 0) (F_t 5 0) (F_t 6 0) (F_t 7 0) (F_t 8 0) (F_t 9 0) (F_t 10 0) (F_t 11 0) (F_t 12 0) (F_t 15 0) (F_t 16 0) (F_t 17 0) (F_t 23 0) (F_t 27 0) (F_t 28 0) (F_t 30 0), ia g (Q_t 18) 16 (F_t 18), ia g (Q_t 19) 30 (F_t 19), ia g (Q_t 20) 174 (F_t 20), ia g (Q_t 32) 8 o.2.1, ia g (Q_t 33) 8 o.2.2.1, ia g (Q_t 37) 8 o.2.2.2]) args s 0 0 A) 2 0 [oX10 q_t Q_t (F_t 0 0) (F_t 2 0) (F_t 3 0) (F_t 4 0) (F_t 5 0) (F_t 6 0) (F_t 7 0) (F_t 8 0) (F_t 9 0) (F_t 10 0) (F_t 11 0) (F_t 12 0) (F_t 15 0) (F_t 16 0) (F_t 17 0) (F_t 23 0) (F_t 27 0) (F_t 28 0) (F_t 30 0), ia g (Q_t 18) 16 (F_t 18), ia g (Q_t 19) 30 (F_t 19), ia g (Q_t 20) 174 (F_t 20), ia g (Q_t 32) 8 (F_t 32), ia g (Q_t 33) 8 (F_t 33), ia g (Q_t 37) 8 (F_t 37)] [(0, .ref q_t), (1, .int x1)] [] := by
  obtain ⟨⟨hx, hb, hml, hown, hts⟩, hr, hK, hA, hlk⟩ := id E
  intro H locs ls hP hD hS hl
  refine lv_aload_n hx hb dX10_longest_0 rfl (lv_at hl 0 rfl) ?_
  refine lv_iload_n hx hb dX10_longest_1 rfl (lv_at hl 1 rfl) ?_
  obtain ⟨v_1, hv_1, h⟩ := ox_bind h
  refine kVi ⟨hx, hb, hml, hown, hts⟩ (c_X10_isPlace l g q_t Q_t F_t x1 v_1 hv_1 H.size) (gV u_ml_X10_180 u_im_X10_isPlace u_se_X10_isPlace u_ini_X10 u_co_X10_isPlace) hd_X10_isPlace ⟨rfl, rfl⟩ hK hP hD hS hA 0 10 rfl rfl [0] [0, 2, 3, 4, 5, 6, 7] rfl rfl 1 rfl (w2 := [oX10 q_t Q_t (F_t 0 0) (F_t 2 0) (F_t 3 0) (F_t 4 0) (F_t 5 0) (F_t 6 0) (F_t 7 0) (F_t 8 0) (F_t 9 0) (F_t 10 0) (F_t 11 0) (F_t 12 0) (F_t 15 0) (F_t 16 0) (F_t 17 0) (F_t 23 0) (F_t 27 0) (F_t 28 0) (F_t 30 0), ia g (Q_t 18) 16 (F_t 18), ia g (Q_t 19) 30 (F_t 19), ia g (Q_t 20) 174 (F_t 20), ia g (Q_t 32) 8 (F_t 32), ia g (Q_t 33) 8 (F_t 33), ia g (Q_t 37) 8 (F_t 37)]) rfl rfl (As := [.int x1]) (rest := []) rfl hl.1 rfl rfl dX10_longest_2 (fun H locs hP hD hS => ?_)
  refine lv_if_ne (tgt := 11) hx hb dX10_longest_5 (by decide) (fun c_2 => ?_) (fun c_2 => ?_)
  · have h := ox_f c_2 h
    refine lv_aload_n hx hb dX10_longest_11 rfl (lv_at hl 0 rfl) ?_
    obtain ⟨v_3, hv_3, h⟩ := ox_bind h
    refine kVv ⟨hx, hb, hml, hown, hts⟩ (c_X10_layWays l g q_t Q_t N F_t v_3 hv_3 H.size) (gV u_ml_X10_242 u_im_X10_layWays u_se_X10_layWays u_ini_X10 u_co_X10_layWays) hd_X10_layWays ⟨rfl, rfl⟩ hK hP hD hS hA 0 10 rfl rfl [0, 1, 2, 3, 4, 5, 6] [0, 1, 2, 3, 4, 5, 6] rfl rfl 7 rfl (w2 := [oX10 q_t Q_t (F_t 0 0) (F_t 2 0) (F_t 3 0) (F_t 4 0) (F_t 5 0) (F_t 6 0) (F_t 7 0) (F_t 8 0) (F_t 9 0) (F_t 10 0) (F_t 11 0) (F_t 12 0) (F_t 15 0) (F_t 16 0) (F_t 17 0) (F_t 23 0) (F_t 27 0) (F_t 28 0) (F_t 30 0), ia g (Q_t 18) 16 (F_t 18), ia g (Q_t 19) 30 (F_t 19), ia g (Q_t 20) 174 (F_t 20), ia g (Q_t 32) 8 v_3.1, ia g (Q_t 33) 8 v_3.2.1, ia g (Q_t 37) 8 v_3.2.2]) rfl rfl (As := []) (rest := []) rfl hl.1 rfl rfl dX10_longest_12 (fun H locs hP hD hS => ?_)
    refine lv_aload_n hx hb dX10_longest_15 rfl (lv_at hl 0 rfl) ?_
    refine va_get (ci := 10) (v := .ref (Q_t 32)) (C := RX10) (T := TX10) (N := 38) hx hb hts (fun w h => .tail _ (u_inX10 w h)) hown hK.1 hP 0 rfl rfl 32 (by decide) (hts _ (.tail _ u_fl_X10_54)) (fun _ h9 => h9) rfl dX10_longest_16 ?_
    refine lv_iload_n hx hb dX10_longest_19 rfl (lv_at hl 1 rfl) ?_
    obtain ⟨hi_4, h⟩ := ox_chk h
    refine va_iald hx hb hK.1 hP 4 0 rfl rfl hi_4 dX10_longest_20 ?_
    obtain rfl := Option.some.inj h
    exact k_iret hx hb hr hlk hP hD hS dX10_longest_21
  · have h := ox_t c_2 h
    refine lv_ldc (v := (-1000000001 : Int32)) hx hb hown (hts _ (.tail _ u_k_X10_183)) dX10_longest_8 ?_
    obtain rfl := Option.some.inj h
    exact k_iret hx hb hr hlk hP hD hS dX10_longest_10
set_option maxRecDepth 100000 in
theorem c_X10_longest (l : Launch) (g : gG) (q_t : Nat) (Q_t : Ad) (N : Nat) (F_t : St) (x1 : Int32) (o : Int32 × (Nat → Int32) × (Nat → Int32) × (Nat → Int32)) (h : x_X10_longest N F_t x1 = some o) (sz : Nat) : MetI l yX10_longest (.code yX10_longest cX10_longest 2 (some .int) :: gW) 2 47 [.ref q_t, .int x1] o.1 g [oX10 q_t Q_t (F_t 0 0) (F_t 2 0) (F_t 3 0) (F_t 4 0) (F_t 5 0) (F_t 6 0) (F_t 7 0) (F_t 8 0) (F_t 9 0) (F_t 10 0) (F_t 11 0) (F_t 12 0) (F_t 15 0) (F_t 16 0) (F_t 17 0) (F_t 23 0) (F_t 27 0) (F_t 28 0) (F_t 30 0), ia g (Q_t 18) 16 (F_t 18), ia g (Q_t 19) 30 (F_t 19), ia g (Q_t 20) 174 (F_t 20), ia g (Q_t 32) 8 (F_t 32), ia g (Q_t 33) 8 (F_t 33), ia g (Q_t 37) 8 (F_t 37)] [oX10 q_t Q_t (F_t 0 0) (F_t 2 0) (F_t 3 0) (F_t 4 0) (F_t 5 0) (F_t 6 0) (F_t 7 0) (F_t 8 0) (F_t 9 0) (F_t 10 0) (F_t 11 0) (F_t 12 0) (F_t 15 0) (F_t 16 0) (F_t 17 0) (F_t 23 0) (F_t 27 0) (F_t 28 0) (F_t 30 0), ia g (Q_t 18) 16 (F_t 18), ia g (Q_t 19) 30 (F_t 19), ia g (Q_t 20) 174 (F_t 20), ia g (Q_t 32) 8 o.2.1, ia g (Q_t 33) 8 o.2.2.1, ia g (Q_t 37) 8 o.2.2.2] sz :=
  mkI (av := [.ref q_t, .int x1]) (by decide +kernel) rfl (fun p e s m below meth c A E H locs ls hP hD hS hl => t_X10_longest E q_t Q_t N F_t x1 o h H locs ls hP hD hS hl) sz
def x_X10_ways (N : Nat) (F_t : St) (x1 : Int32) : Option (Int32 × (Nat → Int32) × (Nat → Int32) × (Nat → Int32)) :=
  Option.bind (x_X10_isPlace F_t x1) (fun v_1 => if v_1 = 0 then (some ((-1000000001 : Int32), (F_t 32), (F_t 33), (F_t 37))) else (Option.bind (x_X10_layWays N F_t) (fun v_3 => if x1 < 0 ∨ 8 ≤ x1.toNatClampNeg then none else some ((v_3.2.1 x1.toNatClampNeg), v_3.1, v_3.2.1, v_3.2.2))))
set_option maxHeartbeats 4000000 in
set_option maxRecDepth 100000 in
theorem t_X10_ways {p : Program} {l : Launch} {e : Env} {s : State} {m : MethodId} {args : Array Value} {below : List Frame} {meth : Method} {c : Code} {g : gG} {A : Nat → Prop} (E : En p s m args meth c g A cX10_ways 2 (.code yX10_ways cX10_ways 2 (some .int) :: gW) RX10 (some .int)) (q_t : Nat) (Q_t : Ad) (N : Nat) (F_t : St) (x1 : Int32) (o : Int32 × (Nat → Int32) × (Nat → Int32) × (Nat → Int32)) (h : x_X10_ways N F_t x1 = some o) : WA p l e (rM 2 47) s m args below meth c g A (MQ below (QI g A o.1 [oX10 q_t Q_t (F_t 0 0) (F_t 2 0) (F_t 3 0) (F_t 4 0) (F_t 5 0) (F_t 6 0) (F_t 7 0) (F_t 8 0) (F_t 9 0) (F_t 10 0) (F_t 11 0) (F_t 12 0) (F_t 15 0) (F_t 16 0) (F_t 17 0) (F_t 23 0) (F_t 27 0) (F_t 28 0) (F_t 30 0), ia g (Q_t 18) 16 (F_t 18), ia g (Q_t 19) 30 (F_t 19), ia g (Q_t 20) 174 (F_t 20), ia g (Q_t 32) 8 o.2.1, ia g (Q_t 33) 8 o.2.2.1, ia g (Q_t 37) 8 o.2.2.2]) args s 0 0 A) 2 0 [oX10 q_t Q_t (F_t 0 0) (F_t 2 0) (F_t 3 0) (F_t 4 0) (F_t 5 0) (F_t 6 0) (F_t 7 0) (F_t 8 0) (F_t 9 0) (F_t 10 0) (F_t 11 0) (F_t 12 0) (F_t 15 0) (F_t 16 0) (F_t 17 0) (F_t 23 0) (F_t 27 0) (F_t 28 0) (F_t 30 0), ia g (Q_t 18) 16 (F_t 18), ia g (Q_t 19) 30 (F_t 19), ia g (Q_t 20) 174 (F_t 20), ia g (Q_t 32) 8 (F_t 32), ia g (Q_t 33) 8 (F_t 33), ia g (Q_t 37) 8 (F_t 37)] [(0, .ref q_t), (1, .int x1)] [] := by
  obtain ⟨⟨hx, hb, hml, hown, hts⟩, hr, hK, hA, hlk⟩ := id E
  intro H locs ls hP hD hS hl
  refine lv_aload_n hx hb dX10_ways_0 rfl (lv_at hl 0 rfl) ?_
  refine lv_iload_n hx hb dX10_ways_1 rfl (lv_at hl 1 rfl) ?_
  obtain ⟨v_1, hv_1, h⟩ := ox_bind h
  refine kVi ⟨hx, hb, hml, hown, hts⟩ (c_X10_isPlace l g q_t Q_t F_t x1 v_1 hv_1 H.size) (gV u_ml_X10_180 u_im_X10_isPlace u_se_X10_isPlace u_ini_X10 u_co_X10_isPlace) hd_X10_isPlace ⟨rfl, rfl⟩ hK hP hD hS hA 0 10 rfl rfl [0] [0, 2, 3, 4, 5, 6, 7] rfl rfl 1 rfl (w2 := [oX10 q_t Q_t (F_t 0 0) (F_t 2 0) (F_t 3 0) (F_t 4 0) (F_t 5 0) (F_t 6 0) (F_t 7 0) (F_t 8 0) (F_t 9 0) (F_t 10 0) (F_t 11 0) (F_t 12 0) (F_t 15 0) (F_t 16 0) (F_t 17 0) (F_t 23 0) (F_t 27 0) (F_t 28 0) (F_t 30 0), ia g (Q_t 18) 16 (F_t 18), ia g (Q_t 19) 30 (F_t 19), ia g (Q_t 20) 174 (F_t 20), ia g (Q_t 32) 8 (F_t 32), ia g (Q_t 33) 8 (F_t 33), ia g (Q_t 37) 8 (F_t 37)]) rfl rfl (As := [.int x1]) (rest := []) rfl hl.1 rfl rfl dX10_ways_2 (fun H locs hP hD hS => ?_)
  refine lv_if_ne (tgt := 11) hx hb dX10_ways_5 (by decide) (fun c_2 => ?_) (fun c_2 => ?_)
  · have h := ox_f c_2 h
    refine lv_aload_n hx hb dX10_ways_11 rfl (lv_at hl 0 rfl) ?_
    obtain ⟨v_3, hv_3, h⟩ := ox_bind h
    refine kVv ⟨hx, hb, hml, hown, hts⟩ (c_X10_layWays l g q_t Q_t N F_t v_3 hv_3 H.size) (gV u_ml_X10_242 u_im_X10_layWays u_se_X10_layWays u_ini_X10 u_co_X10_layWays) hd_X10_layWays ⟨rfl, rfl⟩ hK hP hD hS hA 0 10 rfl rfl [0, 1, 2, 3, 4, 5, 6] [0, 1, 2, 3, 4, 5, 6] rfl rfl 7 rfl (w2 := [oX10 q_t Q_t (F_t 0 0) (F_t 2 0) (F_t 3 0) (F_t 4 0) (F_t 5 0) (F_t 6 0) (F_t 7 0) (F_t 8 0) (F_t 9 0) (F_t 10 0) (F_t 11 0) (F_t 12 0) (F_t 15 0) (F_t 16 0) (F_t 17 0) (F_t 23 0) (F_t 27 0) (F_t 28 0) (F_t 30 0), ia g (Q_t 18) 16 (F_t 18), ia g (Q_t 19) 30 (F_t 19), ia g (Q_t 20) 174 (F_t 20), ia g (Q_t 32) 8 v_3.1, ia g (Q_t 33) 8 v_3.2.1, ia g (Q_t 37) 8 v_3.2.2]) rfl rfl (As := []) (rest := []) rfl hl.1 rfl rfl dX10_ways_12 (fun H locs hP hD hS => ?_)
    refine lv_aload_n hx hb dX10_ways_15 rfl (lv_at hl 0 rfl) ?_
    refine va_get (ci := 10) (v := .ref (Q_t 33)) (C := RX10) (T := TX10) (N := 38) hx hb hts (fun w h => .tail _ (u_inX10 w h)) hown hK.1 hP 0 rfl rfl 33 (by decide) (hts _ (.tail _ u_fl_X10_57)) (fun _ h9 => h9) rfl dX10_ways_16 ?_
    refine lv_iload_n hx hb dX10_ways_19 rfl (lv_at hl 1 rfl) ?_
    obtain ⟨hi_4, h⟩ := ox_chk h
    refine va_iald hx hb hK.1 hP 5 0 rfl rfl hi_4 dX10_ways_20 ?_
    obtain rfl := Option.some.inj h
    exact k_iret hx hb hr hlk hP hD hS dX10_ways_21
  · have h := ox_t c_2 h
    refine lv_ldc (v := (-1000000001 : Int32)) hx hb hown (hts _ (.tail _ u_k_X10_183)) dX10_ways_8 ?_
    obtain rfl := Option.some.inj h
    exact k_iret hx hb hr hlk hP hD hS dX10_ways_10
set_option maxRecDepth 100000 in
theorem c_X10_ways (l : Launch) (g : gG) (q_t : Nat) (Q_t : Ad) (N : Nat) (F_t : St) (x1 : Int32) (o : Int32 × (Nat → Int32) × (Nat → Int32) × (Nat → Int32)) (h : x_X10_ways N F_t x1 = some o) (sz : Nat) : MetI l yX10_ways (.code yX10_ways cX10_ways 2 (some .int) :: gW) 2 47 [.ref q_t, .int x1] o.1 g [oX10 q_t Q_t (F_t 0 0) (F_t 2 0) (F_t 3 0) (F_t 4 0) (F_t 5 0) (F_t 6 0) (F_t 7 0) (F_t 8 0) (F_t 9 0) (F_t 10 0) (F_t 11 0) (F_t 12 0) (F_t 15 0) (F_t 16 0) (F_t 17 0) (F_t 23 0) (F_t 27 0) (F_t 28 0) (F_t 30 0), ia g (Q_t 18) 16 (F_t 18), ia g (Q_t 19) 30 (F_t 19), ia g (Q_t 20) 174 (F_t 20), ia g (Q_t 32) 8 (F_t 32), ia g (Q_t 33) 8 (F_t 33), ia g (Q_t 37) 8 (F_t 37)] [oX10 q_t Q_t (F_t 0 0) (F_t 2 0) (F_t 3 0) (F_t 4 0) (F_t 5 0) (F_t 6 0) (F_t 7 0) (F_t 8 0) (F_t 9 0) (F_t 10 0) (F_t 11 0) (F_t 12 0) (F_t 15 0) (F_t 16 0) (F_t 17 0) (F_t 23 0) (F_t 27 0) (F_t 28 0) (F_t 30 0), ia g (Q_t 18) 16 (F_t 18), ia g (Q_t 19) 30 (F_t 19), ia g (Q_t 20) 174 (F_t 20), ia g (Q_t 32) 8 o.2.1, ia g (Q_t 33) 8 o.2.2.1, ia g (Q_t 37) 8 o.2.2.2] sz :=
  mkI (av := [.ref q_t, .int x1]) (by decide +kernel) rfl (fun p e s m below meth c A E H locs ls hP hD hS hl => t_X10_ways E q_t Q_t N F_t x1 o h H locs ls hP hD hS hl) sz
def x_X10_firstBlocked_b77 (N : Nat) (F_t : St) (x1 : Int32) (x2 : Int32) (x3 : Int32) (x4 : Int32) : Option ((Int32) ⊕ ((Int32) ⊕ (Unit))) :=
  if (F_t 17 0) ≤ x4 then (some (.inr (.inr ()))) else (Option.bind (x_X10_has x3 x4) (fun v_10 => if v_10 = 0 then (some (.inl (x4 + (1 : Int32)))) else (some (.inr (.inl x4)))))
set_option maxHeartbeats 4000000 in
set_option maxRecDepth 100000 in
theorem t_X10_firstBlocked_b77 {p : Program} {l : Launch} {e : Env} {s : State} {m : MethodId} {args : Array Value} {below : List Frame} {meth : Method} {c : Code} {g : gG} {A : Nat → Prop} {Q : State → Prop} (E : En p s m args meth c g A cX10_firstBlocked 5 (.code yX10_firstBlocked cX10_firstBlocked 5 (some .int) :: gW) RX10 (some .int)) (q_t : Nat) (Q_t : Ad) (N : Nat) (F_t : St) (x1 : Int32) (x2 : Int32) (x3 : Int32) (x4 : Int32) (o : (Int32) ⊕ ((Int32) ⊕ (Unit))) (h : x_X10_firstBlocked_b77 N F_t x1 x2 x3 x4 = some o) (hc : ∀ z, o = .inl z → WA p l e (rM 3 71) s m args below meth c g A Q 5 77 [oX10 q_t Q_t (F_t 0 0) (F_t 2 0) (F_t 3 0) (F_t 4 0) (F_t 5 0) (F_t 6 0) (F_t 7 0) (F_t 8 0) (F_t 9 0) (F_t 10 0) (F_t 11 0) (F_t 12 0) (F_t 15 0) (F_t 16 0) (F_t 17 0) (F_t 23 0) (F_t 27 0) (F_t 28 0) (F_t 30 0), ia g (Q_t 18) 16 (F_t 18), ia g (Q_t 19) 30 (F_t 19), ia g (Q_t 20) 174 (F_t 20), ia g (Q_t 21) 174 (F_t 21)] [(0, .ref q_t), (1, .int x1), (2, .int x2), (3, .int x3), (4, .int z)] []) (he0 : ∀ v, o = .inr (.inl v) → WA p l e (rM 3 71) s m args below meth c g A Q 5 95 [oX10 q_t Q_t (F_t 0 0) (F_t 2 0) (F_t 3 0) (F_t 4 0) (F_t 5 0) (F_t 6 0) (F_t 7 0) (F_t 8 0) (F_t 9 0) (F_t 10 0) (F_t 11 0) (F_t 12 0) (F_t 15 0) (F_t 16 0) (F_t 17 0) (F_t 23 0) (F_t 27 0) (F_t 28 0) (F_t 30 0), ia g (Q_t 18) 16 (F_t 18), ia g (Q_t 19) 30 (F_t 19), ia g (Q_t 20) 174 (F_t 20), ia g (Q_t 21) 174 (F_t 21)] [(4, .int v)] []) (he1 : ∀ v, o = .inr (.inr v) → WA p l e (rM 3 71) s m args below meth c g A Q 5 104 [oX10 q_t Q_t (F_t 0 0) (F_t 2 0) (F_t 3 0) (F_t 4 0) (F_t 5 0) (F_t 6 0) (F_t 7 0) (F_t 8 0) (F_t 9 0) (F_t 10 0) (F_t 11 0) (F_t 12 0) (F_t 15 0) (F_t 16 0) (F_t 17 0) (F_t 23 0) (F_t 27 0) (F_t 28 0) (F_t 30 0), ia g (Q_t 18) 16 (F_t 18), ia g (Q_t 19) 30 (F_t 19), ia g (Q_t 20) 174 (F_t 20), ia g (Q_t 21) 174 (F_t 21)] [(0, .ref q_t), (1, .int x1), (2, .int x2)] []) : WA p l e (rM 3 71) s m args below meth c g A Q 5 77 [oX10 q_t Q_t (F_t 0 0) (F_t 2 0) (F_t 3 0) (F_t 4 0) (F_t 5 0) (F_t 6 0) (F_t 7 0) (F_t 8 0) (F_t 9 0) (F_t 10 0) (F_t 11 0) (F_t 12 0) (F_t 15 0) (F_t 16 0) (F_t 17 0) (F_t 23 0) (F_t 27 0) (F_t 28 0) (F_t 30 0), ia g (Q_t 18) 16 (F_t 18), ia g (Q_t 19) 30 (F_t 19), ia g (Q_t 20) 174 (F_t 20), ia g (Q_t 21) 174 (F_t 21)] [(0, .ref q_t), (1, .int x1), (2, .int x2), (3, .int x3), (4, .int x4)] [] := by
  obtain ⟨⟨hx, hb, hml, hown, hts⟩, hr, hK, hA, hlk⟩ := id E
  intro H locs ls hP hD hS hl
  refine lv_iload hx hb dX10_firstBlocked_77 (lv_at hl 4 rfl) ?_
  refine lv_aload_n hx hb dX10_firstBlocked_79 rfl (lv_at hl 0 rfl) ?_
  refine va_get (ci := 10) (v := .int (F_t 17 0)) (C := RX10) (T := TX10) (N := 38) hx hb hts (fun w h => .tail _ (u_inX10 w h)) hown hK.1 hP 0 rfl rfl 17 (by decide) (hts _ (.tail _ u_fl_X10_87)) (fun _ h9 => h9) rfl dX10_firstBlocked_80 ?_
  refine lv_icmp_ge (tgt := 104) hx hb dX10_firstBlocked_83 (by decide) (fun c_9 => ?_) (fun c_9 => ?_)
  · have h := ox_t c_9 h
    obtain rfl := Option.some.inj h
    exact he1 _ rfl H locs ls hP hD hS (lv_sub hl [0, 1, 2] rfl)
  · have h := ox_f c_9 h
    refine lv_iload_n hx hb dX10_firstBlocked_86 rfl (lv_at hl 3 rfl) ?_
    refine lv_iload hx hb dX10_firstBlocked_87 (lv_at hl 4 rfl) ?_
    obtain ⟨v_10, hv_10, h⟩ := ox_bind h
    refine kSi ⟨hx, hb, hml, hown, hts⟩ (c_X10_has l g x3 x4 v_10 hv_10 H.size) (gS u_ml_X10_194 u_st_X10_has u_ini_X10 u_co_X10_has) hd_X10_has ⟨rfl, rfl⟩ hK hP hD hS hA [] [0, 1, 2, 3, 4] rfl rfl 0 rfl (w2 := [oX10 q_t Q_t (F_t 0 0) (F_t 2 0) (F_t 3 0) (F_t 4 0) (F_t 5 0) (F_t 6 0) (F_t 7 0) (F_t 8 0) (F_t 9 0) (F_t 10 0) (F_t 11 0) (F_t 12 0) (F_t 15 0) (F_t 16 0) (F_t 17 0) (F_t 23 0) (F_t 27 0) (F_t 28 0) (F_t 30 0), ia g (Q_t 18) 16 (F_t 18), ia g (Q_t 19) 30 (F_t 19), ia g (Q_t 20) 174 (F_t 20), ia g (Q_t 21) 174 (F_t 21)]) rfl rfl (As := [.int x3, .int x4]) (rest := []) rfl hl.1 rfl rfl dX10_firstBlocked_89 (fun H locs hP hD hS => ?_)
    refine lv_if_eq (tgt := 98) hx hb dX10_firstBlocked_92 (by decide) (fun c_11 => ?_) (fun c_11 => ?_)
    · have h := ox_t c_11 h
      refine lv_iinc (v := (x4 + (1 : Int32))) (lv' := [(4, .int (x4 + (1 : Int32))), (0, .ref q_t), (1, .int x1), (2, .int x2), (3, .int x3)]) hx hb dX10_firstBlocked_98 hl (k := 4) rfl rfl (by decide) rfl (fun ls hl => ?_)
      refine lv_goto (tgt := 77) hx hb dX10_firstBlocked_101 (by decide) ?_
      obtain rfl := Option.some.inj h
      exact hc _ rfl H locs ls hP hD hS (lv_sub hl [1, 2, 3, 4, 0] rfl)
    · have h := ox_f c_11 h
      obtain rfl := Option.some.inj h
      exact he0 _ rfl H locs ls hP hD hS (lv_sub hl [4] rfl)
def x_X10_firstBlocked_b33 (N : Nat) (F_t : St) (x1 : Int32) (x2 : Int32) : Option ((Int32 × (Nat → Int32)) ⊕ ((Int32 × (Nat → Int32)) ⊕ ((Nat → Int32)))) :=
  if (99 : Int32) ≤ x2 then (some (.inr (.inr (F_t 21)))) else (xl (((F_t 21) (0 : Int32).toNatClampNeg) ||| (1 : Int32)) (fun y_5 => Option.bind (x_X10_passHour N (va_up F_t 21 (upd (F_t 21) (0 : Int32).toNatClampNeg y_5)) (upd (F_t 21) (0 : Int32).toNatClampNeg y_5)) (fun v_6 => Option.bind (x_X10_blockedIn N (va_up F_t 21 v_6) v_6) (fun v_7 => xl (v_7 &&& (x1 ^^^ (-1 : Int32))) (fun y_8 => Option.bind (lpc (fun (z : Int32) => x_X10_firstBlocked_b77 N (va_up F_t 21 v_6) x1 x2 y_8 z) N (0 : Int32)) (fun v_12 => Sum.elim (fun v_12 => some (.inr (.inl (v_12, v_6)))) (fun v_12 => some (.inl ((x2 + (1 : Int32)), v_6))) v_12))))))
set_option maxHeartbeats 4000000 in
set_option maxRecDepth 100000 in
theorem t_X10_firstBlocked_b33 {p : Program} {l : Launch} {e : Env} {s : State} {m : MethodId} {args : Array Value} {below : List Frame} {meth : Method} {c : Code} {g : gG} {A : Nat → Prop} {Q : State → Prop} (E : En p s m args meth c g A cX10_firstBlocked 5 (.code yX10_firstBlocked cX10_firstBlocked 5 (some .int) :: gW) RX10 (some .int)) (q_t : Nat) (Q_t : Ad) (N : Nat) (F_t : St) (x1 : Int32) (x2 : Int32) (o : (Int32 × (Nat → Int32)) ⊕ ((Int32 × (Nat → Int32)) ⊕ ((Nat → Int32)))) (h : x_X10_firstBlocked_b33 N F_t x1 x2 = some o) (hc : ∀ z, o = .inl z → WA p l e (rM 3 71) s m args below meth c g A Q 5 33 [oX10 q_t Q_t (F_t 0 0) (F_t 2 0) (F_t 3 0) (F_t 4 0) (F_t 5 0) (F_t 6 0) (F_t 7 0) (F_t 8 0) (F_t 9 0) (F_t 10 0) (F_t 11 0) (F_t 12 0) (F_t 15 0) (F_t 16 0) (F_t 17 0) (F_t 23 0) (F_t 27 0) (F_t 28 0) (F_t 30 0), ia g (Q_t 18) 16 (F_t 18), ia g (Q_t 19) 30 (F_t 19), ia g (Q_t 20) 174 (F_t 20), ia g (Q_t 21) 174 z.2] [(0, .ref q_t), (1, .int x1), (2, .int z.1)] []) (he0 : ∀ v, o = .inr (.inl v) → WA p l e (rM 3 71) s m args below meth c g A Q 5 95 [oX10 q_t Q_t (F_t 0 0) (F_t 2 0) (F_t 3 0) (F_t 4 0) (F_t 5 0) (F_t 6 0) (F_t 7 0) (F_t 8 0) (F_t 9 0) (F_t 10 0) (F_t 11 0) (F_t 12 0) (F_t 15 0) (F_t 16 0) (F_t 17 0) (F_t 23 0) (F_t 27 0) (F_t 28 0) (F_t 30 0), ia g (Q_t 18) 16 (F_t 18), ia g (Q_t 19) 30 (F_t 19), ia g (Q_t 20) 174 (F_t 20), ia g (Q_t 21) 174 v.2] [(4, .int v.1)] []) (he1 : ∀ v, o = .inr (.inr v) → WA p l e (rM 3 71) s m args below meth c g A Q 5 110 [oX10 q_t Q_t (F_t 0 0) (F_t 2 0) (F_t 3 0) (F_t 4 0) (F_t 5 0) (F_t 6 0) (F_t 7 0) (F_t 8 0) (F_t 9 0) (F_t 10 0) (F_t 11 0) (F_t 12 0) (F_t 15 0) (F_t 16 0) (F_t 17 0) (F_t 23 0) (F_t 27 0) (F_t 28 0) (F_t 30 0), ia g (Q_t 18) 16 (F_t 18), ia g (Q_t 19) 30 (F_t 19), ia g (Q_t 20) 174 (F_t 20), ia g (Q_t 21) 174 v] [] []) : WA p l e (rM 3 71) s m args below meth c g A Q 5 33 [oX10 q_t Q_t (F_t 0 0) (F_t 2 0) (F_t 3 0) (F_t 4 0) (F_t 5 0) (F_t 6 0) (F_t 7 0) (F_t 8 0) (F_t 9 0) (F_t 10 0) (F_t 11 0) (F_t 12 0) (F_t 15 0) (F_t 16 0) (F_t 17 0) (F_t 23 0) (F_t 27 0) (F_t 28 0) (F_t 30 0), ia g (Q_t 18) 16 (F_t 18), ia g (Q_t 19) 30 (F_t 19), ia g (Q_t 20) 174 (F_t 20), ia g (Q_t 21) 174 (F_t 21)] [(0, .ref q_t), (1, .int x1), (2, .int x2)] [] := by
  obtain ⟨⟨hx, hb, hml, hown, hts⟩, hr, hK, hA, hlk⟩ := id E
  intro H locs ls hP hD hS hl
  refine lv_iload_n hx hb dX10_firstBlocked_33 rfl (lv_at hl 2 rfl) ?_
  refine lv_bipush (v := (99 : Int32)) hx hb dX10_firstBlocked_34 (by decide) ?_
  refine lv_icmp_ge (tgt := 110) hx hb dX10_firstBlocked_36 (by decide) (fun c_4 => ?_) (fun c_4 => ?_)
  · have h := ox_t c_4 h
    obtain rfl := Option.some.inj h
    exact he1 _ rfl H locs ls hP hD hS (lv_sub hl [] rfl)
  · have h := ox_f c_4 h
    refine lv_aload_n hx hb dX10_firstBlocked_39 rfl (lv_at hl 0 rfl) ?_
    refine va_get (ci := 10) (v := .ref (Q_t 21)) (C := RX10) (T := TX10) (N := 38) hx hb hts (fun w h => .tail _ (u_inX10 w h)) hown hK.1 hP 0 rfl rfl 21 (by decide) (hts _ (.tail _ u_fl_X10_32)) (fun _ h9 => h9) rfl dX10_firstBlocked_40 ?_
    refine lv_iconst (v := (0 : Int32)) hx hb dX10_firstBlocked_43 (by decide) ?_
    refine lv_aload_n hx hb dX10_firstBlocked_44 rfl (lv_at hl 0 rfl) ?_
    refine va_get (ci := 10) (v := .ref (Q_t 21)) (C := RX10) (T := TX10) (N := 38) hx hb hts (fun w h => .tail _ (u_inX10 w h)) hown hK.1 hP 0 rfl rfl 21 (by decide) (hts _ (.tail _ u_fl_X10_32)) (fun _ h9 => h9) rfl dX10_firstBlocked_45 ?_
    refine lv_iconst (v := (0 : Int32)) hx hb dX10_firstBlocked_48 (by decide) ?_
    refine va_iald hx hb hK.1 hP 4 0 rfl rfl (by unfold vp_in; decide) dX10_firstBlocked_49 ?_
    refine lv_iconst (v := (1 : Int32)) hx hb dX10_firstBlocked_50 (by decide) ?_
    refine lv_ior hx hb dX10_firstBlocked_51 ?_
    refine lv_topi (fun y_5 ey_5 => ?_)
    have h := xl_at ey_5 h
    refine va_iast hx hb hK.1 hP hD hS 4 0 rfl rfl (by unfold vp_in; decide) dX10_firstBlocked_52 (fun H locs hP hD hS => ?_)
    have hP : va_P g.1 vwCl [oX10 q_t Q_t (F_t 0 0) (F_t 2 0) (F_t 3 0) (F_t 4 0) (F_t 5 0) (F_t 6 0) (F_t 7 0) (F_t 8 0) (F_t 9 0) (F_t 10 0) (F_t 11 0) (F_t 12 0) (F_t 15 0) (F_t 16 0) (F_t 17 0) (F_t 23 0) (F_t 27 0) (F_t 28 0) (F_t 30 0), ia g (Q_t 18) 16 (F_t 18), ia g (Q_t 19) 30 (F_t 19), ia g (Q_t 20) 174 (F_t 20), ia g (Q_t 21) 174 (upd (F_t 21) (0 : Int32).toNatClampNeg y_5)] H := hP
    have hD : va_D A [oX10 q_t Q_t (F_t 0 0) (F_t 2 0) (F_t 3 0) (F_t 4 0) (F_t 5 0) (F_t 6 0) (F_t 7 0) (F_t 8 0) (F_t 9 0) (F_t 10 0) (F_t 11 0) (F_t 12 0) (F_t 15 0) (F_t 16 0) (F_t 17 0) (F_t 23 0) (F_t 27 0) (F_t 28 0) (F_t 30 0), ia g (Q_t 18) 16 (F_t 18), ia g (Q_t 19) 30 (F_t 19), ia g (Q_t 20) 174 (F_t 20), ia g (Q_t 21) 174 (upd (F_t 21) (0 : Int32).toNatClampNeg y_5)] := hD
    refine lv_aload_n hx hb dX10_firstBlocked_53 rfl (lv_at hl 0 rfl) ?_
    refine lv_aload_n hx hb dX10_firstBlocked_54 rfl (lv_at hl 0 rfl) ?_
    refine va_get (ci := 10) (v := .ref (Q_t 21)) (C := RX10) (T := TX10) (N := 38) hx hb hts (fun w h => .tail _ (u_inX10 w h)) hown hK.1 hP 0 rfl rfl 21 (by decide) (hts _ (.tail _ u_fl_X10_32)) (fun _ h9 => h9) rfl dX10_firstBlocked_55 ?_
    obtain ⟨v_6, hv_6, h⟩ := ox_bind h
    refine kVv ⟨hx, hb, hml, hown, hts⟩ (c_X10_passHour l g q_t Q_t (Q_t 21) N (va_up F_t 21 (upd (F_t 21) (0 : Int32).toNatClampNeg y_5)) (upd (F_t 21) (0 : Int32).toNatClampNeg y_5) v_6 hv_6 H.size) (gV u_ml_X10_209 u_im_X10_passHour u_se_X10_passHour u_ini_X10 u_co_X10_passHour) hd_X10_passHour ⟨rfl, rfl⟩ hK hP hD hS hA 0 10 rfl rfl [0, 1, 2, 4] [0, 1, 2, 7, 3] rfl rfl 4 rfl (w2 := [oX10 q_t Q_t (F_t 0 0) (F_t 2 0) (F_t 3 0) (F_t 4 0) (F_t 5 0) (F_t 6 0) (F_t 7 0) (F_t 8 0) (F_t 9 0) (F_t 10 0) (F_t 11 0) (F_t 12 0) (F_t 15 0) (F_t 16 0) (F_t 17 0) (F_t 23 0) (F_t 27 0) (F_t 28 0) (F_t 30 0), ia g (Q_t 18) 16 (F_t 18), ia g (Q_t 19) 30 (F_t 19), ia g (Q_t 20) 174 (F_t 20), ia g (Q_t 21) 174 v_6]) rfl rfl (As := [.ref (Q_t 21)]) (rest := []) rfl hl.1 rfl rfl dX10_firstBlocked_58 (fun H locs hP hD hS => ?_)
    refine lv_aload_n hx hb dX10_firstBlocked_61 rfl (lv_at hl 0 rfl) ?_
    refine lv_aload_n hx hb dX10_firstBlocked_62 rfl (lv_at hl 0 rfl) ?_
    refine va_get (ci := 10) (v := .ref (Q_t 21)) (C := RX10) (T := TX10) (N := 38) hx hb hts (fun w h => .tail _ (u_inX10 w h)) hown hK.1 hP 0 rfl rfl 21 (by decide) (hts _ (.tail _ u_fl_X10_32)) (fun _ h9 => h9) rfl dX10_firstBlocked_63 ?_
    obtain ⟨v_7, hv_7, h⟩ := ox_bind h
    refine kVi ⟨hx, hb, hml, hown, hts⟩ (c_X10_blockedIn l g q_t Q_t (Q_t 21) N (va_up F_t 21 v_6) v_6 v_7 hv_7 H.size) (gV u_ml_X10_172 u_im_X10_blockedIn u_se_X10_blockedIn u_ini_X10 u_co_X10_blockedIn) hd_X10_blockedIn ⟨rfl, rfl⟩ hK hP hD hS hA 0 10 rfl rfl [0, 4] [0, 3, 4, 5, 1] rfl rfl 2 rfl (w2 := [oX10 q_t Q_t (F_t 0 0) (F_t 2 0) (F_t 3 0) (F_t 4 0) (F_t 5 0) (F_t 6 0) (F_t 7 0) (F_t 8 0) (F_t 9 0) (F_t 10 0) (F_t 11 0) (F_t 12 0) (F_t 15 0) (F_t 16 0) (F_t 17 0) (F_t 23 0) (F_t 27 0) (F_t 28 0) (F_t 30 0), ia g (Q_t 18) 16 (F_t 18), ia g (Q_t 19) 30 (F_t 19), ia g (Q_t 20) 174 (F_t 20), ia g (Q_t 21) 174 v_6]) rfl rfl (As := [.ref (Q_t 21)]) (rest := []) rfl hl.1 rfl rfl dX10_firstBlocked_66 (fun H locs hP hD hS => ?_)
    refine lv_iload_n hx hb dX10_firstBlocked_69 rfl (lv_at hl 1 rfl) ?_
    refine lv_iconst (v := (-1 : Int32)) hx hb dX10_firstBlocked_70 (by decide) ?_
    refine lv_ixor hx hb dX10_firstBlocked_71 ?_
    refine lv_iand hx hb dX10_firstBlocked_72 ?_
    refine lv_topi (fun y_8 ey_8 => ?_)
    have h := xl_at ey_8 h
    refine lv_istore_n (lv' := [(3, .int y_8), (0, .ref q_t), (1, .int x1), (2, .int x2)]) hx hb dX10_firstBlocked_73 rfl hl (by decide) rfl (fun ls hl => ?_)
    refine lv_iconst (v := (0 : Int32)) hx hb dX10_firstBlocked_74 (by decide) ?_
    refine lv_istore (lv' := [(4, .int (0 : Int32)), (3, .int y_8), (0, .ref q_t), (1, .int x1), (2, .int x2)]) hx hb dX10_firstBlocked_75 hl (by decide) rfl (fun ls hl => ?_)
    obtain ⟨v_12, hv_12, h⟩ := ox_bind h
    refine lpc_W (Wh := fun (z : Int32) => WA p l e (rM 3 71) s m args below meth c g A Q 5 77 [oX10 q_t Q_t (F_t 0 0) (F_t 2 0) (F_t 3 0) (F_t 4 0) (F_t 5 0) (F_t 6 0) (F_t 7 0) (F_t 8 0) (F_t 9 0) (F_t 10 0) (F_t 11 0) (F_t 12 0) (F_t 15 0) (F_t 16 0) (F_t 17 0) (F_t 23 0) (F_t 27 0) (F_t 28 0) (F_t 30 0), ia g (Q_t 18) 16 (F_t 18), ia g (Q_t 19) 30 (F_t 19), ia g (Q_t 20) 174 (F_t 20), ia g (Q_t 21) 174 v_6] [(0, .ref q_t), (1, .int x1), (2, .int x2), (3, .int y_8), (4, .int z)] []) (We := Sum.elim (fun (v : Int32) => WA p l e (rM 3 71) s m args below meth c g A Q 5 95 [oX10 q_t Q_t (F_t 0 0) (F_t 2 0) (F_t 3 0) (F_t 4 0) (F_t 5 0) (F_t 6 0) (F_t 7 0) (F_t 8 0) (F_t 9 0) (F_t 10 0) (F_t 11 0) (F_t 12 0) (F_t 15 0) (F_t 16 0) (F_t 17 0) (F_t 23 0) (F_t 27 0) (F_t 28 0) (F_t 30 0), ia g (Q_t 18) 16 (F_t 18), ia g (Q_t 19) 30 (F_t 19), ia g (Q_t 20) 174 (F_t 20), ia g (Q_t 21) 174 v_6] [(4, .int v)] []) (fun (v : Unit) => WA p l e (rM 3 71) s m args below meth c g A Q 5 104 [oX10 q_t Q_t (F_t 0 0) (F_t 2 0) (F_t 3 0) (F_t 4 0) (F_t 5 0) (F_t 6 0) (F_t 7 0) (F_t 8 0) (F_t 9 0) (F_t 10 0) (F_t 11 0) (F_t 12 0) (F_t 15 0) (F_t 16 0) (F_t 17 0) (F_t 23 0) (F_t 27 0) (F_t 28 0) (F_t 30 0), ia g (Q_t 18) 16 (F_t 18), ia g (Q_t 19) 30 (F_t 19), ia g (Q_t 20) 174 (F_t 20), ia g (Q_t 21) 174 v_6] [(0, .ref q_t), (1, .int x1), (2, .int x2)] [])) (fun z r hb hc he => t_X10_firstBlocked_b77 E q_t Q_t N (va_up F_t 21 v_6) x1 x2 y_8 z r hb hc (fun v hv => he (.inl v) hv) (fun v hv => he (.inr v) hv)) N (0 : Int32) v_12 hv_12 ?_ H locs ls hP hD hS (lv_sub hl [2, 3, 4, 1, 0] rfl)
    rcases v_12 with v_12 | v_12
    · have h := ox_inl h
      intro H locs ls hP hD hS hl
      obtain rfl := Option.some.inj h
      exact he0 _ rfl H locs ls hP hD hS hl
    · have h := ox_inr h
      intro H locs ls hP hD hS hl
      refine lv_iinc (v := (x2 + (1 : Int32))) (lv' := [(2, .int (x2 + (1 : Int32))), (0, .ref q_t), (1, .int x1)]) hx hb dX10_firstBlocked_104 hl (k := 2) rfl rfl (by decide) rfl (fun ls hl => ?_)
      refine lv_goto (tgt := 33) hx hb dX10_firstBlocked_107 (by decide) ?_
      obtain rfl := Option.some.inj h
      exact hc _ rfl H locs ls hP hD hS (lv_sub hl [1, 2, 0] rfl)
def x_X10_firstBlocked (N : Nat) (F_t : St) : Option (Int32 × (Nat → Int32)) :=
  if (F_t 16 0) = 0 then (some ((-1 : Int32), (F_t 21))) else (Option.bind (x_X10_blockedIn N F_t (F_t 20)) (fun v_2 => Option.bind (x_X10_copy N 174 174 (F_t 20) (F_t 21) (0 : Int32) (0 : Int32)) (fun v_3 => Option.bind (lpc (fun (z : Int32 × (Nat → Int32)) => x_X10_firstBlocked_b33 N (va_up F_t 21 z.2) v_2 z.1) N ((0 : Int32), v_3)) (fun v_13 => Sum.elim (fun v_13 => some (v_13.1, v_13.2)) (fun v_13 => some ((-1 : Int32), v_13)) v_13))))
set_option maxHeartbeats 4000000 in
set_option maxRecDepth 100000 in
theorem t_X10_firstBlocked {p : Program} {l : Launch} {e : Env} {s : State} {m : MethodId} {args : Array Value} {below : List Frame} {meth : Method} {c : Code} {g : gG} {A : Nat → Prop} (E : En p s m args meth c g A cX10_firstBlocked 5 (.code yX10_firstBlocked cX10_firstBlocked 5 (some .int) :: gW) RX10 (some .int)) (q_t : Nat) (Q_t : Ad) (N : Nat) (F_t : St) (o : Int32 × (Nat → Int32)) (h : x_X10_firstBlocked N F_t = some o) : WA p l e (rM 3 71) s m args below meth c g A (MQ below (QI g A o.1 [oX10 q_t Q_t (F_t 0 0) (F_t 2 0) (F_t 3 0) (F_t 4 0) (F_t 5 0) (F_t 6 0) (F_t 7 0) (F_t 8 0) (F_t 9 0) (F_t 10 0) (F_t 11 0) (F_t 12 0) (F_t 15 0) (F_t 16 0) (F_t 17 0) (F_t 23 0) (F_t 27 0) (F_t 28 0) (F_t 30 0), ia g (Q_t 18) 16 (F_t 18), ia g (Q_t 19) 30 (F_t 19), ia g (Q_t 20) 174 (F_t 20), ia g (Q_t 21) 174 o.2]) args s 0 0 A) 5 0 [oX10 q_t Q_t (F_t 0 0) (F_t 2 0) (F_t 3 0) (F_t 4 0) (F_t 5 0) (F_t 6 0) (F_t 7 0) (F_t 8 0) (F_t 9 0) (F_t 10 0) (F_t 11 0) (F_t 12 0) (F_t 15 0) (F_t 16 0) (F_t 17 0) (F_t 23 0) (F_t 27 0) (F_t 28 0) (F_t 30 0), ia g (Q_t 18) 16 (F_t 18), ia g (Q_t 19) 30 (F_t 19), ia g (Q_t 20) 174 (F_t 20), ia g (Q_t 21) 174 (F_t 21)] [(0, .ref q_t)] [] := by
  obtain ⟨⟨hx, hb, hml, hown, hts⟩, hr, hK, hA, hlk⟩ := id E
  intro H locs ls hP hD hS hl
  refine lv_aload_n hx hb dX10_firstBlocked_0 rfl (lv_at hl 0 rfl) ?_
  refine va_get (ci := 10) (v := .int (F_t 16 0)) (C := RX10) (T := TX10) (N := 38) hx hb hts (fun w h => .tail _ (u_inX10 w h)) hown hK.1 hP 0 rfl rfl 16 (by decide) (hts _ (.tail _ u_fl_X10_80)) (fun _ h9 => h9) rfl dX10_firstBlocked_1 ?_
  refine lv_if_ne (tgt := 9) hx hb dX10_firstBlocked_4 (by decide) (fun c_1 => ?_) (fun c_1 => ?_)
  · have h := ox_f c_1 h
    refine lv_aload_n hx hb dX10_firstBlocked_9 rfl (lv_at hl 0 rfl) ?_
    refine lv_aload_n hx hb dX10_firstBlocked_10 rfl (lv_at hl 0 rfl) ?_
    refine va_get (ci := 10) (v := .ref (Q_t 20)) (C := RX10) (T := TX10) (N := 38) hx hb hts (fun w h => .tail _ (u_inX10 w h)) hown hK.1 hP 0 rfl rfl 20 (by decide) (hts _ (.tail _ u_fl_X10_29)) (fun _ h9 => h9) rfl dX10_firstBlocked_11 ?_
    obtain ⟨v_2, hv_2, h⟩ := ox_bind h
    refine kVi ⟨hx, hb, hml, hown, hts⟩ (c_X10_blockedIn l g q_t Q_t (Q_t 20) N F_t (F_t 20) v_2 hv_2 H.size) (gV u_ml_X10_172 u_im_X10_blockedIn u_se_X10_blockedIn u_ini_X10 u_co_X10_blockedIn) hd_X10_blockedIn ⟨rfl, rfl⟩ hK hP hD hS hA 0 10 rfl rfl [0, 3] [0, 3, 4, 1, 6] rfl rfl 2 rfl (w2 := [oX10 q_t Q_t (F_t 0 0) (F_t 2 0) (F_t 3 0) (F_t 4 0) (F_t 5 0) (F_t 6 0) (F_t 7 0) (F_t 8 0) (F_t 9 0) (F_t 10 0) (F_t 11 0) (F_t 12 0) (F_t 15 0) (F_t 16 0) (F_t 17 0) (F_t 23 0) (F_t 27 0) (F_t 28 0) (F_t 30 0), ia g (Q_t 18) 16 (F_t 18), ia g (Q_t 19) 30 (F_t 19), ia g (Q_t 20) 174 (F_t 20), ia g (Q_t 21) 174 (F_t 21)]) rfl rfl (As := [.ref (Q_t 20)]) (rest := []) rfl hl.1 rfl rfl dX10_firstBlocked_14 (fun H locs hP hD hS => ?_)
    refine lv_istore_n (lv' := [(1, .int v_2), (0, .ref q_t)]) hx hb dX10_firstBlocked_17 rfl hl (by decide) rfl (fun ls hl => ?_)
    refine lv_aload_n hx hb dX10_firstBlocked_18 rfl (lv_at hl 1 rfl) ?_
    refine va_get (ci := 10) (v := .ref (Q_t 20)) (C := RX10) (T := TX10) (N := 38) hx hb hts (fun w h => .tail _ (u_inX10 w h)) hown hK.1 hP 0 rfl rfl 20 (by decide) (hts _ (.tail _ u_fl_X10_29)) (fun _ h9 => h9) rfl dX10_firstBlocked_19 ?_
    refine lv_iconst (v := (0 : Int32)) hx hb dX10_firstBlocked_22 (by decide) ?_
    refine lv_aload_n hx hb dX10_firstBlocked_23 rfl (lv_at hl 1 rfl) ?_
    refine va_get (ci := 10) (v := .ref (Q_t 21)) (C := RX10) (T := TX10) (N := 38) hx hb hts (fun w h => .tail _ (u_inX10 w h)) hown hK.1 hP 0 rfl rfl 21 (by decide) (hts _ (.tail _ u_fl_X10_32)) (fun _ h9 => h9) rfl dX10_firstBlocked_24 ?_
    refine lv_iconst (v := (0 : Int32)) hx hb dX10_firstBlocked_27 (by decide) ?_
    obtain ⟨v_3, hv_3, h⟩ := ox_bind h
    refine kSv ⟨hx, hb, hml, hown, hts⟩ (c_X10_copy l g (Q_t 20) (Q_t 21) N 174 174 (F_t 20) (F_t 21) (0 : Int32) (0 : Int32) v_3 hv_3 H.size) (gS u_ml_X10_190 u_st_X10_copy u_ini_X10 u_co_X10_copy) hd_X10_copy ⟨rfl, rfl⟩ hK hP hD hS hA [3, 4] [2, 3, 4, 0, 1] rfl rfl 2 rfl (w2 := [oX10 q_t Q_t (F_t 0 0) (F_t 2 0) (F_t 3 0) (F_t 4 0) (F_t 5 0) (F_t 6 0) (F_t 7 0) (F_t 8 0) (F_t 9 0) (F_t 10 0) (F_t 11 0) (F_t 12 0) (F_t 15 0) (F_t 16 0) (F_t 17 0) (F_t 23 0) (F_t 27 0) (F_t 28 0) (F_t 30 0), ia g (Q_t 18) 16 (F_t 18), ia g (Q_t 19) 30 (F_t 19), ia g (Q_t 20) 174 (F_t 20), ia g (Q_t 21) 174 v_3]) rfl rfl (As := [.ref (Q_t 20), .int (0 : Int32), .ref (Q_t 21), .int (0 : Int32)]) (rest := []) rfl hl.1 rfl rfl dX10_firstBlocked_28 (fun H locs hP hD hS => ?_)
    refine lv_iconst (v := (0 : Int32)) hx hb dX10_firstBlocked_31 (by decide) ?_
    refine lv_istore_n (lv' := [(2, .int (0 : Int32)), (1, .int v_2), (0, .ref q_t)]) hx hb dX10_firstBlocked_32 rfl hl (by decide) rfl (fun ls hl => ?_)
    obtain ⟨v_13, hv_13, h⟩ := ox_bind h
    refine lpc_W (Wh := fun (z : Int32 × (Nat → Int32)) => WA p l e (rM 3 71) s m args below meth c g A (MQ below (QI g A o.1 [oX10 q_t Q_t (F_t 0 0) (F_t 2 0) (F_t 3 0) (F_t 4 0) (F_t 5 0) (F_t 6 0) (F_t 7 0) (F_t 8 0) (F_t 9 0) (F_t 10 0) (F_t 11 0) (F_t 12 0) (F_t 15 0) (F_t 16 0) (F_t 17 0) (F_t 23 0) (F_t 27 0) (F_t 28 0) (F_t 30 0), ia g (Q_t 18) 16 (F_t 18), ia g (Q_t 19) 30 (F_t 19), ia g (Q_t 20) 174 (F_t 20), ia g (Q_t 21) 174 o.2]) args s 0 0 A) 5 33 [oX10 q_t Q_t (F_t 0 0) (F_t 2 0) (F_t 3 0) (F_t 4 0) (F_t 5 0) (F_t 6 0) (F_t 7 0) (F_t 8 0) (F_t 9 0) (F_t 10 0) (F_t 11 0) (F_t 12 0) (F_t 15 0) (F_t 16 0) (F_t 17 0) (F_t 23 0) (F_t 27 0) (F_t 28 0) (F_t 30 0), ia g (Q_t 18) 16 (F_t 18), ia g (Q_t 19) 30 (F_t 19), ia g (Q_t 20) 174 (F_t 20), ia g (Q_t 21) 174 z.2] [(0, .ref q_t), (1, .int v_2), (2, .int z.1)] []) (We := Sum.elim (fun (v : Int32 × (Nat → Int32)) => WA p l e (rM 3 71) s m args below meth c g A (MQ below (QI g A o.1 [oX10 q_t Q_t (F_t 0 0) (F_t 2 0) (F_t 3 0) (F_t 4 0) (F_t 5 0) (F_t 6 0) (F_t 7 0) (F_t 8 0) (F_t 9 0) (F_t 10 0) (F_t 11 0) (F_t 12 0) (F_t 15 0) (F_t 16 0) (F_t 17 0) (F_t 23 0) (F_t 27 0) (F_t 28 0) (F_t 30 0), ia g (Q_t 18) 16 (F_t 18), ia g (Q_t 19) 30 (F_t 19), ia g (Q_t 20) 174 (F_t 20), ia g (Q_t 21) 174 o.2]) args s 0 0 A) 5 95 [oX10 q_t Q_t (F_t 0 0) (F_t 2 0) (F_t 3 0) (F_t 4 0) (F_t 5 0) (F_t 6 0) (F_t 7 0) (F_t 8 0) (F_t 9 0) (F_t 10 0) (F_t 11 0) (F_t 12 0) (F_t 15 0) (F_t 16 0) (F_t 17 0) (F_t 23 0) (F_t 27 0) (F_t 28 0) (F_t 30 0), ia g (Q_t 18) 16 (F_t 18), ia g (Q_t 19) 30 (F_t 19), ia g (Q_t 20) 174 (F_t 20), ia g (Q_t 21) 174 v.2] [(4, .int v.1)] []) (fun (v : (Nat → Int32)) => WA p l e (rM 3 71) s m args below meth c g A (MQ below (QI g A o.1 [oX10 q_t Q_t (F_t 0 0) (F_t 2 0) (F_t 3 0) (F_t 4 0) (F_t 5 0) (F_t 6 0) (F_t 7 0) (F_t 8 0) (F_t 9 0) (F_t 10 0) (F_t 11 0) (F_t 12 0) (F_t 15 0) (F_t 16 0) (F_t 17 0) (F_t 23 0) (F_t 27 0) (F_t 28 0) (F_t 30 0), ia g (Q_t 18) 16 (F_t 18), ia g (Q_t 19) 30 (F_t 19), ia g (Q_t 20) 174 (F_t 20), ia g (Q_t 21) 174 o.2]) args s 0 0 A) 5 110 [oX10 q_t Q_t (F_t 0 0) (F_t 2 0) (F_t 3 0) (F_t 4 0) (F_t 5 0) (F_t 6 0) (F_t 7 0) (F_t 8 0) (F_t 9 0) (F_t 10 0) (F_t 11 0) (F_t 12 0) (F_t 15 0) (F_t 16 0) (F_t 17 0) (F_t 23 0) (F_t 27 0) (F_t 28 0) (F_t 30 0), ia g (Q_t 18) 16 (F_t 18), ia g (Q_t 19) 30 (F_t 19), ia g (Q_t 20) 174 (F_t 20), ia g (Q_t 21) 174 v] [] [])) (fun z r hb hc he => t_X10_firstBlocked_b33 E q_t Q_t N (va_up F_t 21 z.2) v_2 z.1 r hb hc (fun v hv => he (.inl v) hv) (fun v hv => he (.inr v) hv)) N ((0 : Int32), v_3) v_13 hv_13 ?_ H locs ls hP hD hS (lv_sub hl [2, 1, 0] rfl)
    rcases v_13 with v_13 | v_13
    · have h := ox_inl h
      intro H locs ls hP hD hS hl
      refine lv_iload hx hb dX10_firstBlocked_95 (lv_at hl 0 rfl) ?_
      obtain rfl := Option.some.inj h
      exact k_iret hx hb hr hlk hP hD hS dX10_firstBlocked_97
    · have h := ox_inr h
      intro H locs ls hP hD hS hl
      refine lv_iconst (v := (-1 : Int32)) hx hb dX10_firstBlocked_110 (by decide) ?_
      obtain rfl := Option.some.inj h
      exact k_iret hx hb hr hlk hP hD hS dX10_firstBlocked_111
  · have h := ox_t c_1 h
    refine lv_iconst (v := (-1 : Int32)) hx hb dX10_firstBlocked_7 (by decide) ?_
    obtain rfl := Option.some.inj h
    exact k_iret hx hb hr hlk hP hD hS dX10_firstBlocked_8
set_option maxRecDepth 100000 in
theorem c_X10_firstBlocked (l : Launch) (g : gG) (q_t : Nat) (Q_t : Ad) (N : Nat) (F_t : St) (o : Int32 × (Nat → Int32)) (h : x_X10_firstBlocked N F_t = some o) (sz : Nat) : MetI l yX10_firstBlocked (.code yX10_firstBlocked cX10_firstBlocked 5 (some .int) :: gW) 3 71 [.ref q_t] o.1 g [oX10 q_t Q_t (F_t 0 0) (F_t 2 0) (F_t 3 0) (F_t 4 0) (F_t 5 0) (F_t 6 0) (F_t 7 0) (F_t 8 0) (F_t 9 0) (F_t 10 0) (F_t 11 0) (F_t 12 0) (F_t 15 0) (F_t 16 0) (F_t 17 0) (F_t 23 0) (F_t 27 0) (F_t 28 0) (F_t 30 0), ia g (Q_t 18) 16 (F_t 18), ia g (Q_t 19) 30 (F_t 19), ia g (Q_t 20) 174 (F_t 20), ia g (Q_t 21) 174 (F_t 21)] [oX10 q_t Q_t (F_t 0 0) (F_t 2 0) (F_t 3 0) (F_t 4 0) (F_t 5 0) (F_t 6 0) (F_t 7 0) (F_t 8 0) (F_t 9 0) (F_t 10 0) (F_t 11 0) (F_t 12 0) (F_t 15 0) (F_t 16 0) (F_t 17 0) (F_t 23 0) (F_t 27 0) (F_t 28 0) (F_t 30 0), ia g (Q_t 18) 16 (F_t 18), ia g (Q_t 19) 30 (F_t 19), ia g (Q_t 20) 174 (F_t 20), ia g (Q_t 21) 174 o.2] sz :=
  mkI (av := [.ref q_t]) (by decide +kernel) rfl (fun p e s m below meth c A E H locs ls hP hD hS hl => t_X10_firstBlocked E q_t Q_t N F_t o h H locs ls hP hD hS hl) sz
def x_X10_share_b15 (N : Nat) (F_t : St) (x1 : Int32) (x2 : Int32) (x3 : Int32) : Option ((Int32 × Int32) ⊕ (Int32)) :=
  if (F_t 16 0) ≤ x3 then (some (.inr x2)) else (if ((80 : Int32) + x3) < 0 ∨ 174 ≤ ((80 : Int32) + x3).toNatClampNeg then none else Option.bind (x_X10_bits N ((F_t 20) ((80 : Int32) + x3).toNatClampNeg)) (fun v_5 => xl (x2 + v_5) (fun y_6 => some (.inl (y_6, (x3 + (1 : Int32)))))))
set_option maxHeartbeats 4000000 in
set_option maxRecDepth 100000 in
theorem t_X10_share_b15 {p : Program} {l : Launch} {e : Env} {s : State} {m : MethodId} {args : Array Value} {below : List Frame} {meth : Method} {c : Code} {g : gG} {A : Nat → Prop} {Q : State → Prop} (E : En p s m args meth c g A cX10_share 4 (.code yX10_share cX10_share 4 (some .int) :: gW) RX10 (some .int)) (q_t : Nat) (Q_t : Ad) (N : Nat) (F_t : St) (x1 : Int32) (x2 : Int32) (x3 : Int32) (o : (Int32 × Int32) ⊕ (Int32)) (h : x_X10_share_b15 N F_t x1 x2 x3 = some o) (hc : ∀ z, o = .inl z → WA p l e (rM 2 43) s m args below meth c g A Q 4 15 [oX10 q_t Q_t (F_t 0 0) (F_t 2 0) (F_t 3 0) (F_t 4 0) (F_t 5 0) (F_t 6 0) (F_t 7 0) (F_t 8 0) (F_t 9 0) (F_t 10 0) (F_t 11 0) (F_t 12 0) (F_t 15 0) (F_t 16 0) (F_t 17 0) (F_t 23 0) (F_t 27 0) (F_t 28 0) (F_t 30 0), ia g (Q_t 20) 174 (F_t 20)] [(0, .ref q_t), (1, .int x1), (2, .int z.1), (3, .int z.2)] []) (he : ∀ v, o = .inr v → WA p l e (rM 2 43) s m args below meth c g A Q 4 44 [oX10 q_t Q_t (F_t 0 0) (F_t 2 0) (F_t 3 0) (F_t 4 0) (F_t 5 0) (F_t 6 0) (F_t 7 0) (F_t 8 0) (F_t 9 0) (F_t 10 0) (F_t 11 0) (F_t 12 0) (F_t 15 0) (F_t 16 0) (F_t 17 0) (F_t 23 0) (F_t 27 0) (F_t 28 0) (F_t 30 0), ia g (Q_t 20) 174 (F_t 20)] [(0, .ref q_t), (1, .int x1), (2, .int v)] []) : WA p l e (rM 2 43) s m args below meth c g A Q 4 15 [oX10 q_t Q_t (F_t 0 0) (F_t 2 0) (F_t 3 0) (F_t 4 0) (F_t 5 0) (F_t 6 0) (F_t 7 0) (F_t 8 0) (F_t 9 0) (F_t 10 0) (F_t 11 0) (F_t 12 0) (F_t 15 0) (F_t 16 0) (F_t 17 0) (F_t 23 0) (F_t 27 0) (F_t 28 0) (F_t 30 0), ia g (Q_t 20) 174 (F_t 20)] [(0, .ref q_t), (1, .int x1), (2, .int x2), (3, .int x3)] [] := by
  obtain ⟨⟨hx, hb, hml, hown, hts⟩, hr, hK, hA, hlk⟩ := id E
  intro H locs ls hP hD hS hl
  refine lv_iload_n hx hb dX10_share_15 rfl (lv_at hl 3 rfl) ?_
  refine lv_aload_n hx hb dX10_share_16 rfl (lv_at hl 0 rfl) ?_
  refine va_get (ci := 10) (v := .int (F_t 16 0)) (C := RX10) (T := TX10) (N := 38) hx hb hts (fun w h => .tail _ (u_inX10 w h)) hown hK.1 hP 0 rfl rfl 16 (by decide) (hts _ (.tail _ u_fl_X10_80)) (fun _ h9 => h9) rfl dX10_share_17 ?_
  refine lv_icmp_ge (tgt := 44) hx hb dX10_share_20 (by decide) (fun c_3 => ?_) (fun c_3 => ?_)
  · have h := ox_t c_3 h
    obtain rfl := Option.some.inj h
    exact he _ rfl H locs ls hP hD hS (lv_sub hl [0, 1, 2] rfl)
  · have h := ox_f c_3 h
    refine lv_iload_n hx hb dX10_share_23 rfl (lv_at hl 2 rfl) ?_
    refine lv_aload_n hx hb dX10_share_24 rfl (lv_at hl 0 rfl) ?_
    refine va_get (ci := 10) (v := .ref (Q_t 20)) (C := RX10) (T := TX10) (N := 38) hx hb hts (fun w h => .tail _ (u_inX10 w h)) hown hK.1 hP 0 rfl rfl 20 (by decide) (hts _ (.tail _ u_fl_X10_29)) (fun _ h9 => h9) rfl dX10_share_25 ?_
    refine lv_bipush (v := (80 : Int32)) hx hb dX10_share_28 (by decide) ?_
    refine lv_iload_n hx hb dX10_share_30 rfl (lv_at hl 3 rfl) ?_
    refine lv_iadd hx hb dX10_share_31 ?_
    obtain ⟨hi_4, h⟩ := ox_chk h
    refine va_iald hx hb hK.1 hP 1 0 rfl rfl hi_4 dX10_share_32 ?_
    obtain ⟨v_5, hv_5, h⟩ := ox_bind h
    refine kSi ⟨hx, hb, hml, hown, hts⟩ (c_X10_bits l g N ((F_t 20) ((80 : Int32) + x3).toNatClampNeg) v_5 hv_5 H.size) (gS u_ml_X10_168 u_st_X10_bits u_ini_X10 u_co_X10_bits) hd_X10_bits ⟨rfl, rfl⟩ hK hP hD hS hA [] [0, 1] rfl rfl 0 rfl (w2 := [oX10 q_t Q_t (F_t 0 0) (F_t 2 0) (F_t 3 0) (F_t 4 0) (F_t 5 0) (F_t 6 0) (F_t 7 0) (F_t 8 0) (F_t 9 0) (F_t 10 0) (F_t 11 0) (F_t 12 0) (F_t 15 0) (F_t 16 0) (F_t 17 0) (F_t 23 0) (F_t 27 0) (F_t 28 0) (F_t 30 0), ia g (Q_t 20) 174 (F_t 20)]) rfl rfl (As := [.int ((F_t 20) ((80 : Int32) + x3).toNatClampNeg)]) (rest := [.int x2]) rfl hl.1 rfl rfl dX10_share_33 (fun H locs hP hD hS => ?_)
    refine lv_iadd hx hb dX10_share_36 ?_
    refine lv_topi (fun y_6 ey_6 => ?_)
    have h := xl_at ey_6 h
    refine lv_istore_n (lv' := [(2, .int y_6), (0, .ref q_t), (1, .int x1), (3, .int x3)]) hx hb dX10_share_37 rfl hl (by decide) rfl (fun ls hl => ?_)
    refine lv_iinc (v := (x3 + (1 : Int32))) (lv' := [(3, .int (x3 + (1 : Int32))), (2, .int y_6), (0, .ref q_t), (1, .int x1)]) hx hb dX10_share_38 hl (k := 3) rfl rfl (by decide) rfl (fun ls hl => ?_)
    refine lv_goto (tgt := 15) hx hb dX10_share_41 (by decide) ?_
    obtain rfl := Option.some.inj h
    exact hc _ rfl H locs ls hP hD hS (lv_sub hl [2, 3, 1, 0] rfl)
def x_X10_share (N : Nat) (F_t : St) (x1 : Int32) : Option (Int32) :=
  Option.bind (x_X10_isPlace F_t x1) (fun v_1 => if v_1 = 0 then (some (-1000000001 : Int32)) else (Option.bind (lpc (fun (z : Int32 × Int32) => x_X10_share_b15 N F_t x1 z.1 z.2) N ((0 : Int32), (0 : Int32))) (fun v_7 => if v_7 = 0 then (some (0 : Int32)) else (if ((80 : Int32) + x1) < 0 ∨ 174 ≤ ((80 : Int32) + x1).toNatClampNeg then none else Option.bind (x_X10_bits N ((F_t 20) ((80 : Int32) + x1).toNatClampNeg)) (fun v_10 => if v_7 = 0 then none else some (((1000 : Int32) * v_10) / v_7))))))
set_option maxHeartbeats 4000000 in
set_option maxRecDepth 100000 in
theorem t_X10_share {p : Program} {l : Launch} {e : Env} {s : State} {m : MethodId} {args : Array Value} {below : List Frame} {meth : Method} {c : Code} {g : gG} {A : Nat → Prop} (E : En p s m args meth c g A cX10_share 4 (.code yX10_share cX10_share 4 (some .int) :: gW) RX10 (some .int)) (q_t : Nat) (Q_t : Ad) (N : Nat) (F_t : St) (x1 : Int32) (o : Int32) (h : x_X10_share N F_t x1 = some o) : WA p l e (rM 2 43) s m args below meth c g A (MQ below (QI g A o [oX10 q_t Q_t (F_t 0 0) (F_t 2 0) (F_t 3 0) (F_t 4 0) (F_t 5 0) (F_t 6 0) (F_t 7 0) (F_t 8 0) (F_t 9 0) (F_t 10 0) (F_t 11 0) (F_t 12 0) (F_t 15 0) (F_t 16 0) (F_t 17 0) (F_t 23 0) (F_t 27 0) (F_t 28 0) (F_t 30 0), ia g (Q_t 20) 174 (F_t 20)]) args s 0 0 A) 4 0 [oX10 q_t Q_t (F_t 0 0) (F_t 2 0) (F_t 3 0) (F_t 4 0) (F_t 5 0) (F_t 6 0) (F_t 7 0) (F_t 8 0) (F_t 9 0) (F_t 10 0) (F_t 11 0) (F_t 12 0) (F_t 15 0) (F_t 16 0) (F_t 17 0) (F_t 23 0) (F_t 27 0) (F_t 28 0) (F_t 30 0), ia g (Q_t 20) 174 (F_t 20)] [(0, .ref q_t), (1, .int x1)] [] := by
  obtain ⟨⟨hx, hb, hml, hown, hts⟩, hr, hK, hA, hlk⟩ := id E
  intro H locs ls hP hD hS hl
  refine lv_aload_n hx hb dX10_share_0 rfl (lv_at hl 0 rfl) ?_
  refine lv_iload_n hx hb dX10_share_1 rfl (lv_at hl 1 rfl) ?_
  obtain ⟨v_1, hv_1, h⟩ := ox_bind h
  refine kVi ⟨hx, hb, hml, hown, hts⟩ (c_X10_isPlace l g q_t Q_t F_t x1 v_1 hv_1 H.size) (gV u_ml_X10_180 u_im_X10_isPlace u_se_X10_isPlace u_ini_X10 u_co_X10_isPlace) hd_X10_isPlace ⟨rfl, rfl⟩ hK hP hD hS hA 0 10 rfl rfl [0] [0, 2] rfl rfl 1 rfl (w2 := [oX10 q_t Q_t (F_t 0 0) (F_t 2 0) (F_t 3 0) (F_t 4 0) (F_t 5 0) (F_t 6 0) (F_t 7 0) (F_t 8 0) (F_t 9 0) (F_t 10 0) (F_t 11 0) (F_t 12 0) (F_t 15 0) (F_t 16 0) (F_t 17 0) (F_t 23 0) (F_t 27 0) (F_t 28 0) (F_t 30 0), ia g (Q_t 20) 174 (F_t 20)]) rfl rfl (As := [.int x1]) (rest := []) rfl hl.1 rfl rfl dX10_share_2 (fun H locs hP hD hS => ?_)
  refine lv_if_ne (tgt := 11) hx hb dX10_share_5 (by decide) (fun c_2 => ?_) (fun c_2 => ?_)
  · have h := ox_f c_2 h
    refine lv_iconst (v := (0 : Int32)) hx hb dX10_share_11 (by decide) ?_
    refine lv_istore_n (lv' := [(2, .int (0 : Int32)), (0, .ref q_t), (1, .int x1)]) hx hb dX10_share_12 rfl hl (by decide) rfl (fun ls hl => ?_)
    refine lv_iconst (v := (0 : Int32)) hx hb dX10_share_13 (by decide) ?_
    refine lv_istore_n (lv' := [(3, .int (0 : Int32)), (2, .int (0 : Int32)), (0, .ref q_t), (1, .int x1)]) hx hb dX10_share_14 rfl hl (by decide) rfl (fun ls hl => ?_)
    obtain ⟨v_7, hv_7, h⟩ := ox_bind h
    refine lpc_W (Wh := fun (z : Int32 × Int32) => WA p l e (rM 2 43) s m args below meth c g A (MQ below (QI g A o [oX10 q_t Q_t (F_t 0 0) (F_t 2 0) (F_t 3 0) (F_t 4 0) (F_t 5 0) (F_t 6 0) (F_t 7 0) (F_t 8 0) (F_t 9 0) (F_t 10 0) (F_t 11 0) (F_t 12 0) (F_t 15 0) (F_t 16 0) (F_t 17 0) (F_t 23 0) (F_t 27 0) (F_t 28 0) (F_t 30 0), ia g (Q_t 20) 174 (F_t 20)]) args s 0 0 A) 4 15 [oX10 q_t Q_t (F_t 0 0) (F_t 2 0) (F_t 3 0) (F_t 4 0) (F_t 5 0) (F_t 6 0) (F_t 7 0) (F_t 8 0) (F_t 9 0) (F_t 10 0) (F_t 11 0) (F_t 12 0) (F_t 15 0) (F_t 16 0) (F_t 17 0) (F_t 23 0) (F_t 27 0) (F_t 28 0) (F_t 30 0), ia g (Q_t 20) 174 (F_t 20)] [(0, .ref q_t), (1, .int x1), (2, .int z.1), (3, .int z.2)] []) (We := fun (v : Int32) => WA p l e (rM 2 43) s m args below meth c g A (MQ below (QI g A o [oX10 q_t Q_t (F_t 0 0) (F_t 2 0) (F_t 3 0) (F_t 4 0) (F_t 5 0) (F_t 6 0) (F_t 7 0) (F_t 8 0) (F_t 9 0) (F_t 10 0) (F_t 11 0) (F_t 12 0) (F_t 15 0) (F_t 16 0) (F_t 17 0) (F_t 23 0) (F_t 27 0) (F_t 28 0) (F_t 30 0), ia g (Q_t 20) 174 (F_t 20)]) args s 0 0 A) 4 44 [oX10 q_t Q_t (F_t 0 0) (F_t 2 0) (F_t 3 0) (F_t 4 0) (F_t 5 0) (F_t 6 0) (F_t 7 0) (F_t 8 0) (F_t 9 0) (F_t 10 0) (F_t 11 0) (F_t 12 0) (F_t 15 0) (F_t 16 0) (F_t 17 0) (F_t 23 0) (F_t 27 0) (F_t 28 0) (F_t 30 0), ia g (Q_t 20) 174 (F_t 20)] [(0, .ref q_t), (1, .int x1), (2, .int v)] []) (fun z r hb hc he => t_X10_share_b15 E q_t Q_t N F_t x1 z.1 z.2 r hb hc he) N ((0 : Int32), (0 : Int32)) v_7 hv_7 ?_ H locs ls hP hD hS (lv_sub hl [2, 3, 1, 0] rfl)
    intro H locs ls hP hD hS hl
    refine lv_iload_n hx hb dX10_share_44 rfl (lv_at hl 2 rfl) ?_
    refine lv_if_ne (tgt := 52) hx hb dX10_share_45 (by decide) (fun c_8 => ?_) (fun c_8 => ?_)
    · have h := ox_f c_8 h
      refine lv_sipush (v := (1000 : Int32)) hx hb dX10_share_52 (by decide) ?_
      refine lv_aload_n hx hb dX10_share_55 rfl (lv_at hl 0 rfl) ?_
      refine va_get (ci := 10) (v := .ref (Q_t 20)) (C := RX10) (T := TX10) (N := 38) hx hb hts (fun w h => .tail _ (u_inX10 w h)) hown hK.1 hP 0 rfl rfl 20 (by decide) (hts _ (.tail _ u_fl_X10_29)) (fun _ h9 => h9) rfl dX10_share_56 ?_
      refine lv_bipush (v := (80 : Int32)) hx hb dX10_share_59 (by decide) ?_
      refine lv_iload_n hx hb dX10_share_61 rfl (lv_at hl 1 rfl) ?_
      refine lv_iadd hx hb dX10_share_62 ?_
      obtain ⟨hi_9, h⟩ := ox_chk h
      refine va_iald hx hb hK.1 hP 1 0 rfl rfl hi_9 dX10_share_63 ?_
      obtain ⟨v_10, hv_10, h⟩ := ox_bind h
      refine kSi ⟨hx, hb, hml, hown, hts⟩ (c_X10_bits l g N ((F_t 20) ((80 : Int32) + x1).toNatClampNeg) v_10 hv_10 H.size) (gS u_ml_X10_168 u_st_X10_bits u_ini_X10 u_co_X10_bits) hd_X10_bits ⟨rfl, rfl⟩ hK hP hD hS hA [] [0, 1] rfl rfl 0 rfl (w2 := [oX10 q_t Q_t (F_t 0 0) (F_t 2 0) (F_t 3 0) (F_t 4 0) (F_t 5 0) (F_t 6 0) (F_t 7 0) (F_t 8 0) (F_t 9 0) (F_t 10 0) (F_t 11 0) (F_t 12 0) (F_t 15 0) (F_t 16 0) (F_t 17 0) (F_t 23 0) (F_t 27 0) (F_t 28 0) (F_t 30 0), ia g (Q_t 20) 174 (F_t 20)]) rfl rfl (As := [.int ((F_t 20) ((80 : Int32) + x1).toNatClampNeg)]) (rest := [.int (1000 : Int32)]) rfl hl.1 rfl rfl dX10_share_64 (fun H locs hP hD hS => ?_)
      refine lv_imul hx hb dX10_share_67 ?_
      refine lv_iload_n hx hb dX10_share_68 rfl (lv_at hl 2 rfl) ?_
      obtain ⟨hz_11, h⟩ := ox_chk h
      refine lv_idiv hx hb dX10_share_69 hz_11 ?_
      obtain rfl := Option.some.inj h
      exact k_iret hx hb hr hlk hP hD hS dX10_share_70
    · have h := ox_t c_8 h
      refine lv_iconst (v := (0 : Int32)) hx hb dX10_share_48 (by decide) ?_
      refine lv_goto (tgt := 70) hx hb dX10_share_49 (by decide) ?_
      obtain rfl := Option.some.inj h
      exact k_iret hx hb hr hlk hP hD hS dX10_share_70
  · have h := ox_t c_2 h
    refine lv_ldc (v := (-1000000001 : Int32)) hx hb hown (hts _ (.tail _ u_k_X10_183)) dX10_share_8 ?_
    obtain rfl := Option.some.inj h
    exact k_iret hx hb hr hlk hP hD hS dX10_share_10
set_option maxRecDepth 100000 in
theorem c_X10_share (l : Launch) (g : gG) (q_t : Nat) (Q_t : Ad) (N : Nat) (F_t : St) (x1 : Int32) (o : Int32) (h : x_X10_share N F_t x1 = some o) (sz : Nat) : MetI l yX10_share (.code yX10_share cX10_share 4 (some .int) :: gW) 2 43 [.ref q_t, .int x1] o g [oX10 q_t Q_t (F_t 0 0) (F_t 2 0) (F_t 3 0) (F_t 4 0) (F_t 5 0) (F_t 6 0) (F_t 7 0) (F_t 8 0) (F_t 9 0) (F_t 10 0) (F_t 11 0) (F_t 12 0) (F_t 15 0) (F_t 16 0) (F_t 17 0) (F_t 23 0) (F_t 27 0) (F_t 28 0) (F_t 30 0), ia g (Q_t 20) 174 (F_t 20)] [oX10 q_t Q_t (F_t 0 0) (F_t 2 0) (F_t 3 0) (F_t 4 0) (F_t 5 0) (F_t 6 0) (F_t 7 0) (F_t 8 0) (F_t 9 0) (F_t 10 0) (F_t 11 0) (F_t 12 0) (F_t 15 0) (F_t 16 0) (F_t 17 0) (F_t 23 0) (F_t 27 0) (F_t 28 0) (F_t 30 0), ia g (Q_t 20) 174 (F_t 20)] sz :=
  mkI (av := [.ref q_t, .int x1]) (by decide +kernel) rfl (fun p e s m below meth c A E H locs ls hP hD hS hl => t_X10_share E q_t Q_t N F_t x1 o h H locs ls hP hD hS hl) sz
def x_X10_frost_b30 (N : Nat) (x1 : Int32) (x2 : Int32) (x3 : Int64) (x5 : Int32) : Option ((Int64 × Int32) ⊕ (Int64)) :=
  if x1 ≤ x5 then (some (.inr x3)) else (xl ((x3 * (((100 : Int32) - x2).toInt64)) / (100 : Int64)) (fun y_6 => some (.inl (y_6, (x5 + (1 : Int32))))))
set_option maxHeartbeats 4000000 in
set_option maxRecDepth 100000 in
theorem t_X10_frost_b30 {p : Program} {l : Launch} {e : Env} {s : State} {m : MethodId} {args : Array Value} {below : List Frame} {meth : Method} {c : Code} {g : gG} {A : Nat → Prop} {Q : State → Prop} (E : En p s m args meth c g A cX10_frost 6 (.code yX10_frost cX10_frost 6 (some .int) :: gW) RX10 (some .int)) (q_t : Nat) (N : Nat) (x1 : Int32) (x2 : Int32) (x3 : Int64) (x5 : Int32) (o : (Int64 × Int32) ⊕ (Int64)) (h : x_X10_frost_b30 N x1 x2 x3 x5 = some o) (hc : ∀ z, o = .inl z → WA p l e (rM 1 22) s m args below meth c g A Q 6 30 [] [(1, .int x1), (2, .int x2), (3, .long z.1), (5, .int z.2)] []) (he : ∀ v, o = .inr v → WA p l e (rM 1 22) s m args below meth c g A Q 6 54 [] [(3, .long v)] []) : WA p l e (rM 1 22) s m args below meth c g A Q 6 30 [] [(1, .int x1), (2, .int x2), (3, .long x3), (5, .int x5)] [] := by
  obtain ⟨⟨hx, hb, hml, hown, hts⟩, hr, hK, hA, hlk⟩ := id E
  intro H locs ls hP hD hS hl
  refine lv_iload hx hb dX10_frost_30 (lv_at hl 3 rfl) ?_
  refine lv_iload_n hx hb dX10_frost_32 rfl (lv_at hl 0 rfl) ?_
  refine lv_icmp_ge (tgt := 54) hx hb dX10_frost_33 (by decide) (fun c_5 => ?_) (fun c_5 => ?_)
  · have h := ox_t c_5 h
    obtain rfl := Option.some.inj h
    exact he _ rfl H locs ls hP hD hS (lv_sub hl [2] rfl)
  · have h := ox_f c_5 h
    refine lv_lload_n hx hb dX10_frost_36 rfl (lv_at hl 2 rfl) ?_
    refine lv_bipush (v := (100 : Int32)) hx hb dX10_frost_37 (by decide) ?_
    refine lv_iload_n hx hb dX10_frost_39 rfl (lv_at hl 1 rfl) ?_
    refine lv_isub hx hb dX10_frost_40 ?_
    refine lv_i2l (v := (((100 : Int32) - x2).toInt64)) hx hb dX10_frost_41 rfl ?_
    refine lv_lmul hx hb dX10_frost_42 ?_
    refine lv_ldc2 (v := (100 : Int64)) hx hb hown (hts _ (.tail _ u_kl_X10_247)) dX10_frost_43 ?_
    refine lv_ldiv hx hb dX10_frost_46 (by decide) ?_
    refine lv_topl (fun y_6 ey_6 => ?_)
    have h := xl_at ey_6 h
    refine lv_lstore_n (lv' := [(3, .long y_6), (1, .int x1), (2, .int x2), (5, .int x5)]) hx hb dX10_frost_47 rfl hl (by decide) rfl (fun ls hl => ?_)
    refine lv_iinc (v := (x5 + (1 : Int32))) (lv' := [(5, .int (x5 + (1 : Int32))), (3, .long y_6), (1, .int x1), (2, .int x2)]) hx hb dX10_frost_48 hl (k := 3) rfl rfl (by decide) rfl (fun ls hl => ?_)
    refine lv_goto (tgt := 30) hx hb dX10_frost_51 (by decide) ?_
    obtain rfl := Option.some.inj h
    exact hc _ rfl H locs ls hP hD hS (lv_sub hl [2, 3, 1, 0] rfl)
def x_X10_frost (N : Nat) (x1 : Int32) (x2 : Int32) : Option (Int32) :=
  Option.bind (x_X10_in x1 (0 : Int32) (60 : Int32)) (fun v_1 => if v_1 = 0 then (some (-1000000002 : Int32)) else (Option.bind (x_X10_in x2 (0 : Int32) (100 : Int32)) (fun v_3 => if v_3 = 0 then (some (-1000000002 : Int32)) else (Option.bind (lpc (fun (z : Int64 × Int32) => x_X10_frost_b30 N x1 x2 z.1 z.2) N ((1000000000 : Int64), (0 : Int32))) (fun v_7 => some (v_7.toInt32))))))
set_option maxHeartbeats 4000000 in
set_option maxRecDepth 100000 in
theorem t_X10_frost {p : Program} {l : Launch} {e : Env} {s : State} {m : MethodId} {args : Array Value} {below : List Frame} {meth : Method} {c : Code} {g : gG} {A : Nat → Prop} (E : En p s m args meth c g A cX10_frost 6 (.code yX10_frost cX10_frost 6 (some .int) :: gW) RX10 (some .int)) (q_t : Nat) (N : Nat) (x1 : Int32) (x2 : Int32) (o : Int32) (h : x_X10_frost N x1 x2 = some o) : WA p l e (rM 1 22) s m args below meth c g A (MQ below (QI g A o []) args s 0 0 A) 6 0 [] [(1, .int x1), (2, .int x2)] [] := by
  obtain ⟨⟨hx, hb, hml, hown, hts⟩, hr, hK, hA, hlk⟩ := id E
  intro H locs ls hP hD hS hl
  refine lv_iload_n hx hb dX10_frost_0 rfl (lv_at hl 0 rfl) ?_
  refine lv_iconst (v := (0 : Int32)) hx hb dX10_frost_1 (by decide) ?_
  refine lv_bipush (v := (60 : Int32)) hx hb dX10_frost_2 (by decide) ?_
  obtain ⟨v_1, hv_1, h⟩ := ox_bind h
  refine kSi ⟨hx, hb, hml, hown, hts⟩ (c_X10_in l g x1 (0 : Int32) (60 : Int32) v_1 hv_1 H.size) (gS u_ml_X10_83 u_st_X10_in u_ini_X10 u_co_X10_in) hd_X10_in ⟨rfl, rfl⟩ hK hP hD hS hA [] [] rfl rfl 0 rfl (w2 := []) rfl rfl (As := [.int x1, .int (0 : Int32), .int (60 : Int32)]) (rest := []) rfl hl.1 rfl rfl dX10_frost_4 (fun H locs hP hD hS => ?_)
  refine lv_if_eq (tgt := 20) hx hb dX10_frost_7 (by decide) (fun c_2 => ?_) (fun c_2 => ?_)
  · have h := ox_t c_2 h
    refine lv_ldc (v := (-1000000002 : Int32)) hx hb hown (hts _ (.tail _ u_k_X10_90)) dX10_frost_20 ?_
    obtain rfl := Option.some.inj h
    exact k_iret hx hb hr hlk hP hD hS dX10_frost_22
  · have h := ox_f c_2 h
    refine lv_iload_n hx hb dX10_frost_10 rfl (lv_at hl 1 rfl) ?_
    refine lv_iconst (v := (0 : Int32)) hx hb dX10_frost_11 (by decide) ?_
    refine lv_bipush (v := (100 : Int32)) hx hb dX10_frost_12 (by decide) ?_
    obtain ⟨v_3, hv_3, h⟩ := ox_bind h
    refine kSi ⟨hx, hb, hml, hown, hts⟩ (c_X10_in l g x2 (0 : Int32) (100 : Int32) v_3 hv_3 H.size) (gS u_ml_X10_83 u_st_X10_in u_ini_X10 u_co_X10_in) hd_X10_in ⟨rfl, rfl⟩ hK hP hD hS hA [] [] rfl rfl 0 rfl (w2 := []) rfl rfl (As := [.int x2, .int (0 : Int32), .int (100 : Int32)]) (rest := []) rfl hl.1 rfl rfl dX10_frost_14 (fun H locs hP hD hS => ?_)
    refine lv_if_ne (tgt := 23) hx hb dX10_frost_17 (by decide) (fun c_4 => ?_) (fun c_4 => ?_)
    · have h := ox_f c_4 h
      refine lv_ldc2 (v := (1000000000 : Int64)) hx hb hown (hts _ (.tail _ u_kl_X10_245)) dX10_frost_23 ?_
      refine lv_lstore_n (lv' := [(3, .long (1000000000 : Int64)), (1, .int x1), (2, .int x2)]) hx hb dX10_frost_26 rfl hl (by decide) rfl (fun ls hl => ?_)
      refine lv_iconst (v := (0 : Int32)) hx hb dX10_frost_27 (by decide) ?_
      refine lv_istore (lv' := [(5, .int (0 : Int32)), (3, .long (1000000000 : Int64)), (1, .int x1), (2, .int x2)]) hx hb dX10_frost_28 hl (by decide) rfl (fun ls hl => ?_)
      obtain ⟨v_7, hv_7, h⟩ := ox_bind h
      refine lpc_W (Wh := fun (z : Int64 × Int32) => WA p l e (rM 1 22) s m args below meth c g A (MQ below (QI g A o []) args s 0 0 A) 6 30 [] [(1, .int x1), (2, .int x2), (3, .long z.1), (5, .int z.2)] []) (We := fun (v : Int64) => WA p l e (rM 1 22) s m args below meth c g A (MQ below (QI g A o []) args s 0 0 A) 6 54 [] [(3, .long v)] []) (fun z r hb hc he => t_X10_frost_b30 E q_t N x1 x2 z.1 z.2 r hb hc he) N ((1000000000 : Int64), (0 : Int32)) v_7 hv_7 ?_ H locs ls hP hD hS (lv_sub hl [2, 3, 1, 0] rfl)
      intro H locs ls hP hD hS hl
      refine lv_lload_n hx hb dX10_frost_54 rfl (lv_at hl 0 rfl) ?_
      refine lv_l2i (v := (v_7.toInt32)) hx hb dX10_frost_55 rfl ?_
      obtain rfl := Option.some.inj h
      exact k_iret hx hb hr hlk hP hD hS dX10_frost_56
    · have h := ox_t c_4 h
      refine lv_ldc (v := (-1000000002 : Int32)) hx hb hown (hts _ (.tail _ u_k_X10_90)) dX10_frost_20 ?_
      obtain rfl := Option.some.inj h
      exact k_iret hx hb hr hlk hP hD hS dX10_frost_22
set_option maxRecDepth 100000 in
theorem c_X10_frost (l : Launch) (g : gG) (q_t : Nat) (N : Nat) (x1 : Int32) (x2 : Int32) (o : Int32) (h : x_X10_frost N x1 x2 = some o) (sz : Nat) : MetI l yX10_frost (.code yX10_frost cX10_frost 6 (some .int) :: gW) 1 22 [.ref q_t, .int x1, .int x2] o g [] [] sz :=
  mkI (av := [.ref q_t, .int x1, .int x2]) (by decide +kernel) rfl (fun p e s m below meth c A E H locs ls hP hD hS hl => t_X10_frost E q_t N x1 x2 o h H locs ls hP hD hS (lv_sub hl [1, 2] rfl)) sz
def x_X10_drip_k37 (F_t : St) (x1 : Int32) (x2 : Int32) (x3 : Int32) : Option (Int32 × Int32 × (Nat → Int32)) :=
  if (F_t 28 0) = (6 : Int32) then (some ((-1000000004 : Int32), (F_t 28 0), (F_t 29))) else (if ((3 : Int32) * (F_t 28 0)) < 0 ∨ 18 ≤ ((3 : Int32) * (F_t 28 0)).toNatClampNeg then none else if (((3 : Int32) * (F_t 28 0)) + (1 : Int32)) < 0 ∨ 18 ≤ (((3 : Int32) * (F_t 28 0)) + (1 : Int32)).toNatClampNeg then none else if (((3 : Int32) * (F_t 28 0)) + (2 : Int32)) < 0 ∨ 18 ≤ (((3 : Int32) * (F_t 28 0)) + (2 : Int32)).toNatClampNeg then none else xl ((F_t 28 0) + (1 : Int32)) (fun y_5 => some (y_5, y_5, (upd (upd (upd (F_t 29) ((3 : Int32) * (F_t 28 0)).toNatClampNeg x1) (((3 : Int32) * (F_t 28 0)) + (1 : Int32)).toNatClampNeg x2) (((3 : Int32) * (F_t 28 0)) + (2 : Int32)).toNatClampNeg x3))))
set_option maxHeartbeats 4000000 in
set_option maxRecDepth 100000 in
theorem t_X10_drip_k37 {p : Program} {l : Launch} {e : Env} {s : State} {m : MethodId} {args : Array Value} {below : List Frame} {meth : Method} {c : Code} {g : gG} {A : Nat → Prop} (E : En p s m args meth c g A cX10_drip 4 (.code yX10_drip cX10_drip 4 (some .int) :: gW) RX10 (some .int)) (q_t : Nat) (Q_t : Ad) (F_t : St) (x1 : Int32) (x2 : Int32) (x3 : Int32) (o : Int32 × Int32 × (Nat → Int32)) (h : x_X10_drip_k37 F_t x1 x2 x3 = some o) : WA p l e (rM 2 43) s m args below meth c g A (MQ below (QI g A o.1 [oX10 q_t Q_t (F_t 0 0) (F_t 2 0) (F_t 3 0) (F_t 4 0) (F_t 5 0) (F_t 6 0) (F_t 7 0) (F_t 8 0) (F_t 9 0) (F_t 10 0) (F_t 11 0) (F_t 12 0) (F_t 15 0) (F_t 16 0) (F_t 17 0) (F_t 23 0) (F_t 27 0) o.2.1 (F_t 30 0), ia g (Q_t 29) 18 o.2.2]) args s 0 0 A) 4 37 [oX10 q_t Q_t (F_t 0 0) (F_t 2 0) (F_t 3 0) (F_t 4 0) (F_t 5 0) (F_t 6 0) (F_t 7 0) (F_t 8 0) (F_t 9 0) (F_t 10 0) (F_t 11 0) (F_t 12 0) (F_t 15 0) (F_t 16 0) (F_t 17 0) (F_t 23 0) (F_t 27 0) (F_t 28 0) (F_t 30 0), ia g (Q_t 29) 18 (F_t 29)] [(0, .ref q_t), (1, .int x1), (2, .int x2), (3, .int x3)] [] := by
  obtain ⟨⟨hx, hb, hml, hown, hts⟩, hr, hK, hA, hlk⟩ := id E
  intro H locs ls hP hD hS hl
  refine lv_aload_n hx hb dX10_drip_37 rfl (lv_at hl 0 rfl) ?_
  refine va_get (ci := 10) (v := .int (F_t 28 0)) (C := RX10) (T := TX10) (N := 38) hx hb hts (fun w h => .tail _ (u_inX10 w h)) hown hK.1 hP 0 rfl rfl 28 (by decide) (hts _ (.tail _ u_fl_X10_159)) (fun _ h9 => h9) rfl dX10_drip_38 ?_
  refine lv_bipush (v := (6 : Int32)) hx hb dX10_drip_41 (by decide) ?_
  refine lv_icmp_ne (tgt := 49) hx hb dX10_drip_43 (by decide) (fun c_1 => ?_) (fun c_1 => ?_)
  · have h := ox_f c_1 h
    refine lv_aload_n hx hb dX10_drip_49 rfl (lv_at hl 0 rfl) ?_
    refine va_get (ci := 10) (v := .ref (Q_t 29)) (C := RX10) (T := TX10) (N := 38) hx hb hts (fun w h => .tail _ (u_inX10 w h)) hown hK.1 hP 0 rfl rfl 29 (by decide) (hts _ (.tail _ u_fl_X10_48)) (fun _ h9 => h9) rfl dX10_drip_50 ?_
    refine lv_iconst (v := (3 : Int32)) hx hb dX10_drip_53 (by decide) ?_
    refine lv_aload_n hx hb dX10_drip_54 rfl (lv_at hl 0 rfl) ?_
    refine va_get (ci := 10) (v := .int (F_t 28 0)) (C := RX10) (T := TX10) (N := 38) hx hb hts (fun w h => .tail _ (u_inX10 w h)) hown hK.1 hP 0 rfl rfl 28 (by decide) (hts _ (.tail _ u_fl_X10_159)) (fun _ h9 => h9) rfl dX10_drip_55 ?_
    refine lv_imul hx hb dX10_drip_58 ?_
    refine lv_iload_n hx hb dX10_drip_59 rfl (lv_at hl 1 rfl) ?_
    obtain ⟨hi_2, h⟩ := ox_chk h
    refine va_iast hx hb hK.1 hP hD hS 1 0 rfl rfl hi_2 dX10_drip_60 (fun H locs hP hD hS => ?_)
    have hP : va_P g.1 vwCl [oX10 q_t Q_t (F_t 0 0) (F_t 2 0) (F_t 3 0) (F_t 4 0) (F_t 5 0) (F_t 6 0) (F_t 7 0) (F_t 8 0) (F_t 9 0) (F_t 10 0) (F_t 11 0) (F_t 12 0) (F_t 15 0) (F_t 16 0) (F_t 17 0) (F_t 23 0) (F_t 27 0) (F_t 28 0) (F_t 30 0), ia g (Q_t 29) 18 (upd (F_t 29) ((3 : Int32) * (F_t 28 0)).toNatClampNeg x1)] H := hP
    have hD : va_D A [oX10 q_t Q_t (F_t 0 0) (F_t 2 0) (F_t 3 0) (F_t 4 0) (F_t 5 0) (F_t 6 0) (F_t 7 0) (F_t 8 0) (F_t 9 0) (F_t 10 0) (F_t 11 0) (F_t 12 0) (F_t 15 0) (F_t 16 0) (F_t 17 0) (F_t 23 0) (F_t 27 0) (F_t 28 0) (F_t 30 0), ia g (Q_t 29) 18 (upd (F_t 29) ((3 : Int32) * (F_t 28 0)).toNatClampNeg x1)] := hD
    refine lv_aload_n hx hb dX10_drip_61 rfl (lv_at hl 0 rfl) ?_
    refine va_get (ci := 10) (v := .ref (Q_t 29)) (C := RX10) (T := TX10) (N := 38) hx hb hts (fun w h => .tail _ (u_inX10 w h)) hown hK.1 hP 0 rfl rfl 29 (by decide) (hts _ (.tail _ u_fl_X10_48)) (fun _ h9 => h9) rfl dX10_drip_62 ?_
    refine lv_iconst (v := (3 : Int32)) hx hb dX10_drip_65 (by decide) ?_
    refine lv_aload_n hx hb dX10_drip_66 rfl (lv_at hl 0 rfl) ?_
    refine va_get (ci := 10) (v := .int (F_t 28 0)) (C := RX10) (T := TX10) (N := 38) hx hb hts (fun w h => .tail _ (u_inX10 w h)) hown hK.1 hP 0 rfl rfl 28 (by decide) (hts _ (.tail _ u_fl_X10_159)) (fun _ h9 => h9) rfl dX10_drip_67 ?_
    refine lv_imul hx hb dX10_drip_70 ?_
    refine lv_iconst (v := (1 : Int32)) hx hb dX10_drip_71 (by decide) ?_
    refine lv_iadd hx hb dX10_drip_72 ?_
    refine lv_iload_n hx hb dX10_drip_73 rfl (lv_at hl 2 rfl) ?_
    obtain ⟨hi_3, h⟩ := ox_chk h
    refine va_iast hx hb hK.1 hP hD hS 1 0 rfl rfl hi_3 dX10_drip_74 (fun H locs hP hD hS => ?_)
    have hP : va_P g.1 vwCl [oX10 q_t Q_t (F_t 0 0) (F_t 2 0) (F_t 3 0) (F_t 4 0) (F_t 5 0) (F_t 6 0) (F_t 7 0) (F_t 8 0) (F_t 9 0) (F_t 10 0) (F_t 11 0) (F_t 12 0) (F_t 15 0) (F_t 16 0) (F_t 17 0) (F_t 23 0) (F_t 27 0) (F_t 28 0) (F_t 30 0), ia g (Q_t 29) 18 (upd (upd (F_t 29) ((3 : Int32) * (F_t 28 0)).toNatClampNeg x1) (((3 : Int32) * (F_t 28 0)) + (1 : Int32)).toNatClampNeg x2)] H := hP
    have hD : va_D A [oX10 q_t Q_t (F_t 0 0) (F_t 2 0) (F_t 3 0) (F_t 4 0) (F_t 5 0) (F_t 6 0) (F_t 7 0) (F_t 8 0) (F_t 9 0) (F_t 10 0) (F_t 11 0) (F_t 12 0) (F_t 15 0) (F_t 16 0) (F_t 17 0) (F_t 23 0) (F_t 27 0) (F_t 28 0) (F_t 30 0), ia g (Q_t 29) 18 (upd (upd (F_t 29) ((3 : Int32) * (F_t 28 0)).toNatClampNeg x1) (((3 : Int32) * (F_t 28 0)) + (1 : Int32)).toNatClampNeg x2)] := hD
    refine lv_aload_n hx hb dX10_drip_75 rfl (lv_at hl 0 rfl) ?_
    refine va_get (ci := 10) (v := .ref (Q_t 29)) (C := RX10) (T := TX10) (N := 38) hx hb hts (fun w h => .tail _ (u_inX10 w h)) hown hK.1 hP 0 rfl rfl 29 (by decide) (hts _ (.tail _ u_fl_X10_48)) (fun _ h9 => h9) rfl dX10_drip_76 ?_
    refine lv_iconst (v := (3 : Int32)) hx hb dX10_drip_79 (by decide) ?_
    refine lv_aload_n hx hb dX10_drip_80 rfl (lv_at hl 0 rfl) ?_
    refine va_get (ci := 10) (v := .int (F_t 28 0)) (C := RX10) (T := TX10) (N := 38) hx hb hts (fun w h => .tail _ (u_inX10 w h)) hown hK.1 hP 0 rfl rfl 28 (by decide) (hts _ (.tail _ u_fl_X10_159)) (fun _ h9 => h9) rfl dX10_drip_81 ?_
    refine lv_imul hx hb dX10_drip_84 ?_
    refine lv_iconst (v := (2 : Int32)) hx hb dX10_drip_85 (by decide) ?_
    refine lv_iadd hx hb dX10_drip_86 ?_
    refine lv_iload_n hx hb dX10_drip_87 rfl (lv_at hl 3 rfl) ?_
    obtain ⟨hi_4, h⟩ := ox_chk h
    refine va_iast hx hb hK.1 hP hD hS 1 0 rfl rfl hi_4 dX10_drip_88 (fun H locs hP hD hS => ?_)
    have hP : va_P g.1 vwCl [oX10 q_t Q_t (F_t 0 0) (F_t 2 0) (F_t 3 0) (F_t 4 0) (F_t 5 0) (F_t 6 0) (F_t 7 0) (F_t 8 0) (F_t 9 0) (F_t 10 0) (F_t 11 0) (F_t 12 0) (F_t 15 0) (F_t 16 0) (F_t 17 0) (F_t 23 0) (F_t 27 0) (F_t 28 0) (F_t 30 0), ia g (Q_t 29) 18 (upd (upd (upd (F_t 29) ((3 : Int32) * (F_t 28 0)).toNatClampNeg x1) (((3 : Int32) * (F_t 28 0)) + (1 : Int32)).toNatClampNeg x2) (((3 : Int32) * (F_t 28 0)) + (2 : Int32)).toNatClampNeg x3)] H := hP
    have hD : va_D A [oX10 q_t Q_t (F_t 0 0) (F_t 2 0) (F_t 3 0) (F_t 4 0) (F_t 5 0) (F_t 6 0) (F_t 7 0) (F_t 8 0) (F_t 9 0) (F_t 10 0) (F_t 11 0) (F_t 12 0) (F_t 15 0) (F_t 16 0) (F_t 17 0) (F_t 23 0) (F_t 27 0) (F_t 28 0) (F_t 30 0), ia g (Q_t 29) 18 (upd (upd (upd (F_t 29) ((3 : Int32) * (F_t 28 0)).toNatClampNeg x1) (((3 : Int32) * (F_t 28 0)) + (1 : Int32)).toNatClampNeg x2) (((3 : Int32) * (F_t 28 0)) + (2 : Int32)).toNatClampNeg x3)] := hD
    refine lv_aload_n hx hb dX10_drip_89 rfl (lv_at hl 0 rfl) ?_
    refine lv_dup hx hb dX10_drip_90 rfl ?_
    refine va_get (ci := 10) (v := .int (F_t 28 0)) (C := RX10) (T := TX10) (N := 38) hx hb hts (fun w h => .tail _ (u_inX10 w h)) hown hK.1 hP 0 rfl rfl 28 (by decide) (hts _ (.tail _ u_fl_X10_159)) (fun _ h9 => h9) rfl dX10_drip_91 ?_
    refine lv_iconst (v := (1 : Int32)) hx hb dX10_drip_94 (by decide) ?_
    refine lv_iadd hx hb dX10_drip_95 ?_
    refine lv_topi (fun y_5 ey_5 => ?_)
    have h := xl_at ey_5 h
    refine va_put (ci := 10) (v := .int y_5) (ty := .int) (C := RX10) (T := TX10) (N := 38) hx hb hts (fun w h => .tail _ (u_inX10 w h)) tyX10 tyX10_ok nmX10 hown hK.1 hP hD hS 0 rfl rfl 28 (by decide) (hts _ (.tail _ u_fl_X10_159)) (fun _ h9 => h9) rfl (tyX10_ok 28 (by decide)) rfl rfl (Nat.le_of_ble_eq_true rfl) dX10_drip_96 (fun H locs hP hD hS => ?_)
    have hP : va_P g.1 vwCl [oX10 q_t Q_t (F_t 0 0) (F_t 2 0) (F_t 3 0) (F_t 4 0) (F_t 5 0) (F_t 6 0) (F_t 7 0) (F_t 8 0) (F_t 9 0) (F_t 10 0) (F_t 11 0) (F_t 12 0) (F_t 15 0) (F_t 16 0) (F_t 17 0) (F_t 23 0) (F_t 27 0) y_5 (F_t 30 0), ia g (Q_t 29) 18 (upd (upd (upd (F_t 29) ((3 : Int32) * (F_t 28 0)).toNatClampNeg x1) (((3 : Int32) * (F_t 28 0)) + (1 : Int32)).toNatClampNeg x2) (((3 : Int32) * (F_t 28 0)) + (2 : Int32)).toNatClampNeg x3)] H := hP
    have hD : va_D A [oX10 q_t Q_t (F_t 0 0) (F_t 2 0) (F_t 3 0) (F_t 4 0) (F_t 5 0) (F_t 6 0) (F_t 7 0) (F_t 8 0) (F_t 9 0) (F_t 10 0) (F_t 11 0) (F_t 12 0) (F_t 15 0) (F_t 16 0) (F_t 17 0) (F_t 23 0) (F_t 27 0) y_5 (F_t 30 0), ia g (Q_t 29) 18 (upd (upd (upd (F_t 29) ((3 : Int32) * (F_t 28 0)).toNatClampNeg x1) (((3 : Int32) * (F_t 28 0)) + (1 : Int32)).toNatClampNeg x2) (((3 : Int32) * (F_t 28 0)) + (2 : Int32)).toNatClampNeg x3)] := hD
    refine lv_aload_n hx hb dX10_drip_99 rfl (lv_at hl 0 rfl) ?_
    refine va_get (ci := 10) (v := .int y_5) (C := RX10) (T := TX10) (N := 38) hx hb hts (fun w h => .tail _ (u_inX10 w h)) hown hK.1 hP 0 rfl rfl 28 (by decide) (hts _ (.tail _ u_fl_X10_159)) (fun _ h9 => h9) rfl dX10_drip_100 ?_
    obtain rfl := Option.some.inj h
    exact k_iret hx hb hr hlk hP hD hS dX10_drip_103
  · have h := ox_t c_1 h
    refine lv_ldc (v := (-1000000004 : Int32)) hx hb hown (hts _ (.tail _ u_k_X10_94)) dX10_drip_46 ?_
    obtain rfl := Option.some.inj h
    exact k_iret hx hb hr hlk hP hD hS dX10_drip_48
def x_X10_drip (F_t : St) (x1 : Int32) (x2 : Int32) (x3 : Int32) : Option (Int32 × Int32 × (Nat → Int32)) :=
  Option.bind (x_X10_isPlace F_t x1) (fun v_6 => if v_6 = 0 then (some ((-1000000001 : Int32), (F_t 28 0), (F_t 29))) else (Option.bind (x_X10_isSaying x2) (fun v_8 => if v_8 = 0 then (some ((-1000000001 : Int32), (F_t 28 0), (F_t 29))) else (Option.bind (x_X10_in x3 (0 : Int32) (60 : Int32)) (fun v_10 => if v_10 = 0 then (if x3 = (99 : Int32) then (x_X10_drip_k37 F_t x1 x2 x3) else (some ((-1000000002 : Int32), (F_t 28 0), (F_t 29)))) else (x_X10_drip_k37 F_t x1 x2 x3))))))
set_option maxHeartbeats 4000000 in
set_option maxRecDepth 100000 in
theorem t_X10_drip {p : Program} {l : Launch} {e : Env} {s : State} {m : MethodId} {args : Array Value} {below : List Frame} {meth : Method} {c : Code} {g : gG} {A : Nat → Prop} (E : En p s m args meth c g A cX10_drip 4 (.code yX10_drip cX10_drip 4 (some .int) :: gW) RX10 (some .int)) (q_t : Nat) (Q_t : Ad) (F_t : St) (x1 : Int32) (x2 : Int32) (x3 : Int32) (o : Int32 × Int32 × (Nat → Int32)) (h : x_X10_drip F_t x1 x2 x3 = some o) : WA p l e (rM 2 43) s m args below meth c g A (MQ below (QI g A o.1 [oX10 q_t Q_t (F_t 0 0) (F_t 2 0) (F_t 3 0) (F_t 4 0) (F_t 5 0) (F_t 6 0) (F_t 7 0) (F_t 8 0) (F_t 9 0) (F_t 10 0) (F_t 11 0) (F_t 12 0) (F_t 15 0) (F_t 16 0) (F_t 17 0) (F_t 23 0) (F_t 27 0) o.2.1 (F_t 30 0), ia g (Q_t 29) 18 o.2.2]) args s 0 0 A) 4 0 [oX10 q_t Q_t (F_t 0 0) (F_t 2 0) (F_t 3 0) (F_t 4 0) (F_t 5 0) (F_t 6 0) (F_t 7 0) (F_t 8 0) (F_t 9 0) (F_t 10 0) (F_t 11 0) (F_t 12 0) (F_t 15 0) (F_t 16 0) (F_t 17 0) (F_t 23 0) (F_t 27 0) (F_t 28 0) (F_t 30 0), ia g (Q_t 29) 18 (F_t 29)] [(0, .ref q_t), (1, .int x1), (2, .int x2), (3, .int x3)] [] := by
  obtain ⟨⟨hx, hb, hml, hown, hts⟩, hr, hK, hA, hlk⟩ := id E
  intro H locs ls hP hD hS hl
  refine lv_aload_n hx hb dX10_drip_0 rfl (lv_at hl 0 rfl) ?_
  refine lv_iload_n hx hb dX10_drip_1 rfl (lv_at hl 1 rfl) ?_
  obtain ⟨v_6, hv_6, h⟩ := ox_bind h
  refine kVi ⟨hx, hb, hml, hown, hts⟩ (c_X10_isPlace l g q_t Q_t F_t x1 v_6 hv_6 H.size) (gV u_ml_X10_180 u_im_X10_isPlace u_se_X10_isPlace u_ini_X10 u_co_X10_isPlace) hd_X10_isPlace ⟨rfl, rfl⟩ hK hP hD hS hA 0 10 rfl rfl [0] [0, 2] rfl rfl 1 rfl (w2 := [oX10 q_t Q_t (F_t 0 0) (F_t 2 0) (F_t 3 0) (F_t 4 0) (F_t 5 0) (F_t 6 0) (F_t 7 0) (F_t 8 0) (F_t 9 0) (F_t 10 0) (F_t 11 0) (F_t 12 0) (F_t 15 0) (F_t 16 0) (F_t 17 0) (F_t 23 0) (F_t 27 0) (F_t 28 0) (F_t 30 0), ia g (Q_t 29) 18 (F_t 29)]) rfl rfl (As := [.int x1]) (rest := []) rfl hl.1 rfl rfl dX10_drip_2 (fun H locs hP hD hS => ?_)
  refine lv_if_eq (tgt := 15) hx hb dX10_drip_5 (by decide) (fun c_7 => ?_) (fun c_7 => ?_)
  · have h := ox_t c_7 h
    refine lv_ldc (v := (-1000000001 : Int32)) hx hb hown (hts _ (.tail _ u_k_X10_183)) dX10_drip_15 ?_
    obtain rfl := Option.some.inj h
    exact k_iret hx hb hr hlk hP hD hS dX10_drip_17
  · have h := ox_f c_7 h
    refine lv_iload_n hx hb dX10_drip_8 rfl (lv_at hl 2 rfl) ?_
    obtain ⟨v_8, hv_8, h⟩ := ox_bind h
    refine kSi ⟨hx, hb, hml, hown, hts⟩ (c_X10_isSaying l g x2 v_8 hv_8 H.size) (gS u_ml_X10_187 u_st_X10_isSaying u_ini_X10 u_co_X10_isSaying) hd_X10_isSaying ⟨rfl, rfl⟩ hK hP hD hS hA [] [0, 1] rfl rfl 0 rfl (w2 := [oX10 q_t Q_t (F_t 0 0) (F_t 2 0) (F_t 3 0) (F_t 4 0) (F_t 5 0) (F_t 6 0) (F_t 7 0) (F_t 8 0) (F_t 9 0) (F_t 10 0) (F_t 11 0) (F_t 12 0) (F_t 15 0) (F_t 16 0) (F_t 17 0) (F_t 23 0) (F_t 27 0) (F_t 28 0) (F_t 30 0), ia g (Q_t 29) 18 (F_t 29)]) rfl rfl (As := [.int x2]) (rest := []) rfl hl.1 rfl rfl dX10_drip_9 (fun H locs hP hD hS => ?_)
    refine lv_if_ne (tgt := 18) hx hb dX10_drip_12 (by decide) (fun c_9 => ?_) (fun c_9 => ?_)
    · have h := ox_f c_9 h
      refine lv_iload_n hx hb dX10_drip_18 rfl (lv_at hl 3 rfl) ?_
      refine lv_iconst (v := (0 : Int32)) hx hb dX10_drip_19 (by decide) ?_
      refine lv_bipush (v := (60 : Int32)) hx hb dX10_drip_20 (by decide) ?_
      obtain ⟨v_10, hv_10, h⟩ := ox_bind h
      refine kSi ⟨hx, hb, hml, hown, hts⟩ (c_X10_in l g x3 (0 : Int32) (60 : Int32) v_10 hv_10 H.size) (gS u_ml_X10_83 u_st_X10_in u_ini_X10 u_co_X10_in) hd_X10_in ⟨rfl, rfl⟩ hK hP hD hS hA [] [0, 1] rfl rfl 0 rfl (w2 := [oX10 q_t Q_t (F_t 0 0) (F_t 2 0) (F_t 3 0) (F_t 4 0) (F_t 5 0) (F_t 6 0) (F_t 7 0) (F_t 8 0) (F_t 9 0) (F_t 10 0) (F_t 11 0) (F_t 12 0) (F_t 15 0) (F_t 16 0) (F_t 17 0) (F_t 23 0) (F_t 27 0) (F_t 28 0) (F_t 30 0), ia g (Q_t 29) 18 (F_t 29)]) rfl rfl (As := [.int x3, .int (0 : Int32), .int (60 : Int32)]) (rest := []) rfl hl.1 rfl rfl dX10_drip_22 (fun H locs hP hD hS => ?_)
      refine lv_if_ne (tgt := 37) hx hb dX10_drip_25 (by decide) (fun c_11 => ?_) (fun c_11 => ?_)
      · have h := ox_f c_11 h
        exact t_X10_drip_k37 E q_t Q_t F_t x1 x2 x3 _ h H locs ls hP hD hS hl
      · have h := ox_t c_11 h
        refine lv_iload_n hx hb dX10_drip_28 rfl (lv_at hl 3 rfl) ?_
        refine lv_bipush (v := (99 : Int32)) hx hb dX10_drip_29 (by decide) ?_
        refine lv_icmp_eq (tgt := 37) hx hb dX10_drip_31 (by decide) (fun c_12 => ?_) (fun c_12 => ?_)
        · have h := ox_t c_12 h
          exact t_X10_drip_k37 E q_t Q_t F_t x1 x2 x3 _ h H locs ls hP hD hS hl
        · have h := ox_f c_12 h
          refine lv_ldc (v := (-1000000002 : Int32)) hx hb hown (hts _ (.tail _ u_k_X10_90)) dX10_drip_34 ?_
          obtain rfl := Option.some.inj h
          exact k_iret hx hb hr hlk hP hD hS dX10_drip_36
    · have h := ox_t c_9 h
      refine lv_ldc (v := (-1000000001 : Int32)) hx hb hown (hts _ (.tail _ u_k_X10_183)) dX10_drip_15 ?_
      obtain rfl := Option.some.inj h
      exact k_iret hx hb hr hlk hP hD hS dX10_drip_17
set_option maxRecDepth 100000 in
theorem c_X10_drip (l : Launch) (g : gG) (q_t : Nat) (Q_t : Ad) (F_t : St) (x1 : Int32) (x2 : Int32) (x3 : Int32) (o : Int32 × Int32 × (Nat → Int32)) (h : x_X10_drip F_t x1 x2 x3 = some o) (sz : Nat) : MetI l yX10_drip (.code yX10_drip cX10_drip 4 (some .int) :: gW) 2 43 [.ref q_t, .int x1, .int x2, .int x3] o.1 g [oX10 q_t Q_t (F_t 0 0) (F_t 2 0) (F_t 3 0) (F_t 4 0) (F_t 5 0) (F_t 6 0) (F_t 7 0) (F_t 8 0) (F_t 9 0) (F_t 10 0) (F_t 11 0) (F_t 12 0) (F_t 15 0) (F_t 16 0) (F_t 17 0) (F_t 23 0) (F_t 27 0) (F_t 28 0) (F_t 30 0), ia g (Q_t 29) 18 (F_t 29)] [oX10 q_t Q_t (F_t 0 0) (F_t 2 0) (F_t 3 0) (F_t 4 0) (F_t 5 0) (F_t 6 0) (F_t 7 0) (F_t 8 0) (F_t 9 0) (F_t 10 0) (F_t 11 0) (F_t 12 0) (F_t 15 0) (F_t 16 0) (F_t 17 0) (F_t 23 0) (F_t 27 0) o.2.1 (F_t 30 0), ia g (Q_t 29) 18 o.2.2] sz :=
  mkI (av := [.ref q_t, .int x1, .int x2, .int x3]) (by decide +kernel) rfl (fun p e s m below meth c A E H locs ls hP hD hS hl => t_X10_drip E q_t Q_t F_t x1 x2 x3 o h H locs ls hP hD hS hl) sz
def x_X10_crackedBy_b4_k127 (N : Nat) (F_t : St) (x1 : Int32) (x3 : Int32) (s0 : Int32) (s1 : Int32) : Option ((Int32 × Int32 × (Nat → Int32) × (Nat → Int32)) ⊕ (Int32 × (Nat → Int32) × (Nat → Int32))) :=
  xl (s0 ||| s1) (fun y_1 => some (.inl (y_1, (x3 + (1 : Int32)), (F_t 32), (F_t 33))))
set_option maxHeartbeats 4000000 in
set_option maxRecDepth 100000 in
theorem t_X10_crackedBy_b4_k127 {p : Program} {l : Launch} {e : Env} {s : State} {m : MethodId} {args : Array Value} {below : List Frame} {meth : Method} {c : Code} {g : gG} {A : Nat → Prop} {Q : State → Prop} (E : En p s m args meth c g A cX10_crackedBy 6 (.code yX10_crackedBy cX10_crackedBy 6 (some .int) :: gW) RX10 (some .int)) (q_t : Nat) (Q_t : Ad) (N : Nat) (F_t : St) (x1 : Int32) (x3 : Int32) (s0 : Int32) (s1 : Int32) (o : (Int32 × Int32 × (Nat → Int32) × (Nat → Int32)) ⊕ (Int32 × (Nat → Int32) × (Nat → Int32))) (h : x_X10_crackedBy_b4_k127 N F_t x1 x3 s0 s1 = some o) (hc : ∀ z, o = .inl z → WA p l e (rM 2 53) s m args below meth c g A Q 6 4 [oX10 q_t Q_t (F_t 0 0) (F_t 2 0) (F_t 3 0) (F_t 4 0) (F_t 5 0) (F_t 6 0) (F_t 7 0) (F_t 8 0) (F_t 9 0) (F_t 10 0) (F_t 11 0) (F_t 12 0) (F_t 15 0) (F_t 16 0) (F_t 17 0) (F_t 23 0) (F_t 27 0) (F_t 28 0) (F_t 30 0), ia g (Q_t 18) 16 (F_t 18), ia g (Q_t 19) 30 (F_t 19), ia g (Q_t 20) 174 (F_t 20), ia g (Q_t 29) 18 (F_t 29), ia g (Q_t 32) 8 z.2.2.1, ia g (Q_t 33) 8 z.2.2.2] [(0, .ref q_t), (1, .int x1), (2, .int z.1), (3, .int z.2.1)] []) (he : ∀ v, o = .inr v → WA p l e (rM 2 53) s m args below meth c g A Q 6 135 [oX10 q_t Q_t (F_t 0 0) (F_t 2 0) (F_t 3 0) (F_t 4 0) (F_t 5 0) (F_t 6 0) (F_t 7 0) (F_t 8 0) (F_t 9 0) (F_t 10 0) (F_t 11 0) (F_t 12 0) (F_t 15 0) (F_t 16 0) (F_t 17 0) (F_t 23 0) (F_t 27 0) (F_t 28 0) (F_t 30 0), ia g (Q_t 18) 16 (F_t 18), ia g (Q_t 19) 30 (F_t 19), ia g (Q_t 20) 174 (F_t 20), ia g (Q_t 29) 18 (F_t 29), ia g (Q_t 32) 8 v.2.1, ia g (Q_t 33) 8 v.2.2] [(2, .int v.1)] []) : WA p l e (rM 2 53) s m args below meth c g A Q 6 127 [oX10 q_t Q_t (F_t 0 0) (F_t 2 0) (F_t 3 0) (F_t 4 0) (F_t 5 0) (F_t 6 0) (F_t 7 0) (F_t 8 0) (F_t 9 0) (F_t 10 0) (F_t 11 0) (F_t 12 0) (F_t 15 0) (F_t 16 0) (F_t 17 0) (F_t 23 0) (F_t 27 0) (F_t 28 0) (F_t 30 0), ia g (Q_t 18) 16 (F_t 18), ia g (Q_t 19) 30 (F_t 19), ia g (Q_t 20) 174 (F_t 20), ia g (Q_t 29) 18 (F_t 29), ia g (Q_t 32) 8 (F_t 32), ia g (Q_t 33) 8 (F_t 33)] [(0, .ref q_t), (1, .int x1), (3, .int x3)] [.int s1, .int s0] := by
  obtain ⟨⟨hx, hb, hml, hown, hts⟩, hr, hK, hA, hlk⟩ := id E
  intro H locs ls hP hD hS hl
  refine lv_ior hx hb dX10_crackedBy_127 ?_
  refine lv_topi (fun y_1 ey_1 => ?_)
  have h := xl_at ey_1 h
  refine lv_istore_n (lv' := [(2, .int y_1), (0, .ref q_t), (1, .int x1), (3, .int x3)]) hx hb dX10_crackedBy_128 rfl hl (by decide) rfl (fun ls hl => ?_)
  refine lv_iinc (v := (x3 + (1 : Int32))) (lv' := [(3, .int (x3 + (1 : Int32))), (2, .int y_1), (0, .ref q_t), (1, .int x1)]) hx hb dX10_crackedBy_129 hl (k := 3) rfl rfl (by decide) rfl (fun ls hl => ?_)
  refine lv_goto (tgt := 4) hx hb dX10_crackedBy_132 (by decide) ?_
  obtain rfl := Option.some.inj h
  exact hc _ rfl H locs ls hP hD hS (lv_sub hl [2, 3, 1, 0] rfl)
def x_X10_crackedBy_b34_k106 (N : Nat) (F_t : St) (x1 : Int32) (x2 : Int32) (x3 : Int32) (x5 : Int32) (s0 : Int32) : Option ((Int32 × Int32 × (Nat → Int32) × (Nat → Int32)) ⊕ (Int32 × (Nat → Int32) × (Nat → Int32))) :=
  some (.inl (s0, (x5 + (1 : Int32)), (F_t 32), (F_t 33)))
set_option maxHeartbeats 4000000 in
set_option maxRecDepth 100000 in
theorem t_X10_crackedBy_b34_k106 {p : Program} {l : Launch} {e : Env} {s : State} {m : MethodId} {args : Array Value} {below : List Frame} {meth : Method} {c : Code} {g : gG} {A : Nat → Prop} {Q : State → Prop} (E : En p s m args meth c g A cX10_crackedBy 6 (.code yX10_crackedBy cX10_crackedBy 6 (some .int) :: gW) RX10 (some .int)) (q_t : Nat) (Q_t : Ad) (N : Nat) (F_t : St) (x1 : Int32) (x2 : Int32) (x3 : Int32) (x5 : Int32) (s0 : Int32) (o : (Int32 × Int32 × (Nat → Int32) × (Nat → Int32)) ⊕ (Int32 × (Nat → Int32) × (Nat → Int32))) (h : x_X10_crackedBy_b34_k106 N F_t x1 x2 x3 x5 s0 = some o) (hc : ∀ z, o = .inl z → WA p l e (rM 2 53) s m args below meth c g A Q 6 34 [oX10 q_t Q_t (F_t 0 0) (F_t 2 0) (F_t 3 0) (F_t 4 0) (F_t 5 0) (F_t 6 0) (F_t 7 0) (F_t 8 0) (F_t 9 0) (F_t 10 0) (F_t 11 0) (F_t 12 0) (F_t 15 0) (F_t 16 0) (F_t 17 0) (F_t 23 0) (F_t 27 0) (F_t 28 0) (F_t 30 0), ia g (Q_t 18) 16 (F_t 18), ia g (Q_t 19) 30 (F_t 19), ia g (Q_t 20) 174 (F_t 20), ia g (Q_t 29) 18 (F_t 29), ia g (Q_t 32) 8 z.2.2.1, ia g (Q_t 33) 8 z.2.2.2] [(0, .ref q_t), (1, .int x1), (2, .int x2), (3, .int x3), (4, .int z.1), (5, .int z.2.1)] []) (he : ∀ v, o = .inr v → WA p l e (rM 2 53) s m args below meth c g A Q 6 114 [oX10 q_t Q_t (F_t 0 0) (F_t 2 0) (F_t 3 0) (F_t 4 0) (F_t 5 0) (F_t 6 0) (F_t 7 0) (F_t 8 0) (F_t 9 0) (F_t 10 0) (F_t 11 0) (F_t 12 0) (F_t 15 0) (F_t 16 0) (F_t 17 0) (F_t 23 0) (F_t 27 0) (F_t 28 0) (F_t 30 0), ia g (Q_t 18) 16 (F_t 18), ia g (Q_t 19) 30 (F_t 19), ia g (Q_t 20) 174 (F_t 20), ia g (Q_t 29) 18 (F_t 29), ia g (Q_t 32) 8 v.2.1, ia g (Q_t 33) 8 v.2.2] [(0, .ref q_t), (1, .int x1), (2, .int x2), (3, .int x3), (4, .int v.1)] []) : WA p l e (rM 2 53) s m args below meth c g A Q 6 106 [oX10 q_t Q_t (F_t 0 0) (F_t 2 0) (F_t 3 0) (F_t 4 0) (F_t 5 0) (F_t 6 0) (F_t 7 0) (F_t 8 0) (F_t 9 0) (F_t 10 0) (F_t 11 0) (F_t 12 0) (F_t 15 0) (F_t 16 0) (F_t 17 0) (F_t 23 0) (F_t 27 0) (F_t 28 0) (F_t 30 0), ia g (Q_t 18) 16 (F_t 18), ia g (Q_t 19) 30 (F_t 19), ia g (Q_t 20) 174 (F_t 20), ia g (Q_t 29) 18 (F_t 29), ia g (Q_t 32) 8 (F_t 32), ia g (Q_t 33) 8 (F_t 33)] [(0, .ref q_t), (1, .int x1), (2, .int x2), (3, .int x3), (5, .int x5)] [.int s0] := by
  obtain ⟨⟨hx, hb, hml, hown, hts⟩, hr, hK, hA, hlk⟩ := id E
  intro H locs ls hP hD hS hl
  refine lv_istore (lv' := [(4, .int s0), (0, .ref q_t), (1, .int x1), (2, .int x2), (3, .int x3), (5, .int x5)]) hx hb dX10_crackedBy_106 hl (by decide) rfl (fun ls hl => ?_)
  refine lv_iinc (v := (x5 + (1 : Int32))) (lv' := [(5, .int (x5 + (1 : Int32))), (4, .int s0), (0, .ref q_t), (1, .int x1), (2, .int x2), (3, .int x3)]) hx hb dX10_crackedBy_108 hl (k := 5) rfl rfl (by decide) rfl (fun ls hl => ?_)
  refine lv_goto (tgt := 34) hx hb dX10_crackedBy_111 (by decide) ?_
  obtain rfl := Option.some.inj h
  exact hc _ rfl H locs ls hP hD hS (lv_sub hl [2, 3, 4, 5, 1, 0] rfl)
def x_X10_crackedBy_b34 (N : Nat) (F_t : St) (x1 : Int32) (x2 : Int32) (x3 : Int32) (x4 : Int32) (x5 : Int32) : Option ((Int32 × Int32 × (Nat → Int32) × (Nat → Int32)) ⊕ (Int32 × (Nat → Int32) × (Nat → Int32))) :=
  if (F_t 28 0) ≤ x5 then (some (.inr (x4, (F_t 32), (F_t 33)))) else (if x4 = 0 then (some (.inr (x4, (F_t 32), (F_t 33)))) else (if (((3 : Int32) * x5) + (1 : Int32)) < 0 ∨ 18 ≤ (((3 : Int32) * x5) + (1 : Int32)).toNatClampNeg then none else Option.bind (x_X10_layComes N F_t ((F_t 29) (((3 : Int32) * x5) + (1 : Int32)).toNatClampNeg) ((F_t 20) (172 : Int32).toNatClampNeg) x3 x1) (fun v_5 => if ((3 : Int32) * x5) < 0 ∨ 18 ≤ ((3 : Int32) * x5).toNatClampNeg then none else if ((F_t 29) ((3 : Int32) * x5).toNatClampNeg) < 0 ∨ 8 ≤ ((F_t 29) ((3 : Int32) * x5).toNatClampNeg).toNatClampNeg then none else if (((3 : Int32) * x5) + (2 : Int32)) < 0 ∨ 18 ≤ (((3 : Int32) * x5) + (2 : Int32)).toNatClampNeg then none else if (v_5.2 ((F_t 29) ((3 : Int32) * x5).toNatClampNeg).toNatClampNeg) = ((F_t 29) (((3 : Int32) * x5) + (2 : Int32)).toNatClampNeg) then (x_X10_crackedBy_b34_k106 N (va_up (va_up F_t 32 v_5.1) 33 v_5.2) x1 x2 x3 x5 (1 : Int32)) else (x_X10_crackedBy_b34_k106 N (va_up (va_up F_t 32 v_5.1) 33 v_5.2) x1 x2 x3 x5 (0 : Int32)))))
set_option maxHeartbeats 4000000 in
set_option maxRecDepth 100000 in
theorem t_X10_crackedBy_b34 {p : Program} {l : Launch} {e : Env} {s : State} {m : MethodId} {args : Array Value} {below : List Frame} {meth : Method} {c : Code} {g : gG} {A : Nat → Prop} {Q : State → Prop} (E : En p s m args meth c g A cX10_crackedBy 6 (.code yX10_crackedBy cX10_crackedBy 6 (some .int) :: gW) RX10 (some .int)) (q_t : Nat) (Q_t : Ad) (N : Nat) (F_t : St) (x1 : Int32) (x2 : Int32) (x3 : Int32) (x4 : Int32) (x5 : Int32) (o : (Int32 × Int32 × (Nat → Int32) × (Nat → Int32)) ⊕ (Int32 × (Nat → Int32) × (Nat → Int32))) (h : x_X10_crackedBy_b34 N F_t x1 x2 x3 x4 x5 = some o) (hc : ∀ z, o = .inl z → WA p l e (rM 2 53) s m args below meth c g A Q 6 34 [oX10 q_t Q_t (F_t 0 0) (F_t 2 0) (F_t 3 0) (F_t 4 0) (F_t 5 0) (F_t 6 0) (F_t 7 0) (F_t 8 0) (F_t 9 0) (F_t 10 0) (F_t 11 0) (F_t 12 0) (F_t 15 0) (F_t 16 0) (F_t 17 0) (F_t 23 0) (F_t 27 0) (F_t 28 0) (F_t 30 0), ia g (Q_t 18) 16 (F_t 18), ia g (Q_t 19) 30 (F_t 19), ia g (Q_t 20) 174 (F_t 20), ia g (Q_t 29) 18 (F_t 29), ia g (Q_t 32) 8 z.2.2.1, ia g (Q_t 33) 8 z.2.2.2] [(0, .ref q_t), (1, .int x1), (2, .int x2), (3, .int x3), (4, .int z.1), (5, .int z.2.1)] []) (he : ∀ v, o = .inr v → WA p l e (rM 2 53) s m args below meth c g A Q 6 114 [oX10 q_t Q_t (F_t 0 0) (F_t 2 0) (F_t 3 0) (F_t 4 0) (F_t 5 0) (F_t 6 0) (F_t 7 0) (F_t 8 0) (F_t 9 0) (F_t 10 0) (F_t 11 0) (F_t 12 0) (F_t 15 0) (F_t 16 0) (F_t 17 0) (F_t 23 0) (F_t 27 0) (F_t 28 0) (F_t 30 0), ia g (Q_t 18) 16 (F_t 18), ia g (Q_t 19) 30 (F_t 19), ia g (Q_t 20) 174 (F_t 20), ia g (Q_t 29) 18 (F_t 29), ia g (Q_t 32) 8 v.2.1, ia g (Q_t 33) 8 v.2.2] [(0, .ref q_t), (1, .int x1), (2, .int x2), (3, .int x3), (4, .int v.1)] []) : WA p l e (rM 2 53) s m args below meth c g A Q 6 34 [oX10 q_t Q_t (F_t 0 0) (F_t 2 0) (F_t 3 0) (F_t 4 0) (F_t 5 0) (F_t 6 0) (F_t 7 0) (F_t 8 0) (F_t 9 0) (F_t 10 0) (F_t 11 0) (F_t 12 0) (F_t 15 0) (F_t 16 0) (F_t 17 0) (F_t 23 0) (F_t 27 0) (F_t 28 0) (F_t 30 0), ia g (Q_t 18) 16 (F_t 18), ia g (Q_t 19) 30 (F_t 19), ia g (Q_t 20) 174 (F_t 20), ia g (Q_t 29) 18 (F_t 29), ia g (Q_t 32) 8 (F_t 32), ia g (Q_t 33) 8 (F_t 33)] [(0, .ref q_t), (1, .int x1), (2, .int x2), (3, .int x3), (4, .int x4), (5, .int x5)] [] := by
  obtain ⟨⟨hx, hb, hml, hown, hts⟩, hr, hK, hA, hlk⟩ := id E
  intro H locs ls hP hD hS hl
  refine lv_iload hx hb dX10_crackedBy_34 (lv_at hl 5 rfl) ?_
  refine lv_aload_n hx hb dX10_crackedBy_36 rfl (lv_at hl 0 rfl) ?_
  refine va_get (ci := 10) (v := .int (F_t 28 0)) (C := RX10) (T := TX10) (N := 38) hx hb hts (fun w h => .tail _ (u_inX10 w h)) hown hK.1 hP 0 rfl rfl 28 (by decide) (hts _ (.tail _ u_fl_X10_159)) (fun _ h9 => h9) rfl dX10_crackedBy_37 ?_
  refine lv_icmp_ge (tgt := 114) hx hb dX10_crackedBy_40 (by decide) (fun c_2 => ?_) (fun c_2 => ?_)
  · have h := ox_t c_2 h
    obtain rfl := Option.some.inj h
    exact he _ rfl H locs ls hP hD hS (lv_sub hl [0, 1, 2, 3, 4] rfl)
  · have h := ox_f c_2 h
    refine lv_iload hx hb dX10_crackedBy_43 (lv_at hl 4 rfl) ?_
    refine lv_if_eq (tgt := 114) hx hb dX10_crackedBy_45 (by decide) (fun c_3 => ?_) (fun c_3 => ?_)
    · have h := ox_t c_3 h
      obtain rfl := Option.some.inj h
      exact he _ rfl H locs ls hP hD hS (lv_sub hl [0, 1, 2, 3, 4] rfl)
    · have h := ox_f c_3 h
      refine lv_aload_n hx hb dX10_crackedBy_48 rfl (lv_at hl 0 rfl) ?_
      refine lv_aload_n hx hb dX10_crackedBy_49 rfl (lv_at hl 0 rfl) ?_
      refine va_get (ci := 10) (v := .ref (Q_t 29)) (C := RX10) (T := TX10) (N := 38) hx hb hts (fun w h => .tail _ (u_inX10 w h)) hown hK.1 hP 0 rfl rfl 29 (by decide) (hts _ (.tail _ u_fl_X10_48)) (fun _ h9 => h9) rfl dX10_crackedBy_50 ?_
      refine lv_iconst (v := (3 : Int32)) hx hb dX10_crackedBy_53 (by decide) ?_
      refine lv_iload hx hb dX10_crackedBy_54 (lv_at hl 5 rfl) ?_
      refine lv_imul hx hb dX10_crackedBy_56 ?_
      refine lv_iconst (v := (1 : Int32)) hx hb dX10_crackedBy_57 (by decide) ?_
      refine lv_iadd hx hb dX10_crackedBy_58 ?_
      obtain ⟨hi_4, h⟩ := ox_chk h
      refine va_iald hx hb hK.1 hP 4 0 rfl rfl hi_4 dX10_crackedBy_59 ?_
      refine lv_aload_n hx hb dX10_crackedBy_60 rfl (lv_at hl 0 rfl) ?_
      refine va_get (ci := 10) (v := .ref (Q_t 20)) (C := RX10) (T := TX10) (N := 38) hx hb hts (fun w h => .tail _ (u_inX10 w h)) hown hK.1 hP 0 rfl rfl 20 (by decide) (hts _ (.tail _ u_fl_X10_29)) (fun _ h9 => h9) rfl dX10_crackedBy_61 ?_
      refine lv_sipush (v := (172 : Int32)) hx hb dX10_crackedBy_64 (by decide) ?_
      refine va_iald hx hb hK.1 hP 3 0 rfl rfl (by unfold vp_in; decide) dX10_crackedBy_67 ?_
      refine lv_iload_n hx hb dX10_crackedBy_68 rfl (lv_at hl 3 rfl) ?_
      refine lv_iload_n hx hb dX10_crackedBy_69 rfl (lv_at hl 1 rfl) ?_
      obtain ⟨v_5, hv_5, h⟩ := ox_bind h
      refine kVv ⟨hx, hb, hml, hown, hts⟩ (c_X10_layComes l g q_t Q_t N F_t ((F_t 29) (((3 : Int32) * x5) + (1 : Int32)).toNatClampNeg) ((F_t 20) (172 : Int32).toNatClampNeg) x3 x1 v_5 hv_5 H.size) (gV u_ml_X10_229 u_im_X10_layComes u_se_X10_layComes u_ini_X10 u_co_X10_layComes) hd_X10_layComes ⟨rfl, rfl⟩ hK hP hD hS hA 0 10 rfl rfl [0, 1, 2, 3, 5, 6] [0, 1, 2, 3, 10, 4, 5] rfl rfl 6 rfl (w2 := [oX10 q_t Q_t (F_t 0 0) (F_t 2 0) (F_t 3 0) (F_t 4 0) (F_t 5 0) (F_t 6 0) (F_t 7 0) (F_t 8 0) (F_t 9 0) (F_t 10 0) (F_t 11 0) (F_t 12 0) (F_t 15 0) (F_t 16 0) (F_t 17 0) (F_t 23 0) (F_t 27 0) (F_t 28 0) (F_t 30 0), ia g (Q_t 18) 16 (F_t 18), ia g (Q_t 19) 30 (F_t 19), ia g (Q_t 20) 174 (F_t 20), ia g (Q_t 29) 18 (F_t 29), ia g (Q_t 32) 8 v_5.1, ia g (Q_t 33) 8 v_5.2]) rfl rfl (As := [.int ((F_t 29) (((3 : Int32) * x5) + (1 : Int32)).toNatClampNeg), .int ((F_t 20) (172 : Int32).toNatClampNeg), .int x3, .int x1]) (rest := []) rfl hl.1 rfl rfl dX10_crackedBy_70 (fun H locs hP hD hS => ?_)
      refine lv_aload_n hx hb dX10_crackedBy_73 rfl (lv_at hl 0 rfl) ?_
      refine va_get (ci := 10) (v := .ref (Q_t 33)) (C := RX10) (T := TX10) (N := 38) hx hb hts (fun w h => .tail _ (u_inX10 w h)) hown hK.1 hP 0 rfl rfl 33 (by decide) (hts _ (.tail _ u_fl_X10_57)) (fun _ h9 => h9) rfl dX10_crackedBy_74 ?_
      refine lv_aload_n hx hb dX10_crackedBy_77 rfl (lv_at hl 0 rfl) ?_
      refine va_get (ci := 10) (v := .ref (Q_t 29)) (C := RX10) (T := TX10) (N := 38) hx hb hts (fun w h => .tail _ (u_inX10 w h)) hown hK.1 hP 0 rfl rfl 29 (by decide) (hts _ (.tail _ u_fl_X10_48)) (fun _ h9 => h9) rfl dX10_crackedBy_78 ?_
      refine lv_iconst (v := (3 : Int32)) hx hb dX10_crackedBy_81 (by decide) ?_
      refine lv_iload hx hb dX10_crackedBy_82 (lv_at hl 5 rfl) ?_
      refine lv_imul hx hb dX10_crackedBy_84 ?_
      obtain ⟨hi_6, h⟩ := ox_chk h
      refine va_iald hx hb hK.1 hP 4 0 rfl rfl hi_6 dX10_crackedBy_85 ?_
      obtain ⟨hi_7, h⟩ := ox_chk h
      refine va_iald hx hb hK.1 hP 6 0 rfl rfl hi_7 dX10_crackedBy_86 ?_
      refine lv_aload_n hx hb dX10_crackedBy_87 rfl (lv_at hl 0 rfl) ?_
      refine va_get (ci := 10) (v := .ref (Q_t 29)) (C := RX10) (T := TX10) (N := 38) hx hb hts (fun w h => .tail _ (u_inX10 w h)) hown hK.1 hP 0 rfl rfl 29 (by decide) (hts _ (.tail _ u_fl_X10_48)) (fun _ h9 => h9) rfl dX10_crackedBy_88 ?_
      refine lv_iconst (v := (3 : Int32)) hx hb dX10_crackedBy_91 (by decide) ?_
      refine lv_iload hx hb dX10_crackedBy_92 (lv_at hl 5 rfl) ?_
      refine lv_imul hx hb dX10_crackedBy_94 ?_
      refine lv_iconst (v := (2 : Int32)) hx hb dX10_crackedBy_95 (by decide) ?_
      refine lv_iadd hx hb dX10_crackedBy_96 ?_
      obtain ⟨hi_8, h⟩ := ox_chk h
      refine va_iald hx hb hK.1 hP 4 0 rfl rfl hi_8 dX10_crackedBy_97 ?_
      refine lv_icmp_ne (tgt := 105) hx hb dX10_crackedBy_98 (by decide) (fun c_9 => ?_) (fun c_9 => ?_)
      · have h := ox_f c_9 h
        refine lv_iconst (v := (0 : Int32)) hx hb dX10_crackedBy_105 (by decide) ?_
        exact t_X10_crackedBy_b34_k106 E q_t Q_t N (va_up (va_up F_t 32 v_5.1) 33 v_5.2) x1 x2 x3 x5 (0 : Int32) _ h hc he H locs ls hP hD hS (lv_sub hl [0, 1, 2, 3, 5] rfl)
      · have h := ox_t c_9 h
        refine lv_iconst (v := (1 : Int32)) hx hb dX10_crackedBy_101 (by decide) ?_
        refine lv_goto (tgt := 106) hx hb dX10_crackedBy_102 (by decide) ?_
        exact t_X10_crackedBy_b34_k106 E q_t Q_t N (va_up (va_up F_t 32 v_5.1) 33 v_5.2) x1 x2 x3 x5 (1 : Int32) _ h hc he H locs ls hP hD hS (lv_sub hl [0, 1, 2, 3, 5] rfl)
def x_X10_crackedBy_b4_k29 (N : Nat) (F_t : St) (x1 : Int32) (x2 : Int32) (x3 : Int32) (s0 : Int32) : Option ((Int32 × Int32 × (Nat → Int32) × (Nat → Int32)) ⊕ (Int32 × (Nat → Int32) × (Nat → Int32))) :=
  Option.bind (lpc (fun (z : Int32 × Int32 × (Nat → Int32) × (Nat → Int32)) => x_X10_crackedBy_b34 N (va_up (va_up F_t 32 z.2.2.1) 33 z.2.2.2) x1 x2 x3 z.1 z.2.1) N (s0, (0 : Int32), (F_t 32), (F_t 33))) (fun v_10 => if v_10.1 = 0 then (x_X10_crackedBy_b4_k127 N (va_up (va_up F_t 32 v_10.2.1) 33 v_10.2.2) x1 x3 x2 (0 : Int32)) else (x_X10_crackedBy_b4_k127 N (va_up (va_up F_t 32 v_10.2.1) 33 v_10.2.2) x1 x3 x2 ((1 : Int32) <<< (x3 &&& 31))))
set_option maxHeartbeats 4000000 in
set_option maxRecDepth 100000 in
theorem t_X10_crackedBy_b4_k29 {p : Program} {l : Launch} {e : Env} {s : State} {m : MethodId} {args : Array Value} {below : List Frame} {meth : Method} {c : Code} {g : gG} {A : Nat → Prop} {Q : State → Prop} (E : En p s m args meth c g A cX10_crackedBy 6 (.code yX10_crackedBy cX10_crackedBy 6 (some .int) :: gW) RX10 (some .int)) (q_t : Nat) (Q_t : Ad) (N : Nat) (F_t : St) (x1 : Int32) (x2 : Int32) (x3 : Int32) (s0 : Int32) (o : (Int32 × Int32 × (Nat → Int32) × (Nat → Int32)) ⊕ (Int32 × (Nat → Int32) × (Nat → Int32))) (h : x_X10_crackedBy_b4_k29 N F_t x1 x2 x3 s0 = some o) (hc : ∀ z, o = .inl z → WA p l e (rM 2 53) s m args below meth c g A Q 6 4 [oX10 q_t Q_t (F_t 0 0) (F_t 2 0) (F_t 3 0) (F_t 4 0) (F_t 5 0) (F_t 6 0) (F_t 7 0) (F_t 8 0) (F_t 9 0) (F_t 10 0) (F_t 11 0) (F_t 12 0) (F_t 15 0) (F_t 16 0) (F_t 17 0) (F_t 23 0) (F_t 27 0) (F_t 28 0) (F_t 30 0), ia g (Q_t 18) 16 (F_t 18), ia g (Q_t 19) 30 (F_t 19), ia g (Q_t 20) 174 (F_t 20), ia g (Q_t 29) 18 (F_t 29), ia g (Q_t 32) 8 z.2.2.1, ia g (Q_t 33) 8 z.2.2.2] [(0, .ref q_t), (1, .int x1), (2, .int z.1), (3, .int z.2.1)] []) (he : ∀ v, o = .inr v → WA p l e (rM 2 53) s m args below meth c g A Q 6 135 [oX10 q_t Q_t (F_t 0 0) (F_t 2 0) (F_t 3 0) (F_t 4 0) (F_t 5 0) (F_t 6 0) (F_t 7 0) (F_t 8 0) (F_t 9 0) (F_t 10 0) (F_t 11 0) (F_t 12 0) (F_t 15 0) (F_t 16 0) (F_t 17 0) (F_t 23 0) (F_t 27 0) (F_t 28 0) (F_t 30 0), ia g (Q_t 18) 16 (F_t 18), ia g (Q_t 19) 30 (F_t 19), ia g (Q_t 20) 174 (F_t 20), ia g (Q_t 29) 18 (F_t 29), ia g (Q_t 32) 8 v.2.1, ia g (Q_t 33) 8 v.2.2] [(2, .int v.1)] []) : WA p l e (rM 2 53) s m args below meth c g A Q 6 29 [oX10 q_t Q_t (F_t 0 0) (F_t 2 0) (F_t 3 0) (F_t 4 0) (F_t 5 0) (F_t 6 0) (F_t 7 0) (F_t 8 0) (F_t 9 0) (F_t 10 0) (F_t 11 0) (F_t 12 0) (F_t 15 0) (F_t 16 0) (F_t 17 0) (F_t 23 0) (F_t 27 0) (F_t 28 0) (F_t 30 0), ia g (Q_t 18) 16 (F_t 18), ia g (Q_t 19) 30 (F_t 19), ia g (Q_t 20) 174 (F_t 20), ia g (Q_t 29) 18 (F_t 29), ia g (Q_t 32) 8 (F_t 32), ia g (Q_t 33) 8 (F_t 33)] [(0, .ref q_t), (1, .int x1), (2, .int x2), (3, .int x3)] [.int s0] := by
  obtain ⟨⟨hx, hb, hml, hown, hts⟩, hr, hK, hA, hlk⟩ := id E
  intro H locs ls hP hD hS hl
  refine lv_istore (lv' := [(4, .int s0), (0, .ref q_t), (1, .int x1), (2, .int x2), (3, .int x3)]) hx hb dX10_crackedBy_29 hl (by decide) rfl (fun ls hl => ?_)
  refine lv_iconst (v := (0 : Int32)) hx hb dX10_crackedBy_31 (by decide) ?_
  refine lv_istore (lv' := [(5, .int (0 : Int32)), (4, .int s0), (0, .ref q_t), (1, .int x1), (2, .int x2), (3, .int x3)]) hx hb dX10_crackedBy_32 hl (by decide) rfl (fun ls hl => ?_)
  obtain ⟨v_10, hv_10, h⟩ := ox_bind h
  refine lpc_W (Wh := fun (z : Int32 × Int32 × (Nat → Int32) × (Nat → Int32)) => WA p l e (rM 2 53) s m args below meth c g A Q 6 34 [oX10 q_t Q_t (F_t 0 0) (F_t 2 0) (F_t 3 0) (F_t 4 0) (F_t 5 0) (F_t 6 0) (F_t 7 0) (F_t 8 0) (F_t 9 0) (F_t 10 0) (F_t 11 0) (F_t 12 0) (F_t 15 0) (F_t 16 0) (F_t 17 0) (F_t 23 0) (F_t 27 0) (F_t 28 0) (F_t 30 0), ia g (Q_t 18) 16 (F_t 18), ia g (Q_t 19) 30 (F_t 19), ia g (Q_t 20) 174 (F_t 20), ia g (Q_t 29) 18 (F_t 29), ia g (Q_t 32) 8 z.2.2.1, ia g (Q_t 33) 8 z.2.2.2] [(0, .ref q_t), (1, .int x1), (2, .int x2), (3, .int x3), (4, .int z.1), (5, .int z.2.1)] []) (We := fun (v : Int32 × (Nat → Int32) × (Nat → Int32)) => WA p l e (rM 2 53) s m args below meth c g A Q 6 114 [oX10 q_t Q_t (F_t 0 0) (F_t 2 0) (F_t 3 0) (F_t 4 0) (F_t 5 0) (F_t 6 0) (F_t 7 0) (F_t 8 0) (F_t 9 0) (F_t 10 0) (F_t 11 0) (F_t 12 0) (F_t 15 0) (F_t 16 0) (F_t 17 0) (F_t 23 0) (F_t 27 0) (F_t 28 0) (F_t 30 0), ia g (Q_t 18) 16 (F_t 18), ia g (Q_t 19) 30 (F_t 19), ia g (Q_t 20) 174 (F_t 20), ia g (Q_t 29) 18 (F_t 29), ia g (Q_t 32) 8 v.2.1, ia g (Q_t 33) 8 v.2.2] [(0, .ref q_t), (1, .int x1), (2, .int x2), (3, .int x3), (4, .int v.1)] []) (fun z r hb hc he => t_X10_crackedBy_b34 E q_t Q_t N (va_up (va_up F_t 32 z.2.2.1) 33 z.2.2.2) x1 x2 x3 z.1 z.2.1 r hb hc he) N (s0, (0 : Int32), (F_t 32), (F_t 33)) v_10 hv_10 ?_ H locs ls hP hD hS (lv_sub hl [2, 3, 4, 5, 1, 0] rfl)
  intro H locs ls hP hD hS hl
  refine lv_iload_n hx hb dX10_crackedBy_114 rfl (lv_at hl 2 rfl) ?_
  refine lv_iload hx hb dX10_crackedBy_115 (lv_at hl 4 rfl) ?_
  refine lv_if_eq (tgt := 126) hx hb dX10_crackedBy_117 (by decide) (fun c_11 => ?_) (fun c_11 => ?_)
  · have h := ox_t c_11 h
    refine lv_iconst (v := (0 : Int32)) hx hb dX10_crackedBy_126 (by decide) ?_
    exact t_X10_crackedBy_b4_k127 E q_t Q_t N (va_up (va_up F_t 32 v_10.2.1) 33 v_10.2.2) x1 x3 x2 (0 : Int32) _ h hc he H locs ls hP hD hS (lv_sub hl [0, 1, 3] rfl)
  · have h := ox_f c_11 h
    refine lv_iconst (v := (1 : Int32)) hx hb dX10_crackedBy_120 (by decide) ?_
    refine lv_iload_n hx hb dX10_crackedBy_121 rfl (lv_at hl 3 rfl) ?_
    refine lv_ishl hx hb dX10_crackedBy_122 ?_
    refine lv_goto (tgt := 127) hx hb dX10_crackedBy_123 (by decide) ?_
    exact t_X10_crackedBy_b4_k127 E q_t Q_t N (va_up (va_up F_t 32 v_10.2.1) 33 v_10.2.2) x1 x3 x2 ((1 : Int32) <<< (x3 &&& 31)) _ h hc he H locs ls hP hD hS (lv_sub hl [0, 1, 3] rfl)
def x_X10_crackedBy_b4_k24 (N : Nat) (F_t : St) (x1 : Int32) (x2 : Int32) (x3 : Int32) : Option ((Int32 × Int32 × (Nat → Int32) × (Nat → Int32)) ⊕ (Int32 × (Nat → Int32) × (Nat → Int32))) :=
  x_X10_crackedBy_b4_k29 N F_t x1 x2 x3 (1 : Int32)
set_option maxHeartbeats 4000000 in
set_option maxRecDepth 100000 in
theorem t_X10_crackedBy_b4_k24 {p : Program} {l : Launch} {e : Env} {s : State} {m : MethodId} {args : Array Value} {below : List Frame} {meth : Method} {c : Code} {g : gG} {A : Nat → Prop} {Q : State → Prop} (E : En p s m args meth c g A cX10_crackedBy 6 (.code yX10_crackedBy cX10_crackedBy 6 (some .int) :: gW) RX10 (some .int)) (q_t : Nat) (Q_t : Ad) (N : Nat) (F_t : St) (x1 : Int32) (x2 : Int32) (x3 : Int32) (o : (Int32 × Int32 × (Nat → Int32) × (Nat → Int32)) ⊕ (Int32 × (Nat → Int32) × (Nat → Int32))) (h : x_X10_crackedBy_b4_k24 N F_t x1 x2 x3 = some o) (hc : ∀ z, o = .inl z → WA p l e (rM 2 53) s m args below meth c g A Q 6 4 [oX10 q_t Q_t (F_t 0 0) (F_t 2 0) (F_t 3 0) (F_t 4 0) (F_t 5 0) (F_t 6 0) (F_t 7 0) (F_t 8 0) (F_t 9 0) (F_t 10 0) (F_t 11 0) (F_t 12 0) (F_t 15 0) (F_t 16 0) (F_t 17 0) (F_t 23 0) (F_t 27 0) (F_t 28 0) (F_t 30 0), ia g (Q_t 18) 16 (F_t 18), ia g (Q_t 19) 30 (F_t 19), ia g (Q_t 20) 174 (F_t 20), ia g (Q_t 29) 18 (F_t 29), ia g (Q_t 32) 8 z.2.2.1, ia g (Q_t 33) 8 z.2.2.2] [(0, .ref q_t), (1, .int x1), (2, .int z.1), (3, .int z.2.1)] []) (he : ∀ v, o = .inr v → WA p l e (rM 2 53) s m args below meth c g A Q 6 135 [oX10 q_t Q_t (F_t 0 0) (F_t 2 0) (F_t 3 0) (F_t 4 0) (F_t 5 0) (F_t 6 0) (F_t 7 0) (F_t 8 0) (F_t 9 0) (F_t 10 0) (F_t 11 0) (F_t 12 0) (F_t 15 0) (F_t 16 0) (F_t 17 0) (F_t 23 0) (F_t 27 0) (F_t 28 0) (F_t 30 0), ia g (Q_t 18) 16 (F_t 18), ia g (Q_t 19) 30 (F_t 19), ia g (Q_t 20) 174 (F_t 20), ia g (Q_t 29) 18 (F_t 29), ia g (Q_t 32) 8 v.2.1, ia g (Q_t 33) 8 v.2.2] [(2, .int v.1)] []) : WA p l e (rM 2 53) s m args below meth c g A Q 6 24 [oX10 q_t Q_t (F_t 0 0) (F_t 2 0) (F_t 3 0) (F_t 4 0) (F_t 5 0) (F_t 6 0) (F_t 7 0) (F_t 8 0) (F_t 9 0) (F_t 10 0) (F_t 11 0) (F_t 12 0) (F_t 15 0) (F_t 16 0) (F_t 17 0) (F_t 23 0) (F_t 27 0) (F_t 28 0) (F_t 30 0), ia g (Q_t 18) 16 (F_t 18), ia g (Q_t 19) 30 (F_t 19), ia g (Q_t 20) 174 (F_t 20), ia g (Q_t 29) 18 (F_t 29), ia g (Q_t 32) 8 (F_t 32), ia g (Q_t 33) 8 (F_t 33)] [(0, .ref q_t), (1, .int x1), (2, .int x2), (3, .int x3)] [] := by
  obtain ⟨⟨hx, hb, hml, hown, hts⟩, hr, hK, hA, hlk⟩ := id E
  intro H locs ls hP hD hS hl
  refine lv_iconst (v := (1 : Int32)) hx hb dX10_crackedBy_24 (by decide) ?_
  refine lv_goto (tgt := 29) hx hb dX10_crackedBy_25 (by decide) ?_
  exact t_X10_crackedBy_b4_k29 E q_t Q_t N F_t x1 x2 x3 (1 : Int32) _ h hc he H locs ls hP hD hS hl
def x_X10_crackedBy_b4 (N : Nat) (F_t : St) (x1 : Int32) (x2 : Int32) (x3 : Int32) : Option ((Int32 × Int32 × (Nat → Int32) × (Nat → Int32)) ⊕ (Int32 × (Nat → Int32) × (Nat → Int32))) :=
  if (11 : Int32) ≤ x3 then (some (.inr (x2, (F_t 32), (F_t 33)))) else (if x3 = (10 : Int32) then (x_X10_crackedBy_b4_k24 N F_t x1 x2 x3) else (if (F_t 17 0) ≤ x3 then (x_X10_crackedBy_b4_k29 N F_t x1 x2 x3 (0 : Int32)) else (x_X10_crackedBy_b4_k24 N F_t x1 x2 x3)))
set_option maxHeartbeats 4000000 in
set_option maxRecDepth 100000 in
theorem t_X10_crackedBy_b4 {p : Program} {l : Launch} {e : Env} {s : State} {m : MethodId} {args : Array Value} {below : List Frame} {meth : Method} {c : Code} {g : gG} {A : Nat → Prop} {Q : State → Prop} (E : En p s m args meth c g A cX10_crackedBy 6 (.code yX10_crackedBy cX10_crackedBy 6 (some .int) :: gW) RX10 (some .int)) (q_t : Nat) (Q_t : Ad) (N : Nat) (F_t : St) (x1 : Int32) (x2 : Int32) (x3 : Int32) (o : (Int32 × Int32 × (Nat → Int32) × (Nat → Int32)) ⊕ (Int32 × (Nat → Int32) × (Nat → Int32))) (h : x_X10_crackedBy_b4 N F_t x1 x2 x3 = some o) (hc : ∀ z, o = .inl z → WA p l e (rM 2 53) s m args below meth c g A Q 6 4 [oX10 q_t Q_t (F_t 0 0) (F_t 2 0) (F_t 3 0) (F_t 4 0) (F_t 5 0) (F_t 6 0) (F_t 7 0) (F_t 8 0) (F_t 9 0) (F_t 10 0) (F_t 11 0) (F_t 12 0) (F_t 15 0) (F_t 16 0) (F_t 17 0) (F_t 23 0) (F_t 27 0) (F_t 28 0) (F_t 30 0), ia g (Q_t 18) 16 (F_t 18), ia g (Q_t 19) 30 (F_t 19), ia g (Q_t 20) 174 (F_t 20), ia g (Q_t 29) 18 (F_t 29), ia g (Q_t 32) 8 z.2.2.1, ia g (Q_t 33) 8 z.2.2.2] [(0, .ref q_t), (1, .int x1), (2, .int z.1), (3, .int z.2.1)] []) (he : ∀ v, o = .inr v → WA p l e (rM 2 53) s m args below meth c g A Q 6 135 [oX10 q_t Q_t (F_t 0 0) (F_t 2 0) (F_t 3 0) (F_t 4 0) (F_t 5 0) (F_t 6 0) (F_t 7 0) (F_t 8 0) (F_t 9 0) (F_t 10 0) (F_t 11 0) (F_t 12 0) (F_t 15 0) (F_t 16 0) (F_t 17 0) (F_t 23 0) (F_t 27 0) (F_t 28 0) (F_t 30 0), ia g (Q_t 18) 16 (F_t 18), ia g (Q_t 19) 30 (F_t 19), ia g (Q_t 20) 174 (F_t 20), ia g (Q_t 29) 18 (F_t 29), ia g (Q_t 32) 8 v.2.1, ia g (Q_t 33) 8 v.2.2] [(2, .int v.1)] []) : WA p l e (rM 2 53) s m args below meth c g A Q 6 4 [oX10 q_t Q_t (F_t 0 0) (F_t 2 0) (F_t 3 0) (F_t 4 0) (F_t 5 0) (F_t 6 0) (F_t 7 0) (F_t 8 0) (F_t 9 0) (F_t 10 0) (F_t 11 0) (F_t 12 0) (F_t 15 0) (F_t 16 0) (F_t 17 0) (F_t 23 0) (F_t 27 0) (F_t 28 0) (F_t 30 0), ia g (Q_t 18) 16 (F_t 18), ia g (Q_t 19) 30 (F_t 19), ia g (Q_t 20) 174 (F_t 20), ia g (Q_t 29) 18 (F_t 29), ia g (Q_t 32) 8 (F_t 32), ia g (Q_t 33) 8 (F_t 33)] [(0, .ref q_t), (1, .int x1), (2, .int x2), (3, .int x3)] [] := by
  obtain ⟨⟨hx, hb, hml, hown, hts⟩, hr, hK, hA, hlk⟩ := id E
  intro H locs ls hP hD hS hl
  refine lv_iload_n hx hb dX10_crackedBy_4 rfl (lv_at hl 3 rfl) ?_
  refine lv_bipush (v := (11 : Int32)) hx hb dX10_crackedBy_5 (by decide) ?_
  refine lv_icmp_ge (tgt := 135) hx hb dX10_crackedBy_7 (by decide) (fun c_12 => ?_) (fun c_12 => ?_)
  · have h := ox_t c_12 h
    obtain rfl := Option.some.inj h
    exact he _ rfl H locs ls hP hD hS (lv_sub hl [2] rfl)
  · have h := ox_f c_12 h
    refine lv_iload_n hx hb dX10_crackedBy_10 rfl (lv_at hl 3 rfl) ?_
    refine lv_bipush (v := (10 : Int32)) hx hb dX10_crackedBy_11 (by decide) ?_
    refine lv_icmp_eq (tgt := 24) hx hb dX10_crackedBy_13 (by decide) (fun c_13 => ?_) (fun c_13 => ?_)
    · have h := ox_t c_13 h
      exact t_X10_crackedBy_b4_k24 E q_t Q_t N F_t x1 x2 x3 _ h hc he H locs ls hP hD hS hl
    · have h := ox_f c_13 h
      refine lv_iload_n hx hb dX10_crackedBy_16 rfl (lv_at hl 3 rfl) ?_
      refine lv_aload_n hx hb dX10_crackedBy_17 rfl (lv_at hl 0 rfl) ?_
      refine va_get (ci := 10) (v := .int (F_t 17 0)) (C := RX10) (T := TX10) (N := 38) hx hb hts (fun w h => .tail _ (u_inX10 w h)) hown hK.1 hP 0 rfl rfl 17 (by decide) (hts _ (.tail _ u_fl_X10_87)) (fun _ h9 => h9) rfl dX10_crackedBy_18 ?_
      refine lv_icmp_ge (tgt := 28) hx hb dX10_crackedBy_21 (by decide) (fun c_14 => ?_) (fun c_14 => ?_)
      · have h := ox_t c_14 h
        refine lv_iconst (v := (0 : Int32)) hx hb dX10_crackedBy_28 (by decide) ?_
        exact t_X10_crackedBy_b4_k29 E q_t Q_t N F_t x1 x2 x3 (0 : Int32) _ h hc he H locs ls hP hD hS hl
      · have h := ox_f c_14 h
        exact t_X10_crackedBy_b4_k24 E q_t Q_t N F_t x1 x2 x3 _ h hc he H locs ls hP hD hS hl
def x_X10_crackedBy (N : Nat) (F_t : St) (x1 : Int32) : Option (Int32 × (Nat → Int32) × (Nat → Int32)) :=
  Option.bind (lpc (fun (z : Int32 × Int32 × (Nat → Int32) × (Nat → Int32)) => x_X10_crackedBy_b4 N (va_up (va_up F_t 32 z.2.2.1) 33 z.2.2.2) x1 z.1 z.2.1) N ((0 : Int32), (0 : Int32), (F_t 32), (F_t 33))) (fun v_15 => some (v_15.1, v_15.2.1, v_15.2.2))
set_option maxHeartbeats 4000000 in
set_option maxRecDepth 100000 in
theorem t_X10_crackedBy {p : Program} {l : Launch} {e : Env} {s : State} {m : MethodId} {args : Array Value} {below : List Frame} {meth : Method} {c : Code} {g : gG} {A : Nat → Prop} (E : En p s m args meth c g A cX10_crackedBy 6 (.code yX10_crackedBy cX10_crackedBy 6 (some .int) :: gW) RX10 (some .int)) (q_t : Nat) (Q_t : Ad) (N : Nat) (F_t : St) (x1 : Int32) (o : Int32 × (Nat → Int32) × (Nat → Int32)) (h : x_X10_crackedBy N F_t x1 = some o) : WA p l e (rM 2 53) s m args below meth c g A (MQ below (QI g A o.1 [oX10 q_t Q_t (F_t 0 0) (F_t 2 0) (F_t 3 0) (F_t 4 0) (F_t 5 0) (F_t 6 0) (F_t 7 0) (F_t 8 0) (F_t 9 0) (F_t 10 0) (F_t 11 0) (F_t 12 0) (F_t 15 0) (F_t 16 0) (F_t 17 0) (F_t 23 0) (F_t 27 0) (F_t 28 0) (F_t 30 0), ia g (Q_t 18) 16 (F_t 18), ia g (Q_t 19) 30 (F_t 19), ia g (Q_t 20) 174 (F_t 20), ia g (Q_t 29) 18 (F_t 29), ia g (Q_t 32) 8 o.2.1, ia g (Q_t 33) 8 o.2.2]) args s 0 0 A) 6 0 [oX10 q_t Q_t (F_t 0 0) (F_t 2 0) (F_t 3 0) (F_t 4 0) (F_t 5 0) (F_t 6 0) (F_t 7 0) (F_t 8 0) (F_t 9 0) (F_t 10 0) (F_t 11 0) (F_t 12 0) (F_t 15 0) (F_t 16 0) (F_t 17 0) (F_t 23 0) (F_t 27 0) (F_t 28 0) (F_t 30 0), ia g (Q_t 18) 16 (F_t 18), ia g (Q_t 19) 30 (F_t 19), ia g (Q_t 20) 174 (F_t 20), ia g (Q_t 29) 18 (F_t 29), ia g (Q_t 32) 8 (F_t 32), ia g (Q_t 33) 8 (F_t 33)] [(0, .ref q_t), (1, .int x1)] [] := by
  obtain ⟨⟨hx, hb, hml, hown, hts⟩, hr, hK, hA, hlk⟩ := id E
  intro H locs ls hP hD hS hl
  refine lv_iconst (v := (0 : Int32)) hx hb dX10_crackedBy_0 (by decide) ?_
  refine lv_istore_n (lv' := [(2, .int (0 : Int32)), (0, .ref q_t), (1, .int x1)]) hx hb dX10_crackedBy_1 rfl hl (by decide) rfl (fun ls hl => ?_)
  refine lv_iconst (v := (0 : Int32)) hx hb dX10_crackedBy_2 (by decide) ?_
  refine lv_istore_n (lv' := [(3, .int (0 : Int32)), (2, .int (0 : Int32)), (0, .ref q_t), (1, .int x1)]) hx hb dX10_crackedBy_3 rfl hl (by decide) rfl (fun ls hl => ?_)
  obtain ⟨v_15, hv_15, h⟩ := ox_bind h
  refine lpc_W (Wh := fun (z : Int32 × Int32 × (Nat → Int32) × (Nat → Int32)) => WA p l e (rM 2 53) s m args below meth c g A (MQ below (QI g A o.1 [oX10 q_t Q_t (F_t 0 0) (F_t 2 0) (F_t 3 0) (F_t 4 0) (F_t 5 0) (F_t 6 0) (F_t 7 0) (F_t 8 0) (F_t 9 0) (F_t 10 0) (F_t 11 0) (F_t 12 0) (F_t 15 0) (F_t 16 0) (F_t 17 0) (F_t 23 0) (F_t 27 0) (F_t 28 0) (F_t 30 0), ia g (Q_t 18) 16 (F_t 18), ia g (Q_t 19) 30 (F_t 19), ia g (Q_t 20) 174 (F_t 20), ia g (Q_t 29) 18 (F_t 29), ia g (Q_t 32) 8 o.2.1, ia g (Q_t 33) 8 o.2.2]) args s 0 0 A) 6 4 [oX10 q_t Q_t (F_t 0 0) (F_t 2 0) (F_t 3 0) (F_t 4 0) (F_t 5 0) (F_t 6 0) (F_t 7 0) (F_t 8 0) (F_t 9 0) (F_t 10 0) (F_t 11 0) (F_t 12 0) (F_t 15 0) (F_t 16 0) (F_t 17 0) (F_t 23 0) (F_t 27 0) (F_t 28 0) (F_t 30 0), ia g (Q_t 18) 16 (F_t 18), ia g (Q_t 19) 30 (F_t 19), ia g (Q_t 20) 174 (F_t 20), ia g (Q_t 29) 18 (F_t 29), ia g (Q_t 32) 8 z.2.2.1, ia g (Q_t 33) 8 z.2.2.2] [(0, .ref q_t), (1, .int x1), (2, .int z.1), (3, .int z.2.1)] []) (We := fun (v : Int32 × (Nat → Int32) × (Nat → Int32)) => WA p l e (rM 2 53) s m args below meth c g A (MQ below (QI g A o.1 [oX10 q_t Q_t (F_t 0 0) (F_t 2 0) (F_t 3 0) (F_t 4 0) (F_t 5 0) (F_t 6 0) (F_t 7 0) (F_t 8 0) (F_t 9 0) (F_t 10 0) (F_t 11 0) (F_t 12 0) (F_t 15 0) (F_t 16 0) (F_t 17 0) (F_t 23 0) (F_t 27 0) (F_t 28 0) (F_t 30 0), ia g (Q_t 18) 16 (F_t 18), ia g (Q_t 19) 30 (F_t 19), ia g (Q_t 20) 174 (F_t 20), ia g (Q_t 29) 18 (F_t 29), ia g (Q_t 32) 8 o.2.1, ia g (Q_t 33) 8 o.2.2]) args s 0 0 A) 6 135 [oX10 q_t Q_t (F_t 0 0) (F_t 2 0) (F_t 3 0) (F_t 4 0) (F_t 5 0) (F_t 6 0) (F_t 7 0) (F_t 8 0) (F_t 9 0) (F_t 10 0) (F_t 11 0) (F_t 12 0) (F_t 15 0) (F_t 16 0) (F_t 17 0) (F_t 23 0) (F_t 27 0) (F_t 28 0) (F_t 30 0), ia g (Q_t 18) 16 (F_t 18), ia g (Q_t 19) 30 (F_t 19), ia g (Q_t 20) 174 (F_t 20), ia g (Q_t 29) 18 (F_t 29), ia g (Q_t 32) 8 v.2.1, ia g (Q_t 33) 8 v.2.2] [(2, .int v.1)] []) (fun z r hb hc he => t_X10_crackedBy_b4 E q_t Q_t N (va_up (va_up F_t 32 z.2.2.1) 33 z.2.2.2) x1 z.1 z.2.1 r hb hc he) N ((0 : Int32), (0 : Int32), (F_t 32), (F_t 33)) v_15 hv_15 ?_ H locs ls hP hD hS (lv_sub hl [2, 3, 1, 0] rfl)
  intro H locs ls hP hD hS hl
  refine lv_iload_n hx hb dX10_crackedBy_135 rfl (lv_at hl 0 rfl) ?_
  obtain rfl := Option.some.inj h
  exact k_iret hx hb hr hlk hP hD hS dX10_crackedBy_136
set_option maxRecDepth 100000 in
theorem c_X10_crackedBy (l : Launch) (g : gG) (q_t : Nat) (Q_t : Ad) (N : Nat) (F_t : St) (x1 : Int32) (o : Int32 × (Nat → Int32) × (Nat → Int32)) (h : x_X10_crackedBy N F_t x1 = some o) (sz : Nat) : MetI l yX10_crackedBy (.code yX10_crackedBy cX10_crackedBy 6 (some .int) :: gW) 2 53 [.ref q_t, .int x1] o.1 g [oX10 q_t Q_t (F_t 0 0) (F_t 2 0) (F_t 3 0) (F_t 4 0) (F_t 5 0) (F_t 6 0) (F_t 7 0) (F_t 8 0) (F_t 9 0) (F_t 10 0) (F_t 11 0) (F_t 12 0) (F_t 15 0) (F_t 16 0) (F_t 17 0) (F_t 23 0) (F_t 27 0) (F_t 28 0) (F_t 30 0), ia g (Q_t 18) 16 (F_t 18), ia g (Q_t 19) 30 (F_t 19), ia g (Q_t 20) 174 (F_t 20), ia g (Q_t 29) 18 (F_t 29), ia g (Q_t 32) 8 (F_t 32), ia g (Q_t 33) 8 (F_t 33)] [oX10 q_t Q_t (F_t 0 0) (F_t 2 0) (F_t 3 0) (F_t 4 0) (F_t 5 0) (F_t 6 0) (F_t 7 0) (F_t 8 0) (F_t 9 0) (F_t 10 0) (F_t 11 0) (F_t 12 0) (F_t 15 0) (F_t 16 0) (F_t 17 0) (F_t 23 0) (F_t 27 0) (F_t 28 0) (F_t 30 0), ia g (Q_t 18) 16 (F_t 18), ia g (Q_t 19) 30 (F_t 19), ia g (Q_t 20) 174 (F_t 20), ia g (Q_t 29) 18 (F_t 29), ia g (Q_t 32) 8 o.2.1, ia g (Q_t 33) 8 o.2.2] sz :=
  mkI (av := [.ref q_t, .int x1]) (by decide +kernel) rfl (fun p e s m below meth c A E H locs ls hP hD hS hl => t_X10_crackedBy E q_t Q_t N F_t x1 o h H locs ls hP hD hS hl) sz
def x_X10_cracked (N : Nat) (F_t : St) (x1 : Int32) : Option (Int32 × (Nat → Int32) × (Nat → Int32)) :=
  Option.bind (x_X10_isPlace F_t x1) (fun v_1 => if v_1 = 0 then (some ((-1000000001 : Int32), (F_t 32), (F_t 33))) else (Option.bind (x_X10_crackedBy N F_t x1) (fun v_3 => some (v_3.1, v_3.2.1, v_3.2.2))))
set_option maxHeartbeats 4000000 in
set_option maxRecDepth 100000 in
theorem t_X10_cracked {p : Program} {l : Launch} {e : Env} {s : State} {m : MethodId} {args : Array Value} {below : List Frame} {meth : Method} {c : Code} {g : gG} {A : Nat → Prop} (E : En p s m args meth c g A cX10_cracked 2 (.code yX10_cracked cX10_cracked 2 (some .int) :: gW) RX10 (some .int)) (q_t : Nat) (Q_t : Ad) (N : Nat) (F_t : St) (x1 : Int32) (o : Int32 × (Nat → Int32) × (Nat → Int32)) (h : x_X10_cracked N F_t x1 = some o) : WA p l e (rM 3 78) s m args below meth c g A (MQ below (QI g A o.1 [oX10 q_t Q_t (F_t 0 0) (F_t 2 0) (F_t 3 0) (F_t 4 0) (F_t 5 0) (F_t 6 0) (F_t 7 0) (F_t 8 0) (F_t 9 0) (F_t 10 0) (F_t 11 0) (F_t 12 0) (F_t 15 0) (F_t 16 0) (F_t 17 0) (F_t 23 0) (F_t 27 0) (F_t 28 0) (F_t 30 0), ia g (Q_t 18) 16 (F_t 18), ia g (Q_t 19) 30 (F_t 19), ia g (Q_t 20) 174 (F_t 20), ia g (Q_t 29) 18 (F_t 29), ia g (Q_t 32) 8 o.2.1, ia g (Q_t 33) 8 o.2.2]) args s 0 0 A) 2 0 [oX10 q_t Q_t (F_t 0 0) (F_t 2 0) (F_t 3 0) (F_t 4 0) (F_t 5 0) (F_t 6 0) (F_t 7 0) (F_t 8 0) (F_t 9 0) (F_t 10 0) (F_t 11 0) (F_t 12 0) (F_t 15 0) (F_t 16 0) (F_t 17 0) (F_t 23 0) (F_t 27 0) (F_t 28 0) (F_t 30 0), ia g (Q_t 18) 16 (F_t 18), ia g (Q_t 19) 30 (F_t 19), ia g (Q_t 20) 174 (F_t 20), ia g (Q_t 29) 18 (F_t 29), ia g (Q_t 32) 8 (F_t 32), ia g (Q_t 33) 8 (F_t 33)] [(0, .ref q_t), (1, .int x1)] [] := by
  obtain ⟨⟨hx, hb, hml, hown, hts⟩, hr, hK, hA, hlk⟩ := id E
  intro H locs ls hP hD hS hl
  refine lv_aload_n hx hb dX10_cracked_0 rfl (lv_at hl 0 rfl) ?_
  refine lv_iload_n hx hb dX10_cracked_1 rfl (lv_at hl 1 rfl) ?_
  obtain ⟨v_1, hv_1, h⟩ := ox_bind h
  refine kVi ⟨hx, hb, hml, hown, hts⟩ (c_X10_isPlace l g q_t Q_t F_t x1 v_1 hv_1 H.size) (gV u_ml_X10_180 u_im_X10_isPlace u_se_X10_isPlace u_ini_X10 u_co_X10_isPlace) hd_X10_isPlace ⟨rfl, rfl⟩ hK hP hD hS hA 0 10 rfl rfl [0] [0, 2, 3, 4, 5, 6, 7] rfl rfl 1 rfl (w2 := [oX10 q_t Q_t (F_t 0 0) (F_t 2 0) (F_t 3 0) (F_t 4 0) (F_t 5 0) (F_t 6 0) (F_t 7 0) (F_t 8 0) (F_t 9 0) (F_t 10 0) (F_t 11 0) (F_t 12 0) (F_t 15 0) (F_t 16 0) (F_t 17 0) (F_t 23 0) (F_t 27 0) (F_t 28 0) (F_t 30 0), ia g (Q_t 18) 16 (F_t 18), ia g (Q_t 19) 30 (F_t 19), ia g (Q_t 20) 174 (F_t 20), ia g (Q_t 29) 18 (F_t 29), ia g (Q_t 32) 8 (F_t 32), ia g (Q_t 33) 8 (F_t 33)]) rfl rfl (As := [.int x1]) (rest := []) rfl hl.1 rfl rfl dX10_cracked_2 (fun H locs hP hD hS => ?_)
  refine lv_if_eq (tgt := 16) hx hb dX10_cracked_5 (by decide) (fun c_2 => ?_) (fun c_2 => ?_)
  · have h := ox_t c_2 h
    refine lv_ldc (v := (-1000000001 : Int32)) hx hb hown (hts _ (.tail _ u_k_X10_183)) dX10_cracked_16 ?_
    obtain rfl := Option.some.inj h
    exact k_iret hx hb hr hlk hP hD hS dX10_cracked_18
  · have h := ox_f c_2 h
    refine lv_aload_n hx hb dX10_cracked_8 rfl (lv_at hl 0 rfl) ?_
    refine lv_iload_n hx hb dX10_cracked_9 rfl (lv_at hl 1 rfl) ?_
    obtain ⟨v_3, hv_3, h⟩ := ox_bind h
    refine kVi ⟨hx, hb, hml, hown, hts⟩ (c_X10_crackedBy l g q_t Q_t N F_t x1 v_3 hv_3 H.size) (gV u_ml_X10_249 u_im_X10_crackedBy u_se_X10_crackedBy u_ini_X10 u_co_X10_crackedBy) hd_X10_crackedBy ⟨rfl, rfl⟩ hK hP hD hS hA 0 10 rfl rfl [0, 1, 2, 3, 4, 5, 6] [0, 1, 2, 3, 4, 5, 6] rfl rfl 7 rfl (w2 := [oX10 q_t Q_t (F_t 0 0) (F_t 2 0) (F_t 3 0) (F_t 4 0) (F_t 5 0) (F_t 6 0) (F_t 7 0) (F_t 8 0) (F_t 9 0) (F_t 10 0) (F_t 11 0) (F_t 12 0) (F_t 15 0) (F_t 16 0) (F_t 17 0) (F_t 23 0) (F_t 27 0) (F_t 28 0) (F_t 30 0), ia g (Q_t 18) 16 (F_t 18), ia g (Q_t 19) 30 (F_t 19), ia g (Q_t 20) 174 (F_t 20), ia g (Q_t 29) 18 (F_t 29), ia g (Q_t 32) 8 v_3.2.1, ia g (Q_t 33) 8 v_3.2.2]) rfl rfl (As := [.int x1]) (rest := []) rfl hl.1 rfl rfl dX10_cracked_10 (fun H locs hP hD hS => ?_)
    refine lv_goto (tgt := 18) hx hb dX10_cracked_13 (by decide) ?_
    obtain rfl := Option.some.inj h
    exact k_iret hx hb hr hlk hP hD hS dX10_cracked_18
set_option maxRecDepth 100000 in
theorem c_X10_cracked (l : Launch) (g : gG) (q_t : Nat) (Q_t : Ad) (N : Nat) (F_t : St) (x1 : Int32) (o : Int32 × (Nat → Int32) × (Nat → Int32)) (h : x_X10_cracked N F_t x1 = some o) (sz : Nat) : MetI l yX10_cracked (.code yX10_cracked cX10_cracked 2 (some .int) :: gW) 3 78 [.ref q_t, .int x1] o.1 g [oX10 q_t Q_t (F_t 0 0) (F_t 2 0) (F_t 3 0) (F_t 4 0) (F_t 5 0) (F_t 6 0) (F_t 7 0) (F_t 8 0) (F_t 9 0) (F_t 10 0) (F_t 11 0) (F_t 12 0) (F_t 15 0) (F_t 16 0) (F_t 17 0) (F_t 23 0) (F_t 27 0) (F_t 28 0) (F_t 30 0), ia g (Q_t 18) 16 (F_t 18), ia g (Q_t 19) 30 (F_t 19), ia g (Q_t 20) 174 (F_t 20), ia g (Q_t 29) 18 (F_t 29), ia g (Q_t 32) 8 (F_t 32), ia g (Q_t 33) 8 (F_t 33)] [oX10 q_t Q_t (F_t 0 0) (F_t 2 0) (F_t 3 0) (F_t 4 0) (F_t 5 0) (F_t 6 0) (F_t 7 0) (F_t 8 0) (F_t 9 0) (F_t 10 0) (F_t 11 0) (F_t 12 0) (F_t 15 0) (F_t 16 0) (F_t 17 0) (F_t 23 0) (F_t 27 0) (F_t 28 0) (F_t 30 0), ia g (Q_t 18) 16 (F_t 18), ia g (Q_t 19) 30 (F_t 19), ia g (Q_t 20) 174 (F_t 20), ia g (Q_t 29) 18 (F_t 29), ia g (Q_t 32) 8 o.2.1, ia g (Q_t 33) 8 o.2.2] sz :=
  mkI (av := [.ref q_t, .int x1]) (by decide +kernel) rfl (fun p e s m below meth c A E H locs ls hP hD hS hl => t_X10_cracked E q_t Q_t N F_t x1 o h H locs ls hP hD hS hl) sz
def x_X10_listen_b28_k219 (N : Nat) (F_t : St) (x1 : Int32) (x2 : Int32) (x3 : Int32) (x5 : Int32) (s0 : Int32) : Option ((Int32 × Int32 × Int32 × (Nat → Int32) × (Nat → Int32) × (Nat → Int32)) ⊕ (Int32 × (Nat → Int32) × (Nat → Int32) × (Nat → Int32))) :=
  some (.inl (x3, s0, (x5 + (1 : Int32)), (F_t 32), (F_t 33), (F_t 36)))
set_option maxHeartbeats 4000000 in
set_option maxRecDepth 100000 in
theorem t_X10_listen_b28_k219 {p : Program} {l : Launch} {e : Env} {s : State} {m : MethodId} {args : Array Value} {below : List Frame} {meth : Method} {c : Code} {g : gG} {A : Nat → Prop} {Q : State → Prop} (E : En p s m args meth c g A cX10_listen 10 (.code yX10_listen cX10_listen 10 (some .int) :: gW) RX10 (some .int)) (q_t : Nat) (Q_t : Ad) (N : Nat) (F_t : St) (x1 : Int32) (x2 : Int32) (x3 : Int32) (x5 : Int32) (s0 : Int32) (o : (Int32 × Int32 × Int32 × (Nat → Int32) × (Nat → Int32) × (Nat → Int32)) ⊕ (Int32 × (Nat → Int32) × (Nat → Int32) × (Nat → Int32))) (h : x_X10_listen_b28_k219 N F_t x1 x2 x3 x5 s0 = some o) (hc : ∀ z, o = .inl z → WA p l e (rM 3 78) s m args below meth c g A Q 10 28 [oX10 q_t Q_t (F_t 0 0) (F_t 2 0) (F_t 3 0) (F_t 4 0) (F_t 5 0) (F_t 6 0) (F_t 7 0) (F_t 8 0) (F_t 9 0) (F_t 10 0) (F_t 11 0) (F_t 12 0) (F_t 15 0) (F_t 16 0) (F_t 17 0) (F_t 23 0) (F_t 27 0) (F_t 28 0) (F_t 30 0), ia g (Q_t 18) 16 (F_t 18), ia g (Q_t 19) 30 (F_t 19), ia g (Q_t 20) 174 (F_t 20), ia g (Q_t 29) 18 (F_t 29), ia g (Q_t 32) 8 z.2.2.2.1, ia g (Q_t 33) 8 z.2.2.2.2.1, ia g (Q_t 36) 11 z.2.2.2.2.2] [(0, .ref q_t), (1, .int x1), (2, .int x2), (3, .int z.1), (4, .int z.2.1), (5, .int z.2.2.1)] []) (he : ∀ v, o = .inr v → WA p l e (rM 3 78) s m args below meth c g A Q 10 227 [oX10 q_t Q_t (F_t 0 0) (F_t 2 0) (F_t 3 0) (F_t 4 0) (F_t 5 0) (F_t 6 0) (F_t 7 0) (F_t 8 0) (F_t 9 0) (F_t 10 0) (F_t 11 0) (F_t 12 0) (F_t 15 0) (F_t 16 0) (F_t 17 0) (F_t 23 0) (F_t 27 0) (F_t 28 0) (F_t 30 0), ia g (Q_t 18) 16 (F_t 18), ia g (Q_t 19) 30 (F_t 19), ia g (Q_t 20) 174 (F_t 20), ia g (Q_t 29) 18 (F_t 29), ia g (Q_t 32) 8 v.2.1, ia g (Q_t 33) 8 v.2.2.1, ia g (Q_t 36) 11 v.2.2.2] [(3, .int v.1)] []) : WA p l e (rM 3 78) s m args below meth c g A Q 10 219 [oX10 q_t Q_t (F_t 0 0) (F_t 2 0) (F_t 3 0) (F_t 4 0) (F_t 5 0) (F_t 6 0) (F_t 7 0) (F_t 8 0) (F_t 9 0) (F_t 10 0) (F_t 11 0) (F_t 12 0) (F_t 15 0) (F_t 16 0) (F_t 17 0) (F_t 23 0) (F_t 27 0) (F_t 28 0) (F_t 30 0), ia g (Q_t 18) 16 (F_t 18), ia g (Q_t 19) 30 (F_t 19), ia g (Q_t 20) 174 (F_t 20), ia g (Q_t 29) 18 (F_t 29), ia g (Q_t 32) 8 (F_t 32), ia g (Q_t 33) 8 (F_t 33), ia g (Q_t 36) 11 (F_t 36)] [(0, .ref q_t), (1, .int x1), (2, .int x2), (3, .int x3), (5, .int x5)] [.int s0] := by
  obtain ⟨⟨hx, hb, hml, hown, hts⟩, hr, hK, hA, hlk⟩ := id E
  intro H locs ls hP hD hS hl
  refine lv_istore (lv' := [(4, .int s0), (0, .ref q_t), (1, .int x1), (2, .int x2), (3, .int x3), (5, .int x5)]) hx hb dX10_listen_219 hl (by decide) rfl (fun ls hl => ?_)
  refine lv_iinc (v := (x5 + (1 : Int32))) (lv' := [(5, .int (x5 + (1 : Int32))), (4, .int s0), (0, .ref q_t), (1, .int x1), (2, .int x2), (3, .int x3)]) hx hb dX10_listen_221 hl (k := 5) rfl rfl (by decide) rfl (fun ls hl => ?_)
  refine lv_goto (tgt := 28) hx hb dX10_listen_224 (by decide) ?_
  obtain rfl := Option.some.inj h
  exact hc _ rfl H locs ls hP hD hS (lv_sub hl [2, 3, 4, 5, 1, 0] rfl)
def x_X10_listen_b28_k204 (N : Nat) (F_t : St) (x1 : Int32) (x2 : Int32) (x4 : Int32) (x5 : Int32) (x6 : Int32) (s0 : Int32) : Option ((Int32 × Int32 × Int32 × (Nat → Int32) × (Nat → Int32) × (Nat → Int32)) ⊕ (Int32 × (Nat → Int32) × (Nat → Int32) × (Nat → Int32))) :=
  if x4 ≤ x6 then (x_X10_listen_b28_k219 N F_t x1 x2 s0 x5 x4) else (x_X10_listen_b28_k219 N F_t x1 x2 s0 x5 x6)
set_option maxHeartbeats 4000000 in
set_option maxRecDepth 100000 in
theorem t_X10_listen_b28_k204 {p : Program} {l : Launch} {e : Env} {s : State} {m : MethodId} {args : Array Value} {below : List Frame} {meth : Method} {c : Code} {g : gG} {A : Nat → Prop} {Q : State → Prop} (E : En p s m args meth c g A cX10_listen 10 (.code yX10_listen cX10_listen 10 (some .int) :: gW) RX10 (some .int)) (q_t : Nat) (Q_t : Ad) (N : Nat) (F_t : St) (x1 : Int32) (x2 : Int32) (x4 : Int32) (x5 : Int32) (x6 : Int32) (s0 : Int32) (o : (Int32 × Int32 × Int32 × (Nat → Int32) × (Nat → Int32) × (Nat → Int32)) ⊕ (Int32 × (Nat → Int32) × (Nat → Int32) × (Nat → Int32))) (h : x_X10_listen_b28_k204 N F_t x1 x2 x4 x5 x6 s0 = some o) (hc : ∀ z, o = .inl z → WA p l e (rM 3 78) s m args below meth c g A Q 10 28 [oX10 q_t Q_t (F_t 0 0) (F_t 2 0) (F_t 3 0) (F_t 4 0) (F_t 5 0) (F_t 6 0) (F_t 7 0) (F_t 8 0) (F_t 9 0) (F_t 10 0) (F_t 11 0) (F_t 12 0) (F_t 15 0) (F_t 16 0) (F_t 17 0) (F_t 23 0) (F_t 27 0) (F_t 28 0) (F_t 30 0), ia g (Q_t 18) 16 (F_t 18), ia g (Q_t 19) 30 (F_t 19), ia g (Q_t 20) 174 (F_t 20), ia g (Q_t 29) 18 (F_t 29), ia g (Q_t 32) 8 z.2.2.2.1, ia g (Q_t 33) 8 z.2.2.2.2.1, ia g (Q_t 36) 11 z.2.2.2.2.2] [(0, .ref q_t), (1, .int x1), (2, .int x2), (3, .int z.1), (4, .int z.2.1), (5, .int z.2.2.1)] []) (he : ∀ v, o = .inr v → WA p l e (rM 3 78) s m args below meth c g A Q 10 227 [oX10 q_t Q_t (F_t 0 0) (F_t 2 0) (F_t 3 0) (F_t 4 0) (F_t 5 0) (F_t 6 0) (F_t 7 0) (F_t 8 0) (F_t 9 0) (F_t 10 0) (F_t 11 0) (F_t 12 0) (F_t 15 0) (F_t 16 0) (F_t 17 0) (F_t 23 0) (F_t 27 0) (F_t 28 0) (F_t 30 0), ia g (Q_t 18) 16 (F_t 18), ia g (Q_t 19) 30 (F_t 19), ia g (Q_t 20) 174 (F_t 20), ia g (Q_t 29) 18 (F_t 29), ia g (Q_t 32) 8 v.2.1, ia g (Q_t 33) 8 v.2.2.1, ia g (Q_t 36) 11 v.2.2.2] [(3, .int v.1)] []) : WA p l e (rM 3 78) s m args below meth c g A Q 10 204 [oX10 q_t Q_t (F_t 0 0) (F_t 2 0) (F_t 3 0) (F_t 4 0) (F_t 5 0) (F_t 6 0) (F_t 7 0) (F_t 8 0) (F_t 9 0) (F_t 10 0) (F_t 11 0) (F_t 12 0) (F_t 15 0) (F_t 16 0) (F_t 17 0) (F_t 23 0) (F_t 27 0) (F_t 28 0) (F_t 30 0), ia g (Q_t 18) 16 (F_t 18), ia g (Q_t 19) 30 (F_t 19), ia g (Q_t 20) 174 (F_t 20), ia g (Q_t 29) 18 (F_t 29), ia g (Q_t 32) 8 (F_t 32), ia g (Q_t 33) 8 (F_t 33), ia g (Q_t 36) 11 (F_t 36)] [(0, .ref q_t), (1, .int x1), (2, .int x2), (4, .int x4), (5, .int x5), (6, .int x6)] [.int s0] := by
  obtain ⟨⟨hx, hb, hml, hown, hts⟩, hr, hK, hA, hlk⟩ := id E
  intro H locs ls hP hD hS hl
  refine lv_istore_n (lv' := [(3, .int s0), (0, .ref q_t), (1, .int x1), (2, .int x2), (4, .int x4), (5, .int x5), (6, .int x6)]) hx hb dX10_listen_204 rfl hl (by decide) rfl (fun ls hl => ?_)
  refine lv_iload hx hb dX10_listen_205 (lv_at hl 6 rfl) ?_
  refine lv_iload hx hb dX10_listen_207 (lv_at hl 4 rfl) ?_
  refine lv_icmp_ge (tgt := 217) hx hb dX10_listen_209 (by decide) (fun c_5 => ?_) (fun c_5 => ?_)
  · have h := ox_t c_5 h
    refine lv_iload hx hb dX10_listen_217 (lv_at hl 4 rfl) ?_
    exact t_X10_listen_b28_k219 E q_t Q_t N F_t x1 x2 s0 x5 x4 _ h hc he H locs ls hP hD hS (lv_sub hl [1, 2, 3, 0, 5] rfl)
  · have h := ox_f c_5 h
    refine lv_iload hx hb dX10_listen_212 (lv_at hl 6 rfl) ?_
    refine lv_goto (tgt := 219) hx hb dX10_listen_214 (by decide) ?_
    exact t_X10_listen_b28_k219 E q_t Q_t N F_t x1 x2 s0 x5 x6 _ h hc he H locs ls hP hD hS (lv_sub hl [1, 2, 3, 0, 5] rfl)
def x_X10_listen_b40 (N : Nat) (F_t : St) (x1 : Int32) (x2 : Int32) (x3 : Int32) (x4 : Int32) (x5 : Int32) (x6 : Int32) : Option ((Int32 × (Nat → Int32) × (Nat → Int32) × (Nat → Int32)) ⊕ ((Nat → Int32) × (Nat → Int32) × (Nat → Int32))) :=
  if (11 : Int32) ≤ x6 then (some (.inr ((F_t 32), (F_t 33), (F_t 36)))) else (Option.bind (x_X10_has x2 x6) (fun v_8 => if v_8 = 0 then (some (.inl ((x6 + (1 : Int32)), (F_t 32), (F_t 33), (F_t 36)))) else (Option.bind (x_X10_layComes N F_t (0 : Int32) ((F_t 20) (172 : Int32).toNatClampNeg) x6 x1) (fun v_10 => if x5 < 0 ∨ 8 ≤ x5.toNatClampNeg then none else if x6 < 0 ∨ 11 ≤ x6.toNatClampNeg then none else xl (v_10.2 x5.toNatClampNeg) (fun y_13 => some (.inl ((x6 + (1 : Int32)), v_10.1, v_10.2, (upd (F_t 36) x6.toNatClampNeg y_13))))))))
set_option maxHeartbeats 4000000 in
set_option maxRecDepth 100000 in
theorem t_X10_listen_b40 {p : Program} {l : Launch} {e : Env} {s : State} {m : MethodId} {args : Array Value} {below : List Frame} {meth : Method} {c : Code} {g : gG} {A : Nat → Prop} {Q : State → Prop} (E : En p s m args meth c g A cX10_listen 10 (.code yX10_listen cX10_listen 10 (some .int) :: gW) RX10 (some .int)) (q_t : Nat) (Q_t : Ad) (N : Nat) (F_t : St) (x1 : Int32) (x2 : Int32) (x3 : Int32) (x4 : Int32) (x5 : Int32) (x6 : Int32) (o : (Int32 × (Nat → Int32) × (Nat → Int32) × (Nat → Int32)) ⊕ ((Nat → Int32) × (Nat → Int32) × (Nat → Int32))) (h : x_X10_listen_b40 N F_t x1 x2 x3 x4 x5 x6 = some o) (hc : ∀ z, o = .inl z → WA p l e (rM 3 78) s m args below meth c g A Q 10 40 [oX10 q_t Q_t (F_t 0 0) (F_t 2 0) (F_t 3 0) (F_t 4 0) (F_t 5 0) (F_t 6 0) (F_t 7 0) (F_t 8 0) (F_t 9 0) (F_t 10 0) (F_t 11 0) (F_t 12 0) (F_t 15 0) (F_t 16 0) (F_t 17 0) (F_t 23 0) (F_t 27 0) (F_t 28 0) (F_t 30 0), ia g (Q_t 18) 16 (F_t 18), ia g (Q_t 19) 30 (F_t 19), ia g (Q_t 20) 174 (F_t 20), ia g (Q_t 29) 18 (F_t 29), ia g (Q_t 32) 8 z.2.1, ia g (Q_t 33) 8 z.2.2.1, ia g (Q_t 36) 11 z.2.2.2] [(0, .ref q_t), (1, .int x1), (2, .int x2), (3, .int x3), (4, .int x4), (5, .int x5), (6, .int z.1)] []) (he : ∀ v, o = .inr v → WA p l e (rM 3 78) s m args below meth c g A Q 10 92 [oX10 q_t Q_t (F_t 0 0) (F_t 2 0) (F_t 3 0) (F_t 4 0) (F_t 5 0) (F_t 6 0) (F_t 7 0) (F_t 8 0) (F_t 9 0) (F_t 10 0) (F_t 11 0) (F_t 12 0) (F_t 15 0) (F_t 16 0) (F_t 17 0) (F_t 23 0) (F_t 27 0) (F_t 28 0) (F_t 30 0), ia g (Q_t 18) 16 (F_t 18), ia g (Q_t 19) 30 (F_t 19), ia g (Q_t 20) 174 (F_t 20), ia g (Q_t 29) 18 (F_t 29), ia g (Q_t 32) 8 v.1, ia g (Q_t 33) 8 v.2.1, ia g (Q_t 36) 11 v.2.2] [(0, .ref q_t), (1, .int x1), (2, .int x2), (3, .int x3), (4, .int x4), (5, .int x5)] []) : WA p l e (rM 3 78) s m args below meth c g A Q 10 40 [oX10 q_t Q_t (F_t 0 0) (F_t 2 0) (F_t 3 0) (F_t 4 0) (F_t 5 0) (F_t 6 0) (F_t 7 0) (F_t 8 0) (F_t 9 0) (F_t 10 0) (F_t 11 0) (F_t 12 0) (F_t 15 0) (F_t 16 0) (F_t 17 0) (F_t 23 0) (F_t 27 0) (F_t 28 0) (F_t 30 0), ia g (Q_t 18) 16 (F_t 18), ia g (Q_t 19) 30 (F_t 19), ia g (Q_t 20) 174 (F_t 20), ia g (Q_t 29) 18 (F_t 29), ia g (Q_t 32) 8 (F_t 32), ia g (Q_t 33) 8 (F_t 33), ia g (Q_t 36) 11 (F_t 36)] [(0, .ref q_t), (1, .int x1), (2, .int x2), (3, .int x3), (4, .int x4), (5, .int x5), (6, .int x6)] [] := by
  obtain ⟨⟨hx, hb, hml, hown, hts⟩, hr, hK, hA, hlk⟩ := id E
  intro H locs ls hP hD hS hl
  refine lv_iload hx hb dX10_listen_40 (lv_at hl 6 rfl) ?_
  refine lv_bipush (v := (11 : Int32)) hx hb dX10_listen_42 (by decide) ?_
  refine lv_icmp_ge (tgt := 92) hx hb dX10_listen_44 (by decide) (fun c_7 => ?_) (fun c_7 => ?_)
  · have h := ox_t c_7 h
    obtain rfl := Option.some.inj h
    exact he _ rfl H locs ls hP hD hS (lv_sub hl [0, 1, 2, 3, 4, 5] rfl)
  · have h := ox_f c_7 h
    refine lv_iload_n hx hb dX10_listen_47 rfl (lv_at hl 2 rfl) ?_
    refine lv_iload hx hb dX10_listen_48 (lv_at hl 6 rfl) ?_
    obtain ⟨v_8, hv_8, h⟩ := ox_bind h
    refine kSi ⟨hx, hb, hml, hown, hts⟩ (c_X10_has l g x2 x6 v_8 hv_8 H.size) (gS u_ml_X10_194 u_st_X10_has u_ini_X10 u_co_X10_has) hd_X10_has ⟨rfl, rfl⟩ hK hP hD hS hA [] [0, 1, 2, 3, 4, 5, 6, 7] rfl rfl 0 rfl (w2 := [oX10 q_t Q_t (F_t 0 0) (F_t 2 0) (F_t 3 0) (F_t 4 0) (F_t 5 0) (F_t 6 0) (F_t 7 0) (F_t 8 0) (F_t 9 0) (F_t 10 0) (F_t 11 0) (F_t 12 0) (F_t 15 0) (F_t 16 0) (F_t 17 0) (F_t 23 0) (F_t 27 0) (F_t 28 0) (F_t 30 0), ia g (Q_t 18) 16 (F_t 18), ia g (Q_t 19) 30 (F_t 19), ia g (Q_t 20) 174 (F_t 20), ia g (Q_t 29) 18 (F_t 29), ia g (Q_t 32) 8 (F_t 32), ia g (Q_t 33) 8 (F_t 33), ia g (Q_t 36) 11 (F_t 36)]) rfl rfl (As := [.int x2, .int x6]) (rest := []) rfl hl.1 rfl rfl dX10_listen_50 (fun H locs hP hD hS => ?_)
    refine lv_if_eq (tgt := 86) hx hb dX10_listen_53 (by decide) (fun c_9 => ?_) (fun c_9 => ?_)
    · have h := ox_t c_9 h
      refine lv_iinc (v := (x6 + (1 : Int32))) (lv' := [(6, .int (x6 + (1 : Int32))), (0, .ref q_t), (1, .int x1), (2, .int x2), (3, .int x3), (4, .int x4), (5, .int x5)]) hx hb dX10_listen_86 hl (k := 6) rfl rfl (by decide) rfl (fun ls hl => ?_)
      refine lv_goto (tgt := 40) hx hb dX10_listen_89 (by decide) ?_
      obtain rfl := Option.some.inj h
      exact hc _ rfl H locs ls hP hD hS (lv_sub hl [1, 2, 3, 4, 5, 6, 0] rfl)
    · have h := ox_f c_9 h
      refine lv_aload_n hx hb dX10_listen_56 rfl (lv_at hl 0 rfl) ?_
      refine lv_iconst (v := (0 : Int32)) hx hb dX10_listen_57 (by decide) ?_
      refine lv_aload_n hx hb dX10_listen_58 rfl (lv_at hl 0 rfl) ?_
      refine va_get (ci := 10) (v := .ref (Q_t 20)) (C := RX10) (T := TX10) (N := 38) hx hb hts (fun w h => .tail _ (u_inX10 w h)) hown hK.1 hP 0 rfl rfl 20 (by decide) (hts _ (.tail _ u_fl_X10_29)) (fun _ h9 => h9) rfl dX10_listen_59 ?_
      refine lv_sipush (v := (172 : Int32)) hx hb dX10_listen_62 (by decide) ?_
      refine va_iald hx hb hK.1 hP 3 0 rfl rfl (by unfold vp_in; decide) dX10_listen_65 ?_
      refine lv_iload hx hb dX10_listen_66 (lv_at hl 6 rfl) ?_
      refine lv_iload_n hx hb dX10_listen_68 rfl (lv_at hl 1 rfl) ?_
      obtain ⟨v_10, hv_10, h⟩ := ox_bind h
      refine kVv ⟨hx, hb, hml, hown, hts⟩ (c_X10_layComes l g q_t Q_t N F_t (0 : Int32) ((F_t 20) (172 : Int32).toNatClampNeg) x6 x1 v_10 hv_10 H.size) (gV u_ml_X10_229 u_im_X10_layComes u_se_X10_layComes u_ini_X10 u_co_X10_layComes) hd_X10_layComes ⟨rfl, rfl⟩ hK hP hD hS hA 0 10 rfl rfl [0, 1, 2, 3, 5, 6] [0, 1, 2, 3, 10, 4, 5, 13] rfl rfl 6 rfl (w2 := [oX10 q_t Q_t (F_t 0 0) (F_t 2 0) (F_t 3 0) (F_t 4 0) (F_t 5 0) (F_t 6 0) (F_t 7 0) (F_t 8 0) (F_t 9 0) (F_t 10 0) (F_t 11 0) (F_t 12 0) (F_t 15 0) (F_t 16 0) (F_t 17 0) (F_t 23 0) (F_t 27 0) (F_t 28 0) (F_t 30 0), ia g (Q_t 18) 16 (F_t 18), ia g (Q_t 19) 30 (F_t 19), ia g (Q_t 20) 174 (F_t 20), ia g (Q_t 29) 18 (F_t 29), ia g (Q_t 32) 8 v_10.1, ia g (Q_t 33) 8 v_10.2, ia g (Q_t 36) 11 (F_t 36)]) rfl rfl (As := [.int (0 : Int32), .int ((F_t 20) (172 : Int32).toNatClampNeg), .int x6, .int x1]) (rest := []) rfl hl.1 rfl rfl dX10_listen_69 (fun H locs hP hD hS => ?_)
      refine lv_aload_n hx hb dX10_listen_72 rfl (lv_at hl 0 rfl) ?_
      refine va_get (ci := 10) (v := .ref (Q_t 36)) (C := RX10) (T := TX10) (N := 38) hx hb hts (fun w h => .tail _ (u_inX10 w h)) hown hK.1 hP 0 rfl rfl 36 (by decide) (hts _ (.tail _ u_fl_X10_67)) (fun _ h9 => h9) rfl dX10_listen_73 ?_
      refine lv_iload hx hb dX10_listen_76 (lv_at hl 6 rfl) ?_
      refine lv_aload_n hx hb dX10_listen_78 rfl (lv_at hl 0 rfl) ?_
      refine va_get (ci := 10) (v := .ref (Q_t 33)) (C := RX10) (T := TX10) (N := 38) hx hb hts (fun w h => .tail _ (u_inX10 w h)) hown hK.1 hP 0 rfl rfl 33 (by decide) (hts _ (.tail _ u_fl_X10_57)) (fun _ h9 => h9) rfl dX10_listen_79 ?_
      refine lv_iload hx hb dX10_listen_82 (lv_at hl 5 rfl) ?_
      obtain ⟨hi_11, h⟩ := ox_chk h
      refine va_iald hx hb hK.1 hP 6 0 rfl rfl hi_11 dX10_listen_84 ?_
      obtain ⟨hi_12, h⟩ := ox_chk h
      refine lv_topi (fun y_13 ey_13 => ?_)
      have h := xl_at ey_13 h
      refine va_iast hx hb hK.1 hP hD hS 7 0 rfl rfl hi_12 dX10_listen_85 (fun H locs hP hD hS => ?_)
      have hP : va_P g.1 vwCl [oX10 q_t Q_t (F_t 0 0) (F_t 2 0) (F_t 3 0) (F_t 4 0) (F_t 5 0) (F_t 6 0) (F_t 7 0) (F_t 8 0) (F_t 9 0) (F_t 10 0) (F_t 11 0) (F_t 12 0) (F_t 15 0) (F_t 16 0) (F_t 17 0) (F_t 23 0) (F_t 27 0) (F_t 28 0) (F_t 30 0), ia g (Q_t 18) 16 (F_t 18), ia g (Q_t 19) 30 (F_t 19), ia g (Q_t 20) 174 (F_t 20), ia g (Q_t 29) 18 (F_t 29), ia g (Q_t 32) 8 v_10.1, ia g (Q_t 33) 8 v_10.2, ia g (Q_t 36) 11 (upd (F_t 36) x6.toNatClampNeg y_13)] H := hP
      have hD : va_D A [oX10 q_t Q_t (F_t 0 0) (F_t 2 0) (F_t 3 0) (F_t 4 0) (F_t 5 0) (F_t 6 0) (F_t 7 0) (F_t 8 0) (F_t 9 0) (F_t 10 0) (F_t 11 0) (F_t 12 0) (F_t 15 0) (F_t 16 0) (F_t 17 0) (F_t 23 0) (F_t 27 0) (F_t 28 0) (F_t 30 0), ia g (Q_t 18) 16 (F_t 18), ia g (Q_t 19) 30 (F_t 19), ia g (Q_t 20) 174 (F_t 20), ia g (Q_t 29) 18 (F_t 29), ia g (Q_t 32) 8 v_10.1, ia g (Q_t 33) 8 v_10.2, ia g (Q_t 36) 11 (upd (F_t 36) x6.toNatClampNeg y_13)] := hD
      refine lv_iinc (v := (x6 + (1 : Int32))) (lv' := [(6, .int (x6 + (1 : Int32))), (0, .ref q_t), (1, .int x1), (2, .int x2), (3, .int x3), (4, .int x4), (5, .int x5)]) hx hb dX10_listen_86 hl (k := 6) rfl rfl (by decide) rfl (fun ls hl => ?_)
      refine lv_goto (tgt := 40) hx hb dX10_listen_89 (by decide) ?_
      obtain rfl := Option.some.inj h
      exact hc _ rfl H locs ls hP hD hS (lv_sub hl [1, 2, 3, 4, 5, 6, 0] rfl)
def x_X10_listen_b98_k183 (N : Nat) (F_t : St) (x1 : Int32) (x2 : Int32) (x3 : Int32) (x4 : Int32) (x5 : Int32) (x7 : Int32) (s0 : Int32) : Option ((Int32 × Int32) ⊕ (Int32)) :=
  some (.inl (s0, (x7 + (1 : Int32))))
set_option maxHeartbeats 4000000 in
set_option maxRecDepth 100000 in
theorem t_X10_listen_b98_k183 {p : Program} {l : Launch} {e : Env} {s : State} {m : MethodId} {args : Array Value} {below : List Frame} {meth : Method} {c : Code} {g : gG} {A : Nat → Prop} {Q : State → Prop} (E : En p s m args meth c g A cX10_listen 10 (.code yX10_listen cX10_listen 10 (some .int) :: gW) RX10 (some .int)) (q_t : Nat) (Q_t : Ad) (N : Nat) (F_t : St) (x1 : Int32) (x2 : Int32) (x3 : Int32) (x4 : Int32) (x5 : Int32) (x7 : Int32) (s0 : Int32) (o : (Int32 × Int32) ⊕ (Int32)) (h : x_X10_listen_b98_k183 N F_t x1 x2 x3 x4 x5 x7 s0 = some o) (hc : ∀ z, o = .inl z → WA p l e (rM 3 78) s m args below meth c g A Q 10 98 [oX10 q_t Q_t (F_t 0 0) (F_t 2 0) (F_t 3 0) (F_t 4 0) (F_t 5 0) (F_t 6 0) (F_t 7 0) (F_t 8 0) (F_t 9 0) (F_t 10 0) (F_t 11 0) (F_t 12 0) (F_t 15 0) (F_t 16 0) (F_t 17 0) (F_t 23 0) (F_t 27 0) (F_t 28 0) (F_t 30 0), ia g (Q_t 18) 16 (F_t 18), ia g (Q_t 19) 30 (F_t 19), ia g (Q_t 20) 174 (F_t 20), ia g (Q_t 29) 18 (F_t 29), ia g (Q_t 32) 8 (F_t 32), ia g (Q_t 33) 8 (F_t 33), ia g (Q_t 36) 11 (F_t 36)] [(0, .ref q_t), (1, .int x1), (2, .int x2), (3, .int x3), (4, .int x4), (5, .int x5), (6, .int z.1), (7, .int z.2)] []) (he : ∀ v, o = .inr v → WA p l e (rM 3 78) s m args below meth c g A Q 10 191 [oX10 q_t Q_t (F_t 0 0) (F_t 2 0) (F_t 3 0) (F_t 4 0) (F_t 5 0) (F_t 6 0) (F_t 7 0) (F_t 8 0) (F_t 9 0) (F_t 10 0) (F_t 11 0) (F_t 12 0) (F_t 15 0) (F_t 16 0) (F_t 17 0) (F_t 23 0) (F_t 27 0) (F_t 28 0) (F_t 30 0), ia g (Q_t 18) 16 (F_t 18), ia g (Q_t 19) 30 (F_t 19), ia g (Q_t 20) 174 (F_t 20), ia g (Q_t 29) 18 (F_t 29), ia g (Q_t 32) 8 (F_t 32), ia g (Q_t 33) 8 (F_t 33), ia g (Q_t 36) 11 (F_t 36)] [(0, .ref q_t), (1, .int x1), (2, .int x2), (3, .int x3), (4, .int x4), (5, .int x5), (6, .int v)] []) : WA p l e (rM 3 78) s m args below meth c g A Q 10 183 [oX10 q_t Q_t (F_t 0 0) (F_t 2 0) (F_t 3 0) (F_t 4 0) (F_t 5 0) (F_t 6 0) (F_t 7 0) (F_t 8 0) (F_t 9 0) (F_t 10 0) (F_t 11 0) (F_t 12 0) (F_t 15 0) (F_t 16 0) (F_t 17 0) (F_t 23 0) (F_t 27 0) (F_t 28 0) (F_t 30 0), ia g (Q_t 18) 16 (F_t 18), ia g (Q_t 19) 30 (F_t 19), ia g (Q_t 20) 174 (F_t 20), ia g (Q_t 29) 18 (F_t 29), ia g (Q_t 32) 8 (F_t 32), ia g (Q_t 33) 8 (F_t 33), ia g (Q_t 36) 11 (F_t 36)] [(0, .ref q_t), (1, .int x1), (2, .int x2), (3, .int x3), (4, .int x4), (5, .int x5), (7, .int x7)] [.int s0] := by
  obtain ⟨⟨hx, hb, hml, hown, hts⟩, hr, hK, hA, hlk⟩ := id E
  intro H locs ls hP hD hS hl
  refine lv_istore (lv' := [(6, .int s0), (0, .ref q_t), (1, .int x1), (2, .int x2), (3, .int x3), (4, .int x4), (5, .int x5), (7, .int x7)]) hx hb dX10_listen_183 hl (by decide) rfl (fun ls hl => ?_)
  refine lv_iinc (v := (x7 + (1 : Int32))) (lv' := [(7, .int (x7 + (1 : Int32))), (6, .int s0), (0, .ref q_t), (1, .int x1), (2, .int x2), (3, .int x3), (4, .int x4), (5, .int x5)]) hx hb dX10_listen_185 hl (k := 7) rfl rfl (by decide) rfl (fun ls hl => ?_)
  refine lv_goto (tgt := 98) hx hb dX10_listen_188 (by decide) ?_
  obtain rfl := Option.some.inj h
  exact hc _ rfl H locs ls hP hD hS (lv_sub hl [2, 3, 4, 5, 6, 7, 1, 0] rfl)
def x_X10_listen_b111_k160 (N : Nat) (F_t : St) (x1 : Int32) (x2 : Int32) (x3 : Int32) (x4 : Int32) (x5 : Int32) (x6 : Int32) (x7 : Int32) (x9 : Int32) (s0 : Int32) (s1 : Int32) : Option ((Int32 × Int32) ⊕ (Int32)) :=
  xl (s0 + s1) (fun y_16 => some (.inl (y_16, (x9 + (1 : Int32)))))
set_option maxHeartbeats 4000000 in
set_option maxRecDepth 100000 in
theorem t_X10_listen_b111_k160 {p : Program} {l : Launch} {e : Env} {s : State} {m : MethodId} {args : Array Value} {below : List Frame} {meth : Method} {c : Code} {g : gG} {A : Nat → Prop} {Q : State → Prop} (E : En p s m args meth c g A cX10_listen 10 (.code yX10_listen cX10_listen 10 (some .int) :: gW) RX10 (some .int)) (q_t : Nat) (Q_t : Ad) (N : Nat) (F_t : St) (x1 : Int32) (x2 : Int32) (x3 : Int32) (x4 : Int32) (x5 : Int32) (x6 : Int32) (x7 : Int32) (x9 : Int32) (s0 : Int32) (s1 : Int32) (o : (Int32 × Int32) ⊕ (Int32)) (h : x_X10_listen_b111_k160 N F_t x1 x2 x3 x4 x5 x6 x7 x9 s0 s1 = some o) (hc : ∀ z, o = .inl z → WA p l e (rM 3 78) s m args below meth c g A Q 10 111 [oX10 q_t Q_t (F_t 0 0) (F_t 2 0) (F_t 3 0) (F_t 4 0) (F_t 5 0) (F_t 6 0) (F_t 7 0) (F_t 8 0) (F_t 9 0) (F_t 10 0) (F_t 11 0) (F_t 12 0) (F_t 15 0) (F_t 16 0) (F_t 17 0) (F_t 23 0) (F_t 27 0) (F_t 28 0) (F_t 30 0), ia g (Q_t 18) 16 (F_t 18), ia g (Q_t 19) 30 (F_t 19), ia g (Q_t 20) 174 (F_t 20), ia g (Q_t 29) 18 (F_t 29), ia g (Q_t 32) 8 (F_t 32), ia g (Q_t 33) 8 (F_t 33), ia g (Q_t 36) 11 (F_t 36)] [(0, .ref q_t), (1, .int x1), (2, .int x2), (3, .int x3), (4, .int x4), (5, .int x5), (6, .int x6), (7, .int x7), (8, .int z.1), (9, .int z.2)] []) (he : ∀ v, o = .inr v → WA p l e (rM 3 78) s m args below meth c g A Q 10 169 [oX10 q_t Q_t (F_t 0 0) (F_t 2 0) (F_t 3 0) (F_t 4 0) (F_t 5 0) (F_t 6 0) (F_t 7 0) (F_t 8 0) (F_t 9 0) (F_t 10 0) (F_t 11 0) (F_t 12 0) (F_t 15 0) (F_t 16 0) (F_t 17 0) (F_t 23 0) (F_t 27 0) (F_t 28 0) (F_t 30 0), ia g (Q_t 18) 16 (F_t 18), ia g (Q_t 19) 30 (F_t 19), ia g (Q_t 20) 174 (F_t 20), ia g (Q_t 29) 18 (F_t 29), ia g (Q_t 32) 8 (F_t 32), ia g (Q_t 33) 8 (F_t 33), ia g (Q_t 36) 11 (F_t 36)] [(0, .ref q_t), (1, .int x1), (2, .int x2), (3, .int x3), (4, .int x4), (5, .int x5), (6, .int x6), (7, .int x7), (8, .int v)] []) : WA p l e (rM 3 78) s m args below meth c g A Q 10 160 [oX10 q_t Q_t (F_t 0 0) (F_t 2 0) (F_t 3 0) (F_t 4 0) (F_t 5 0) (F_t 6 0) (F_t 7 0) (F_t 8 0) (F_t 9 0) (F_t 10 0) (F_t 11 0) (F_t 12 0) (F_t 15 0) (F_t 16 0) (F_t 17 0) (F_t 23 0) (F_t 27 0) (F_t 28 0) (F_t 30 0), ia g (Q_t 18) 16 (F_t 18), ia g (Q_t 19) 30 (F_t 19), ia g (Q_t 20) 174 (F_t 20), ia g (Q_t 29) 18 (F_t 29), ia g (Q_t 32) 8 (F_t 32), ia g (Q_t 33) 8 (F_t 33), ia g (Q_t 36) 11 (F_t 36)] [(0, .ref q_t), (1, .int x1), (2, .int x2), (3, .int x3), (4, .int x4), (5, .int x5), (6, .int x6), (7, .int x7), (9, .int x9)] [.int s1, .int s0] := by
  obtain ⟨⟨hx, hb, hml, hown, hts⟩, hr, hK, hA, hlk⟩ := id E
  intro H locs ls hP hD hS hl
  refine lv_iadd hx hb dX10_listen_160 ?_
  refine lv_topi (fun y_16 ey_16 => ?_)
  have h := xl_at ey_16 h
  refine lv_istore (lv' := [(8, .int y_16), (0, .ref q_t), (1, .int x1), (2, .int x2), (3, .int x3), (4, .int x4), (5, .int x5), (6, .int x6), (7, .int x7), (9, .int x9)]) hx hb dX10_listen_161 hl (by decide) rfl (fun ls hl => ?_)
  refine lv_iinc (v := (x9 + (1 : Int32))) (lv' := [(9, .int (x9 + (1 : Int32))), (8, .int y_16), (0, .ref q_t), (1, .int x1), (2, .int x2), (3, .int x3), (4, .int x4), (5, .int x5), (6, .int x6), (7, .int x7)]) hx hb dX10_listen_163 hl (k := 9) rfl rfl (by decide) rfl (fun ls hl => ?_)
  refine lv_goto (tgt := 111) hx hb dX10_listen_166 (by decide) ?_
  obtain rfl := Option.some.inj h
  exact hc _ rfl H locs ls hP hD hS (lv_sub hl [2, 3, 4, 5, 6, 7, 8, 9, 1, 0] rfl)
def x_X10_listen_b111_k159 (N : Nat) (F_t : St) (x1 : Int32) (x2 : Int32) (x3 : Int32) (x4 : Int32) (x5 : Int32) (x6 : Int32) (x7 : Int32) (x9 : Int32) (s0 : Int32) : Option ((Int32 × Int32) ⊕ (Int32)) :=
  x_X10_listen_b111_k160 N F_t x1 x2 x3 x4 x5 x6 x7 x9 s0 (0 : Int32)
set_option maxHeartbeats 4000000 in
set_option maxRecDepth 100000 in
theorem t_X10_listen_b111_k159 {p : Program} {l : Launch} {e : Env} {s : State} {m : MethodId} {args : Array Value} {below : List Frame} {meth : Method} {c : Code} {g : gG} {A : Nat → Prop} {Q : State → Prop} (E : En p s m args meth c g A cX10_listen 10 (.code yX10_listen cX10_listen 10 (some .int) :: gW) RX10 (some .int)) (q_t : Nat) (Q_t : Ad) (N : Nat) (F_t : St) (x1 : Int32) (x2 : Int32) (x3 : Int32) (x4 : Int32) (x5 : Int32) (x6 : Int32) (x7 : Int32) (x9 : Int32) (s0 : Int32) (o : (Int32 × Int32) ⊕ (Int32)) (h : x_X10_listen_b111_k159 N F_t x1 x2 x3 x4 x5 x6 x7 x9 s0 = some o) (hc : ∀ z, o = .inl z → WA p l e (rM 3 78) s m args below meth c g A Q 10 111 [oX10 q_t Q_t (F_t 0 0) (F_t 2 0) (F_t 3 0) (F_t 4 0) (F_t 5 0) (F_t 6 0) (F_t 7 0) (F_t 8 0) (F_t 9 0) (F_t 10 0) (F_t 11 0) (F_t 12 0) (F_t 15 0) (F_t 16 0) (F_t 17 0) (F_t 23 0) (F_t 27 0) (F_t 28 0) (F_t 30 0), ia g (Q_t 18) 16 (F_t 18), ia g (Q_t 19) 30 (F_t 19), ia g (Q_t 20) 174 (F_t 20), ia g (Q_t 29) 18 (F_t 29), ia g (Q_t 32) 8 (F_t 32), ia g (Q_t 33) 8 (F_t 33), ia g (Q_t 36) 11 (F_t 36)] [(0, .ref q_t), (1, .int x1), (2, .int x2), (3, .int x3), (4, .int x4), (5, .int x5), (6, .int x6), (7, .int x7), (8, .int z.1), (9, .int z.2)] []) (he : ∀ v, o = .inr v → WA p l e (rM 3 78) s m args below meth c g A Q 10 169 [oX10 q_t Q_t (F_t 0 0) (F_t 2 0) (F_t 3 0) (F_t 4 0) (F_t 5 0) (F_t 6 0) (F_t 7 0) (F_t 8 0) (F_t 9 0) (F_t 10 0) (F_t 11 0) (F_t 12 0) (F_t 15 0) (F_t 16 0) (F_t 17 0) (F_t 23 0) (F_t 27 0) (F_t 28 0) (F_t 30 0), ia g (Q_t 18) 16 (F_t 18), ia g (Q_t 19) 30 (F_t 19), ia g (Q_t 20) 174 (F_t 20), ia g (Q_t 29) 18 (F_t 29), ia g (Q_t 32) 8 (F_t 32), ia g (Q_t 33) 8 (F_t 33), ia g (Q_t 36) 11 (F_t 36)] [(0, .ref q_t), (1, .int x1), (2, .int x2), (3, .int x3), (4, .int x4), (5, .int x5), (6, .int x6), (7, .int x7), (8, .int v)] []) : WA p l e (rM 3 78) s m args below meth c g A Q 10 159 [oX10 q_t Q_t (F_t 0 0) (F_t 2 0) (F_t 3 0) (F_t 4 0) (F_t 5 0) (F_t 6 0) (F_t 7 0) (F_t 8 0) (F_t 9 0) (F_t 10 0) (F_t 11 0) (F_t 12 0) (F_t 15 0) (F_t 16 0) (F_t 17 0) (F_t 23 0) (F_t 27 0) (F_t 28 0) (F_t 30 0), ia g (Q_t 18) 16 (F_t 18), ia g (Q_t 19) 30 (F_t 19), ia g (Q_t 20) 174 (F_t 20), ia g (Q_t 29) 18 (F_t 29), ia g (Q_t 32) 8 (F_t 32), ia g (Q_t 33) 8 (F_t 33), ia g (Q_t 36) 11 (F_t 36)] [(0, .ref q_t), (1, .int x1), (2, .int x2), (3, .int x3), (4, .int x4), (5, .int x5), (6, .int x6), (7, .int x7), (9, .int x9)] [.int s0] := by
  obtain ⟨⟨hx, hb, hml, hown, hts⟩, hr, hK, hA, hlk⟩ := id E
  intro H locs ls hP hD hS hl
  refine lv_iconst (v := (0 : Int32)) hx hb dX10_listen_159 (by decide) ?_
  exact t_X10_listen_b111_k160 E q_t Q_t N F_t x1 x2 x3 x4 x5 x6 x7 x9 s0 (0 : Int32) _ h hc he H locs ls hP hD hS hl
def x_X10_listen_b111 (N : Nat) (F_t : St) (x1 : Int32) (x2 : Int32) (x3 : Int32) (x4 : Int32) (x5 : Int32) (x6 : Int32) (x7 : Int32) (x8 : Int32) (x9 : Int32) : Option ((Int32 × Int32) ⊕ (Int32)) :=
  if (11 : Int32) ≤ x9 then (some (.inr x8)) else (Option.bind (x_X10_has x2 x7) (fun v_18 => if v_18 = 0 then (x_X10_listen_b111_k159 N F_t x1 x2 x3 x4 x5 x6 x7 x9 x8) else (Option.bind (x_X10_has x2 x9) (fun v_20 => if v_20 = 0 then (x_X10_listen_b111_k159 N F_t x1 x2 x3 x4 x5 x6 x7 x9 x8) else (if x9 < 0 ∨ 11 ≤ x9.toNatClampNeg then none else if x7 < 0 ∨ 11 ≤ x7.toNatClampNeg then none else if ((F_t 36) x9.toNatClampNeg) = ((F_t 36) x7.toNatClampNeg) then (x_X10_listen_b111_k160 N F_t x1 x2 x3 x4 x5 x6 x7 x9 x8 (1 : Int32)) else (x_X10_listen_b111_k159 N F_t x1 x2 x3 x4 x5 x6 x7 x9 x8))))))
set_option maxHeartbeats 4000000 in
set_option maxRecDepth 100000 in
theorem t_X10_listen_b111 {p : Program} {l : Launch} {e : Env} {s : State} {m : MethodId} {args : Array Value} {below : List Frame} {meth : Method} {c : Code} {g : gG} {A : Nat → Prop} {Q : State → Prop} (E : En p s m args meth c g A cX10_listen 10 (.code yX10_listen cX10_listen 10 (some .int) :: gW) RX10 (some .int)) (q_t : Nat) (Q_t : Ad) (N : Nat) (F_t : St) (x1 : Int32) (x2 : Int32) (x3 : Int32) (x4 : Int32) (x5 : Int32) (x6 : Int32) (x7 : Int32) (x8 : Int32) (x9 : Int32) (o : (Int32 × Int32) ⊕ (Int32)) (h : x_X10_listen_b111 N F_t x1 x2 x3 x4 x5 x6 x7 x8 x9 = some o) (hc : ∀ z, o = .inl z → WA p l e (rM 3 78) s m args below meth c g A Q 10 111 [oX10 q_t Q_t (F_t 0 0) (F_t 2 0) (F_t 3 0) (F_t 4 0) (F_t 5 0) (F_t 6 0) (F_t 7 0) (F_t 8 0) (F_t 9 0) (F_t 10 0) (F_t 11 0) (F_t 12 0) (F_t 15 0) (F_t 16 0) (F_t 17 0) (F_t 23 0) (F_t 27 0) (F_t 28 0) (F_t 30 0), ia g (Q_t 18) 16 (F_t 18), ia g (Q_t 19) 30 (F_t 19), ia g (Q_t 20) 174 (F_t 20), ia g (Q_t 29) 18 (F_t 29), ia g (Q_t 32) 8 (F_t 32), ia g (Q_t 33) 8 (F_t 33), ia g (Q_t 36) 11 (F_t 36)] [(0, .ref q_t), (1, .int x1), (2, .int x2), (3, .int x3), (4, .int x4), (5, .int x5), (6, .int x6), (7, .int x7), (8, .int z.1), (9, .int z.2)] []) (he : ∀ v, o = .inr v → WA p l e (rM 3 78) s m args below meth c g A Q 10 169 [oX10 q_t Q_t (F_t 0 0) (F_t 2 0) (F_t 3 0) (F_t 4 0) (F_t 5 0) (F_t 6 0) (F_t 7 0) (F_t 8 0) (F_t 9 0) (F_t 10 0) (F_t 11 0) (F_t 12 0) (F_t 15 0) (F_t 16 0) (F_t 17 0) (F_t 23 0) (F_t 27 0) (F_t 28 0) (F_t 30 0), ia g (Q_t 18) 16 (F_t 18), ia g (Q_t 19) 30 (F_t 19), ia g (Q_t 20) 174 (F_t 20), ia g (Q_t 29) 18 (F_t 29), ia g (Q_t 32) 8 (F_t 32), ia g (Q_t 33) 8 (F_t 33), ia g (Q_t 36) 11 (F_t 36)] [(0, .ref q_t), (1, .int x1), (2, .int x2), (3, .int x3), (4, .int x4), (5, .int x5), (6, .int x6), (7, .int x7), (8, .int v)] []) : WA p l e (rM 3 78) s m args below meth c g A Q 10 111 [oX10 q_t Q_t (F_t 0 0) (F_t 2 0) (F_t 3 0) (F_t 4 0) (F_t 5 0) (F_t 6 0) (F_t 7 0) (F_t 8 0) (F_t 9 0) (F_t 10 0) (F_t 11 0) (F_t 12 0) (F_t 15 0) (F_t 16 0) (F_t 17 0) (F_t 23 0) (F_t 27 0) (F_t 28 0) (F_t 30 0), ia g (Q_t 18) 16 (F_t 18), ia g (Q_t 19) 30 (F_t 19), ia g (Q_t 20) 174 (F_t 20), ia g (Q_t 29) 18 (F_t 29), ia g (Q_t 32) 8 (F_t 32), ia g (Q_t 33) 8 (F_t 33), ia g (Q_t 36) 11 (F_t 36)] [(0, .ref q_t), (1, .int x1), (2, .int x2), (3, .int x3), (4, .int x4), (5, .int x5), (6, .int x6), (7, .int x7), (8, .int x8), (9, .int x9)] [] := by
  obtain ⟨⟨hx, hb, hml, hown, hts⟩, hr, hK, hA, hlk⟩ := id E
  intro H locs ls hP hD hS hl
  refine lv_iload hx hb dX10_listen_111 (lv_at hl 9 rfl) ?_
  refine lv_bipush (v := (11 : Int32)) hx hb dX10_listen_113 (by decide) ?_
  refine lv_icmp_ge (tgt := 169) hx hb dX10_listen_115 (by decide) (fun c_17 => ?_) (fun c_17 => ?_)
  · have h := ox_t c_17 h
    obtain rfl := Option.some.inj h
    exact he _ rfl H locs ls hP hD hS (lv_sub hl [0, 1, 2, 3, 4, 5, 6, 7, 8] rfl)
  · have h := ox_f c_17 h
    refine lv_iload hx hb dX10_listen_118 (lv_at hl 8 rfl) ?_
    refine lv_iload_n hx hb dX10_listen_120 rfl (lv_at hl 2 rfl) ?_
    refine lv_iload hx hb dX10_listen_121 (lv_at hl 7 rfl) ?_
    obtain ⟨v_18, hv_18, h⟩ := ox_bind h
    refine kSi ⟨hx, hb, hml, hown, hts⟩ (c_X10_has l g x2 x7 v_18 hv_18 H.size) (gS u_ml_X10_194 u_st_X10_has u_ini_X10 u_co_X10_has) hd_X10_has ⟨rfl, rfl⟩ hK hP hD hS hA [] [0, 1, 2, 3, 4, 5, 6, 7] rfl rfl 0 rfl (w2 := [oX10 q_t Q_t (F_t 0 0) (F_t 2 0) (F_t 3 0) (F_t 4 0) (F_t 5 0) (F_t 6 0) (F_t 7 0) (F_t 8 0) (F_t 9 0) (F_t 10 0) (F_t 11 0) (F_t 12 0) (F_t 15 0) (F_t 16 0) (F_t 17 0) (F_t 23 0) (F_t 27 0) (F_t 28 0) (F_t 30 0), ia g (Q_t 18) 16 (F_t 18), ia g (Q_t 19) 30 (F_t 19), ia g (Q_t 20) 174 (F_t 20), ia g (Q_t 29) 18 (F_t 29), ia g (Q_t 32) 8 (F_t 32), ia g (Q_t 33) 8 (F_t 33), ia g (Q_t 36) 11 (F_t 36)]) rfl rfl (As := [.int x2, .int x7]) (rest := [.int x8]) rfl hl.1 rfl rfl dX10_listen_123 (fun H locs hP hD hS => ?_)
    refine lv_if_eq (tgt := 159) hx hb dX10_listen_126 (by decide) (fun c_19 => ?_) (fun c_19 => ?_)
    · have h := ox_t c_19 h
      exact t_X10_listen_b111_k159 E q_t Q_t N F_t x1 x2 x3 x4 x5 x6 x7 x9 x8 _ h hc he H locs ls hP hD hS (lv_sub hl [0, 1, 2, 3, 4, 5, 6, 7, 9] rfl)
    · have h := ox_f c_19 h
      refine lv_iload_n hx hb dX10_listen_129 rfl (lv_at hl 2 rfl) ?_
      refine lv_iload hx hb dX10_listen_130 (lv_at hl 9 rfl) ?_
      obtain ⟨v_20, hv_20, h⟩ := ox_bind h
      refine kSi ⟨hx, hb, hml, hown, hts⟩ (c_X10_has l g x2 x9 v_20 hv_20 H.size) (gS u_ml_X10_194 u_st_X10_has u_ini_X10 u_co_X10_has) hd_X10_has ⟨rfl, rfl⟩ hK hP hD hS hA [] [0, 1, 2, 3, 4, 5, 6, 7] rfl rfl 0 rfl (w2 := [oX10 q_t Q_t (F_t 0 0) (F_t 2 0) (F_t 3 0) (F_t 4 0) (F_t 5 0) (F_t 6 0) (F_t 7 0) (F_t 8 0) (F_t 9 0) (F_t 10 0) (F_t 11 0) (F_t 12 0) (F_t 15 0) (F_t 16 0) (F_t 17 0) (F_t 23 0) (F_t 27 0) (F_t 28 0) (F_t 30 0), ia g (Q_t 18) 16 (F_t 18), ia g (Q_t 19) 30 (F_t 19), ia g (Q_t 20) 174 (F_t 20), ia g (Q_t 29) 18 (F_t 29), ia g (Q_t 32) 8 (F_t 32), ia g (Q_t 33) 8 (F_t 33), ia g (Q_t 36) 11 (F_t 36)]) rfl rfl (As := [.int x2, .int x9]) (rest := [.int x8]) rfl hl.1 rfl rfl dX10_listen_132 (fun H locs hP hD hS => ?_)
      refine lv_if_eq (tgt := 159) hx hb dX10_listen_135 (by decide) (fun c_21 => ?_) (fun c_21 => ?_)
      · have h := ox_t c_21 h
        exact t_X10_listen_b111_k159 E q_t Q_t N F_t x1 x2 x3 x4 x5 x6 x7 x9 x8 _ h hc he H locs ls hP hD hS (lv_sub hl [0, 1, 2, 3, 4, 5, 6, 7, 9] rfl)
      · have h := ox_f c_21 h
        refine lv_aload_n hx hb dX10_listen_138 rfl (lv_at hl 0 rfl) ?_
        refine va_get (ci := 10) (v := .ref (Q_t 36)) (C := RX10) (T := TX10) (N := 38) hx hb hts (fun w h => .tail _ (u_inX10 w h)) hown hK.1 hP 0 rfl rfl 36 (by decide) (hts _ (.tail _ u_fl_X10_67)) (fun _ h9 => h9) rfl dX10_listen_139 ?_
        refine lv_iload hx hb dX10_listen_142 (lv_at hl 9 rfl) ?_
        obtain ⟨hi_22, h⟩ := ox_chk h
        refine va_iald hx hb hK.1 hP 7 0 rfl rfl hi_22 dX10_listen_144 ?_
        refine lv_aload_n hx hb dX10_listen_145 rfl (lv_at hl 0 rfl) ?_
        refine va_get (ci := 10) (v := .ref (Q_t 36)) (C := RX10) (T := TX10) (N := 38) hx hb hts (fun w h => .tail _ (u_inX10 w h)) hown hK.1 hP 0 rfl rfl 36 (by decide) (hts _ (.tail _ u_fl_X10_67)) (fun _ h9 => h9) rfl dX10_listen_146 ?_
        refine lv_iload hx hb dX10_listen_149 (lv_at hl 7 rfl) ?_
        obtain ⟨hi_23, h⟩ := ox_chk h
        refine va_iald hx hb hK.1 hP 7 0 rfl rfl hi_23 dX10_listen_151 ?_
        refine lv_icmp_ne (tgt := 159) hx hb dX10_listen_152 (by decide) (fun c_24 => ?_) (fun c_24 => ?_)
        · have h := ox_f c_24 h
          exact t_X10_listen_b111_k159 E q_t Q_t N F_t x1 x2 x3 x4 x5 x6 x7 x9 x8 _ h hc he H locs ls hP hD hS (lv_sub hl [0, 1, 2, 3, 4, 5, 6, 7, 9] rfl)
        · have h := ox_t c_24 h
          refine lv_iconst (v := (1 : Int32)) hx hb dX10_listen_155 (by decide) ?_
          refine lv_goto (tgt := 160) hx hb dX10_listen_156 (by decide) ?_
          exact t_X10_listen_b111_k160 E q_t Q_t N F_t x1 x2 x3 x4 x5 x6 x7 x9 x8 (1 : Int32) _ h hc he H locs ls hP hD hS (lv_sub hl [0, 1, 2, 3, 4, 5, 6, 7, 9] rfl)
def x_X10_listen_b98 (N : Nat) (F_t : St) (x1 : Int32) (x2 : Int32) (x3 : Int32) (x4 : Int32) (x5 : Int32) (x6 : Int32) (x7 : Int32) : Option ((Int32 × Int32) ⊕ (Int32)) :=
  if (11 : Int32) ≤ x7 then (some (.inr x6)) else (Option.bind (lpc (fun (z : Int32 × Int32) => x_X10_listen_b111 N F_t x1 x2 x3 x4 x5 x6 x7 z.1 z.2) N ((0 : Int32), (0 : Int32))) (fun v_25 => if v_25 ≤ x6 then (x_X10_listen_b98_k183 N F_t x1 x2 x3 x4 x5 x7 x6) else (x_X10_listen_b98_k183 N F_t x1 x2 x3 x4 x5 x7 v_25)))
set_option maxHeartbeats 4000000 in
set_option maxRecDepth 100000 in
theorem t_X10_listen_b98 {p : Program} {l : Launch} {e : Env} {s : State} {m : MethodId} {args : Array Value} {below : List Frame} {meth : Method} {c : Code} {g : gG} {A : Nat → Prop} {Q : State → Prop} (E : En p s m args meth c g A cX10_listen 10 (.code yX10_listen cX10_listen 10 (some .int) :: gW) RX10 (some .int)) (q_t : Nat) (Q_t : Ad) (N : Nat) (F_t : St) (x1 : Int32) (x2 : Int32) (x3 : Int32) (x4 : Int32) (x5 : Int32) (x6 : Int32) (x7 : Int32) (o : (Int32 × Int32) ⊕ (Int32)) (h : x_X10_listen_b98 N F_t x1 x2 x3 x4 x5 x6 x7 = some o) (hc : ∀ z, o = .inl z → WA p l e (rM 3 78) s m args below meth c g A Q 10 98 [oX10 q_t Q_t (F_t 0 0) (F_t 2 0) (F_t 3 0) (F_t 4 0) (F_t 5 0) (F_t 6 0) (F_t 7 0) (F_t 8 0) (F_t 9 0) (F_t 10 0) (F_t 11 0) (F_t 12 0) (F_t 15 0) (F_t 16 0) (F_t 17 0) (F_t 23 0) (F_t 27 0) (F_t 28 0) (F_t 30 0), ia g (Q_t 18) 16 (F_t 18), ia g (Q_t 19) 30 (F_t 19), ia g (Q_t 20) 174 (F_t 20), ia g (Q_t 29) 18 (F_t 29), ia g (Q_t 32) 8 (F_t 32), ia g (Q_t 33) 8 (F_t 33), ia g (Q_t 36) 11 (F_t 36)] [(0, .ref q_t), (1, .int x1), (2, .int x2), (3, .int x3), (4, .int x4), (5, .int x5), (6, .int z.1), (7, .int z.2)] []) (he : ∀ v, o = .inr v → WA p l e (rM 3 78) s m args below meth c g A Q 10 191 [oX10 q_t Q_t (F_t 0 0) (F_t 2 0) (F_t 3 0) (F_t 4 0) (F_t 5 0) (F_t 6 0) (F_t 7 0) (F_t 8 0) (F_t 9 0) (F_t 10 0) (F_t 11 0) (F_t 12 0) (F_t 15 0) (F_t 16 0) (F_t 17 0) (F_t 23 0) (F_t 27 0) (F_t 28 0) (F_t 30 0), ia g (Q_t 18) 16 (F_t 18), ia g (Q_t 19) 30 (F_t 19), ia g (Q_t 20) 174 (F_t 20), ia g (Q_t 29) 18 (F_t 29), ia g (Q_t 32) 8 (F_t 32), ia g (Q_t 33) 8 (F_t 33), ia g (Q_t 36) 11 (F_t 36)] [(0, .ref q_t), (1, .int x1), (2, .int x2), (3, .int x3), (4, .int x4), (5, .int x5), (6, .int v)] []) : WA p l e (rM 3 78) s m args below meth c g A Q 10 98 [oX10 q_t Q_t (F_t 0 0) (F_t 2 0) (F_t 3 0) (F_t 4 0) (F_t 5 0) (F_t 6 0) (F_t 7 0) (F_t 8 0) (F_t 9 0) (F_t 10 0) (F_t 11 0) (F_t 12 0) (F_t 15 0) (F_t 16 0) (F_t 17 0) (F_t 23 0) (F_t 27 0) (F_t 28 0) (F_t 30 0), ia g (Q_t 18) 16 (F_t 18), ia g (Q_t 19) 30 (F_t 19), ia g (Q_t 20) 174 (F_t 20), ia g (Q_t 29) 18 (F_t 29), ia g (Q_t 32) 8 (F_t 32), ia g (Q_t 33) 8 (F_t 33), ia g (Q_t 36) 11 (F_t 36)] [(0, .ref q_t), (1, .int x1), (2, .int x2), (3, .int x3), (4, .int x4), (5, .int x5), (6, .int x6), (7, .int x7)] [] := by
  obtain ⟨⟨hx, hb, hml, hown, hts⟩, hr, hK, hA, hlk⟩ := id E
  intro H locs ls hP hD hS hl
  refine lv_iload hx hb dX10_listen_98 (lv_at hl 7 rfl) ?_
  refine lv_bipush (v := (11 : Int32)) hx hb dX10_listen_100 (by decide) ?_
  refine lv_icmp_ge (tgt := 191) hx hb dX10_listen_102 (by decide) (fun c_15 => ?_) (fun c_15 => ?_)
  · have h := ox_t c_15 h
    obtain rfl := Option.some.inj h
    exact he _ rfl H locs ls hP hD hS (lv_sub hl [0, 1, 2, 3, 4, 5, 6] rfl)
  · have h := ox_f c_15 h
    refine lv_iconst (v := (0 : Int32)) hx hb dX10_listen_105 (by decide) ?_
    refine lv_istore (lv' := [(8, .int (0 : Int32)), (0, .ref q_t), (1, .int x1), (2, .int x2), (3, .int x3), (4, .int x4), (5, .int x5), (6, .int x6), (7, .int x7)]) hx hb dX10_listen_106 hl (by decide) rfl (fun ls hl => ?_)
    refine lv_iconst (v := (0 : Int32)) hx hb dX10_listen_108 (by decide) ?_
    refine lv_istore (lv' := [(9, .int (0 : Int32)), (8, .int (0 : Int32)), (0, .ref q_t), (1, .int x1), (2, .int x2), (3, .int x3), (4, .int x4), (5, .int x5), (6, .int x6), (7, .int x7)]) hx hb dX10_listen_109 hl (by decide) rfl (fun ls hl => ?_)
    obtain ⟨v_25, hv_25, h⟩ := ox_bind h
    refine lpc_W (Wh := fun (z : Int32 × Int32) => WA p l e (rM 3 78) s m args below meth c g A Q 10 111 [oX10 q_t Q_t (F_t 0 0) (F_t 2 0) (F_t 3 0) (F_t 4 0) (F_t 5 0) (F_t 6 0) (F_t 7 0) (F_t 8 0) (F_t 9 0) (F_t 10 0) (F_t 11 0) (F_t 12 0) (F_t 15 0) (F_t 16 0) (F_t 17 0) (F_t 23 0) (F_t 27 0) (F_t 28 0) (F_t 30 0), ia g (Q_t 18) 16 (F_t 18), ia g (Q_t 19) 30 (F_t 19), ia g (Q_t 20) 174 (F_t 20), ia g (Q_t 29) 18 (F_t 29), ia g (Q_t 32) 8 (F_t 32), ia g (Q_t 33) 8 (F_t 33), ia g (Q_t 36) 11 (F_t 36)] [(0, .ref q_t), (1, .int x1), (2, .int x2), (3, .int x3), (4, .int x4), (5, .int x5), (6, .int x6), (7, .int x7), (8, .int z.1), (9, .int z.2)] []) (We := fun (v : Int32) => WA p l e (rM 3 78) s m args below meth c g A Q 10 169 [oX10 q_t Q_t (F_t 0 0) (F_t 2 0) (F_t 3 0) (F_t 4 0) (F_t 5 0) (F_t 6 0) (F_t 7 0) (F_t 8 0) (F_t 9 0) (F_t 10 0) (F_t 11 0) (F_t 12 0) (F_t 15 0) (F_t 16 0) (F_t 17 0) (F_t 23 0) (F_t 27 0) (F_t 28 0) (F_t 30 0), ia g (Q_t 18) 16 (F_t 18), ia g (Q_t 19) 30 (F_t 19), ia g (Q_t 20) 174 (F_t 20), ia g (Q_t 29) 18 (F_t 29), ia g (Q_t 32) 8 (F_t 32), ia g (Q_t 33) 8 (F_t 33), ia g (Q_t 36) 11 (F_t 36)] [(0, .ref q_t), (1, .int x1), (2, .int x2), (3, .int x3), (4, .int x4), (5, .int x5), (6, .int x6), (7, .int x7), (8, .int v)] []) (fun z r hb hc he => t_X10_listen_b111 E q_t Q_t N F_t x1 x2 x3 x4 x5 x6 x7 z.1 z.2 r hb hc he) N ((0 : Int32), (0 : Int32)) v_25 hv_25 ?_ H locs ls hP hD hS (lv_sub hl [2, 3, 4, 5, 6, 7, 8, 9, 1, 0] rfl)
    intro H locs ls hP hD hS hl
    refine lv_iload hx hb dX10_listen_169 (lv_at hl 8 rfl) ?_
    refine lv_iload hx hb dX10_listen_171 (lv_at hl 6 rfl) ?_
    refine lv_icmp_le (tgt := 181) hx hb dX10_listen_173 (by decide) (fun c_26 => ?_) (fun c_26 => ?_)
    · have h := ox_t c_26 h
      refine lv_iload hx hb dX10_listen_181 (lv_at hl 6 rfl) ?_
      exact t_X10_listen_b98_k183 E q_t Q_t N F_t x1 x2 x3 x4 x5 x7 x6 _ h hc he H locs ls hP hD hS (lv_sub hl [0, 1, 2, 3, 4, 5, 7] rfl)
    · have h := ox_f c_26 h
      refine lv_iload hx hb dX10_listen_176 (lv_at hl 8 rfl) ?_
      refine lv_goto (tgt := 183) hx hb dX10_listen_178 (by decide) ?_
      exact t_X10_listen_b98_k183 E q_t Q_t N F_t x1 x2 x3 x4 x5 x7 v_25 _ h hc he H locs ls hP hD hS (lv_sub hl [0, 1, 2, 3, 4, 5, 7] rfl)
def x_X10_listen_b28 (N : Nat) (F_t : St) (x1 : Int32) (x2 : Int32) (x3 : Int32) (x4 : Int32) (x5 : Int32) : Option ((Int32 × Int32 × Int32 × (Nat → Int32) × (Nat → Int32) × (Nat → Int32)) ⊕ (Int32 × (Nat → Int32) × (Nat → Int32) × (Nat → Int32))) :=
  if (F_t 16 0) ≤ x5 then (some (.inr (x3, (F_t 32), (F_t 33), (F_t 36)))) else (Option.bind (lpc (fun (z : Int32 × (Nat → Int32) × (Nat → Int32) × (Nat → Int32)) => x_X10_listen_b40 N (va_up (va_up (va_up F_t 32 z.2.1) 33 z.2.2.1) 36 z.2.2.2) x1 x2 x3 x4 x5 z.1) N ((0 : Int32), (F_t 32), (F_t 33), (F_t 36))) (fun v_14 => Option.bind (lpc (fun (z : Int32 × Int32) => x_X10_listen_b98 N (va_up (va_up (va_up F_t 32 v_14.1) 33 v_14.2.1) 36 v_14.2.2) x1 x2 x3 x4 x5 z.1 z.2) N ((0 : Int32), (0 : Int32))) (fun v_27 => if x4 ≤ v_27 then (x_X10_listen_b28_k204 N (va_up (va_up (va_up F_t 32 v_14.1) 33 v_14.2.1) 36 v_14.2.2) x1 x2 x4 x5 v_27 x3) else (x_X10_listen_b28_k204 N (va_up (va_up (va_up F_t 32 v_14.1) 33 v_14.2.1) 36 v_14.2.2) x1 x2 x4 x5 v_27 x5))))
set_option maxHeartbeats 4000000 in
set_option maxRecDepth 100000 in
theorem t_X10_listen_b28 {p : Program} {l : Launch} {e : Env} {s : State} {m : MethodId} {args : Array Value} {below : List Frame} {meth : Method} {c : Code} {g : gG} {A : Nat → Prop} {Q : State → Prop} (E : En p s m args meth c g A cX10_listen 10 (.code yX10_listen cX10_listen 10 (some .int) :: gW) RX10 (some .int)) (q_t : Nat) (Q_t : Ad) (N : Nat) (F_t : St) (x1 : Int32) (x2 : Int32) (x3 : Int32) (x4 : Int32) (x5 : Int32) (o : (Int32 × Int32 × Int32 × (Nat → Int32) × (Nat → Int32) × (Nat → Int32)) ⊕ (Int32 × (Nat → Int32) × (Nat → Int32) × (Nat → Int32))) (h : x_X10_listen_b28 N F_t x1 x2 x3 x4 x5 = some o) (hc : ∀ z, o = .inl z → WA p l e (rM 3 78) s m args below meth c g A Q 10 28 [oX10 q_t Q_t (F_t 0 0) (F_t 2 0) (F_t 3 0) (F_t 4 0) (F_t 5 0) (F_t 6 0) (F_t 7 0) (F_t 8 0) (F_t 9 0) (F_t 10 0) (F_t 11 0) (F_t 12 0) (F_t 15 0) (F_t 16 0) (F_t 17 0) (F_t 23 0) (F_t 27 0) (F_t 28 0) (F_t 30 0), ia g (Q_t 18) 16 (F_t 18), ia g (Q_t 19) 30 (F_t 19), ia g (Q_t 20) 174 (F_t 20), ia g (Q_t 29) 18 (F_t 29), ia g (Q_t 32) 8 z.2.2.2.1, ia g (Q_t 33) 8 z.2.2.2.2.1, ia g (Q_t 36) 11 z.2.2.2.2.2] [(0, .ref q_t), (1, .int x1), (2, .int x2), (3, .int z.1), (4, .int z.2.1), (5, .int z.2.2.1)] []) (he : ∀ v, o = .inr v → WA p l e (rM 3 78) s m args below meth c g A Q 10 227 [oX10 q_t Q_t (F_t 0 0) (F_t 2 0) (F_t 3 0) (F_t 4 0) (F_t 5 0) (F_t 6 0) (F_t 7 0) (F_t 8 0) (F_t 9 0) (F_t 10 0) (F_t 11 0) (F_t 12 0) (F_t 15 0) (F_t 16 0) (F_t 17 0) (F_t 23 0) (F_t 27 0) (F_t 28 0) (F_t 30 0), ia g (Q_t 18) 16 (F_t 18), ia g (Q_t 19) 30 (F_t 19), ia g (Q_t 20) 174 (F_t 20), ia g (Q_t 29) 18 (F_t 29), ia g (Q_t 32) 8 v.2.1, ia g (Q_t 33) 8 v.2.2.1, ia g (Q_t 36) 11 v.2.2.2] [(3, .int v.1)] []) : WA p l e (rM 3 78) s m args below meth c g A Q 10 28 [oX10 q_t Q_t (F_t 0 0) (F_t 2 0) (F_t 3 0) (F_t 4 0) (F_t 5 0) (F_t 6 0) (F_t 7 0) (F_t 8 0) (F_t 9 0) (F_t 10 0) (F_t 11 0) (F_t 12 0) (F_t 15 0) (F_t 16 0) (F_t 17 0) (F_t 23 0) (F_t 27 0) (F_t 28 0) (F_t 30 0), ia g (Q_t 18) 16 (F_t 18), ia g (Q_t 19) 30 (F_t 19), ia g (Q_t 20) 174 (F_t 20), ia g (Q_t 29) 18 (F_t 29), ia g (Q_t 32) 8 (F_t 32), ia g (Q_t 33) 8 (F_t 33), ia g (Q_t 36) 11 (F_t 36)] [(0, .ref q_t), (1, .int x1), (2, .int x2), (3, .int x3), (4, .int x4), (5, .int x5)] [] := by
  obtain ⟨⟨hx, hb, hml, hown, hts⟩, hr, hK, hA, hlk⟩ := id E
  intro H locs ls hP hD hS hl
  refine lv_iload hx hb dX10_listen_28 (lv_at hl 5 rfl) ?_
  refine lv_aload_n hx hb dX10_listen_30 rfl (lv_at hl 0 rfl) ?_
  refine va_get (ci := 10) (v := .int (F_t 16 0)) (C := RX10) (T := TX10) (N := 38) hx hb hts (fun w h => .tail _ (u_inX10 w h)) hown hK.1 hP 0 rfl rfl 16 (by decide) (hts _ (.tail _ u_fl_X10_80)) (fun _ h9 => h9) rfl dX10_listen_31 ?_
  refine lv_icmp_ge (tgt := 227) hx hb dX10_listen_34 (by decide) (fun c_6 => ?_) (fun c_6 => ?_)
  · have h := ox_t c_6 h
    obtain rfl := Option.some.inj h
    exact he _ rfl H locs ls hP hD hS (lv_sub hl [3] rfl)
  · have h := ox_f c_6 h
    refine lv_iconst (v := (0 : Int32)) hx hb dX10_listen_37 (by decide) ?_
    refine lv_istore (lv' := [(6, .int (0 : Int32)), (0, .ref q_t), (1, .int x1), (2, .int x2), (3, .int x3), (4, .int x4), (5, .int x5)]) hx hb dX10_listen_38 hl (by decide) rfl (fun ls hl => ?_)
    obtain ⟨v_14, hv_14, h⟩ := ox_bind h
    refine lpc_W (Wh := fun (z : Int32 × (Nat → Int32) × (Nat → Int32) × (Nat → Int32)) => WA p l e (rM 3 78) s m args below meth c g A Q 10 40 [oX10 q_t Q_t (F_t 0 0) (F_t 2 0) (F_t 3 0) (F_t 4 0) (F_t 5 0) (F_t 6 0) (F_t 7 0) (F_t 8 0) (F_t 9 0) (F_t 10 0) (F_t 11 0) (F_t 12 0) (F_t 15 0) (F_t 16 0) (F_t 17 0) (F_t 23 0) (F_t 27 0) (F_t 28 0) (F_t 30 0), ia g (Q_t 18) 16 (F_t 18), ia g (Q_t 19) 30 (F_t 19), ia g (Q_t 20) 174 (F_t 20), ia g (Q_t 29) 18 (F_t 29), ia g (Q_t 32) 8 z.2.1, ia g (Q_t 33) 8 z.2.2.1, ia g (Q_t 36) 11 z.2.2.2] [(0, .ref q_t), (1, .int x1), (2, .int x2), (3, .int x3), (4, .int x4), (5, .int x5), (6, .int z.1)] []) (We := fun (v : (Nat → Int32) × (Nat → Int32) × (Nat → Int32)) => WA p l e (rM 3 78) s m args below meth c g A Q 10 92 [oX10 q_t Q_t (F_t 0 0) (F_t 2 0) (F_t 3 0) (F_t 4 0) (F_t 5 0) (F_t 6 0) (F_t 7 0) (F_t 8 0) (F_t 9 0) (F_t 10 0) (F_t 11 0) (F_t 12 0) (F_t 15 0) (F_t 16 0) (F_t 17 0) (F_t 23 0) (F_t 27 0) (F_t 28 0) (F_t 30 0), ia g (Q_t 18) 16 (F_t 18), ia g (Q_t 19) 30 (F_t 19), ia g (Q_t 20) 174 (F_t 20), ia g (Q_t 29) 18 (F_t 29), ia g (Q_t 32) 8 v.1, ia g (Q_t 33) 8 v.2.1, ia g (Q_t 36) 11 v.2.2] [(0, .ref q_t), (1, .int x1), (2, .int x2), (3, .int x3), (4, .int x4), (5, .int x5)] []) (fun z r hb hc he => t_X10_listen_b40 E q_t Q_t N (va_up (va_up (va_up F_t 32 z.2.1) 33 z.2.2.1) 36 z.2.2.2) x1 x2 x3 x4 x5 z.1 r hb hc he) N ((0 : Int32), (F_t 32), (F_t 33), (F_t 36)) v_14 hv_14 ?_ H locs ls hP hD hS (lv_sub hl [1, 2, 3, 4, 5, 6, 0] rfl)
    intro H locs ls hP hD hS hl
    refine lv_iconst (v := (0 : Int32)) hx hb dX10_listen_92 (by decide) ?_
    refine lv_istore (lv' := [(6, .int (0 : Int32)), (0, .ref q_t), (1, .int x1), (2, .int x2), (3, .int x3), (4, .int x4), (5, .int x5)]) hx hb dX10_listen_93 hl (by decide) rfl (fun ls hl => ?_)
    refine lv_iconst (v := (0 : Int32)) hx hb dX10_listen_95 (by decide) ?_
    refine lv_istore (lv' := [(7, .int (0 : Int32)), (6, .int (0 : Int32)), (0, .ref q_t), (1, .int x1), (2, .int x2), (3, .int x3), (4, .int x4), (5, .int x5)]) hx hb dX10_listen_96 hl (by decide) rfl (fun ls hl => ?_)
    obtain ⟨v_27, hv_27, h⟩ := ox_bind h
    refine lpc_W (Wh := fun (z : Int32 × Int32) => WA p l e (rM 3 78) s m args below meth c g A Q 10 98 [oX10 q_t Q_t (F_t 0 0) (F_t 2 0) (F_t 3 0) (F_t 4 0) (F_t 5 0) (F_t 6 0) (F_t 7 0) (F_t 8 0) (F_t 9 0) (F_t 10 0) (F_t 11 0) (F_t 12 0) (F_t 15 0) (F_t 16 0) (F_t 17 0) (F_t 23 0) (F_t 27 0) (F_t 28 0) (F_t 30 0), ia g (Q_t 18) 16 (F_t 18), ia g (Q_t 19) 30 (F_t 19), ia g (Q_t 20) 174 (F_t 20), ia g (Q_t 29) 18 (F_t 29), ia g (Q_t 32) 8 v_14.1, ia g (Q_t 33) 8 v_14.2.1, ia g (Q_t 36) 11 v_14.2.2] [(0, .ref q_t), (1, .int x1), (2, .int x2), (3, .int x3), (4, .int x4), (5, .int x5), (6, .int z.1), (7, .int z.2)] []) (We := fun (v : Int32) => WA p l e (rM 3 78) s m args below meth c g A Q 10 191 [oX10 q_t Q_t (F_t 0 0) (F_t 2 0) (F_t 3 0) (F_t 4 0) (F_t 5 0) (F_t 6 0) (F_t 7 0) (F_t 8 0) (F_t 9 0) (F_t 10 0) (F_t 11 0) (F_t 12 0) (F_t 15 0) (F_t 16 0) (F_t 17 0) (F_t 23 0) (F_t 27 0) (F_t 28 0) (F_t 30 0), ia g (Q_t 18) 16 (F_t 18), ia g (Q_t 19) 30 (F_t 19), ia g (Q_t 20) 174 (F_t 20), ia g (Q_t 29) 18 (F_t 29), ia g (Q_t 32) 8 v_14.1, ia g (Q_t 33) 8 v_14.2.1, ia g (Q_t 36) 11 v_14.2.2] [(0, .ref q_t), (1, .int x1), (2, .int x2), (3, .int x3), (4, .int x4), (5, .int x5), (6, .int v)] []) (fun z r hb hc he => t_X10_listen_b98 E q_t Q_t N (va_up (va_up (va_up F_t 32 v_14.1) 33 v_14.2.1) 36 v_14.2.2) x1 x2 x3 x4 x5 z.1 z.2 r hb hc he) N ((0 : Int32), (0 : Int32)) v_27 hv_27 ?_ H locs ls hP hD hS (lv_sub hl [2, 3, 4, 5, 6, 7, 1, 0] rfl)
    intro H locs ls hP hD hS hl
    refine lv_iload hx hb dX10_listen_191 (lv_at hl 6 rfl) ?_
    refine lv_iload hx hb dX10_listen_193 (lv_at hl 4 rfl) ?_
    refine lv_icmp_ge (tgt := 203) hx hb dX10_listen_195 (by decide) (fun c_28 => ?_) (fun c_28 => ?_)
    · have h := ox_t c_28 h
      refine lv_iload_n hx hb dX10_listen_203 rfl (lv_at hl 3 rfl) ?_
      exact t_X10_listen_b28_k204 E q_t Q_t N (va_up (va_up (va_up F_t 32 v_14.1) 33 v_14.2.1) 36 v_14.2.2) x1 x2 x4 x5 v_27 x3 _ h hc he H locs ls hP hD hS (lv_sub hl [0, 1, 2, 4, 5, 6] rfl)
    · have h := ox_f c_28 h
      refine lv_iload hx hb dX10_listen_198 (lv_at hl 5 rfl) ?_
      refine lv_goto (tgt := 204) hx hb dX10_listen_200 (by decide) ?_
      exact t_X10_listen_b28_k204 E q_t Q_t N (va_up (va_up (va_up F_t 32 v_14.1) 33 v_14.2.1) 36 v_14.2.2) x1 x2 x4 x5 v_27 x5 _ h hc he H locs ls hP hD hS (lv_sub hl [0, 1, 2, 4, 5, 6] rfl)
def x_X10_listen (N : Nat) (F_t : St) (x1 : Int32) : Option (Int32 × (Nat → Int32) × (Nat → Int32) × (Nat → Int32)) :=
  Option.bind (x_X10_isPlace F_t x1) (fun v_1 => if v_1 = 0 then (some ((-1000000001 : Int32), (F_t 32), (F_t 33), (F_t 36))) else (Option.bind (x_X10_crackedBy N F_t x1) (fun v_3 => Option.bind (x_X10_bits N v_3.1) (fun v_4 => Option.bind (lpc (fun (z : Int32 × Int32 × Int32 × (Nat → Int32) × (Nat → Int32) × (Nat → Int32)) => x_X10_listen_b28 N (va_up (va_up (va_up F_t 32 z.2.2.2.1) 33 z.2.2.2.2.1) 36 z.2.2.2.2.2) x1 v_3.1 z.1 z.2.1 z.2.2.1) N ((-1 : Int32), v_4, (0 : Int32), v_3.2.1, v_3.2.2, (F_t 36))) (fun v_29 => some (v_29.1, v_29.2.1, v_29.2.2.1, v_29.2.2.2))))))
set_option maxHeartbeats 4000000 in
set_option maxRecDepth 100000 in
theorem t_X10_listen {p : Program} {l : Launch} {e : Env} {s : State} {m : MethodId} {args : Array Value} {below : List Frame} {meth : Method} {c : Code} {g : gG} {A : Nat → Prop} (E : En p s m args meth c g A cX10_listen 10 (.code yX10_listen cX10_listen 10 (some .int) :: gW) RX10 (some .int)) (q_t : Nat) (Q_t : Ad) (N : Nat) (F_t : St) (x1 : Int32) (o : Int32 × (Nat → Int32) × (Nat → Int32) × (Nat → Int32)) (h : x_X10_listen N F_t x1 = some o) : WA p l e (rM 3 78) s m args below meth c g A (MQ below (QI g A o.1 [oX10 q_t Q_t (F_t 0 0) (F_t 2 0) (F_t 3 0) (F_t 4 0) (F_t 5 0) (F_t 6 0) (F_t 7 0) (F_t 8 0) (F_t 9 0) (F_t 10 0) (F_t 11 0) (F_t 12 0) (F_t 15 0) (F_t 16 0) (F_t 17 0) (F_t 23 0) (F_t 27 0) (F_t 28 0) (F_t 30 0), ia g (Q_t 18) 16 (F_t 18), ia g (Q_t 19) 30 (F_t 19), ia g (Q_t 20) 174 (F_t 20), ia g (Q_t 29) 18 (F_t 29), ia g (Q_t 32) 8 o.2.1, ia g (Q_t 33) 8 o.2.2.1, ia g (Q_t 36) 11 o.2.2.2]) args s 0 0 A) 10 0 [oX10 q_t Q_t (F_t 0 0) (F_t 2 0) (F_t 3 0) (F_t 4 0) (F_t 5 0) (F_t 6 0) (F_t 7 0) (F_t 8 0) (F_t 9 0) (F_t 10 0) (F_t 11 0) (F_t 12 0) (F_t 15 0) (F_t 16 0) (F_t 17 0) (F_t 23 0) (F_t 27 0) (F_t 28 0) (F_t 30 0), ia g (Q_t 18) 16 (F_t 18), ia g (Q_t 19) 30 (F_t 19), ia g (Q_t 20) 174 (F_t 20), ia g (Q_t 29) 18 (F_t 29), ia g (Q_t 32) 8 (F_t 32), ia g (Q_t 33) 8 (F_t 33), ia g (Q_t 36) 11 (F_t 36)] [(0, .ref q_t), (1, .int x1)] [] := by
  obtain ⟨⟨hx, hb, hml, hown, hts⟩, hr, hK, hA, hlk⟩ := id E
  intro H locs ls hP hD hS hl
  refine lv_aload_n hx hb dX10_listen_0 rfl (lv_at hl 0 rfl) ?_
  refine lv_iload_n hx hb dX10_listen_1 rfl (lv_at hl 1 rfl) ?_
  obtain ⟨v_1, hv_1, h⟩ := ox_bind h
  refine kVi ⟨hx, hb, hml, hown, hts⟩ (c_X10_isPlace l g q_t Q_t F_t x1 v_1 hv_1 H.size) (gV u_ml_X10_180 u_im_X10_isPlace u_se_X10_isPlace u_ini_X10 u_co_X10_isPlace) hd_X10_isPlace ⟨rfl, rfl⟩ hK hP hD hS hA 0 10 rfl rfl [0] [0, 2, 3, 4, 5, 6, 7, 8] rfl rfl 1 rfl (w2 := [oX10 q_t Q_t (F_t 0 0) (F_t 2 0) (F_t 3 0) (F_t 4 0) (F_t 5 0) (F_t 6 0) (F_t 7 0) (F_t 8 0) (F_t 9 0) (F_t 10 0) (F_t 11 0) (F_t 12 0) (F_t 15 0) (F_t 16 0) (F_t 17 0) (F_t 23 0) (F_t 27 0) (F_t 28 0) (F_t 30 0), ia g (Q_t 18) 16 (F_t 18), ia g (Q_t 19) 30 (F_t 19), ia g (Q_t 20) 174 (F_t 20), ia g (Q_t 29) 18 (F_t 29), ia g (Q_t 32) 8 (F_t 32), ia g (Q_t 33) 8 (F_t 33), ia g (Q_t 36) 11 (F_t 36)]) rfl rfl (As := [.int x1]) (rest := []) rfl hl.1 rfl rfl dX10_listen_2 (fun H locs hP hD hS => ?_)
  refine lv_if_ne (tgt := 11) hx hb dX10_listen_5 (by decide) (fun c_2 => ?_) (fun c_2 => ?_)
  · have h := ox_f c_2 h
    refine lv_aload_n hx hb dX10_listen_11 rfl (lv_at hl 0 rfl) ?_
    refine lv_iload_n hx hb dX10_listen_12 rfl (lv_at hl 1 rfl) ?_
    obtain ⟨v_3, hv_3, h⟩ := ox_bind h
    refine kVi ⟨hx, hb, hml, hown, hts⟩ (c_X10_crackedBy l g q_t Q_t N F_t x1 v_3 hv_3 H.size) (gV u_ml_X10_249 u_im_X10_crackedBy u_se_X10_crackedBy u_ini_X10 u_co_X10_crackedBy) hd_X10_crackedBy ⟨rfl, rfl⟩ hK hP hD hS hA 0 10 rfl rfl [0, 1, 2, 3, 4, 5, 6] [0, 1, 2, 3, 4, 5, 6, 14] rfl rfl 7 rfl (w2 := [oX10 q_t Q_t (F_t 0 0) (F_t 2 0) (F_t 3 0) (F_t 4 0) (F_t 5 0) (F_t 6 0) (F_t 7 0) (F_t 8 0) (F_t 9 0) (F_t 10 0) (F_t 11 0) (F_t 12 0) (F_t 15 0) (F_t 16 0) (F_t 17 0) (F_t 23 0) (F_t 27 0) (F_t 28 0) (F_t 30 0), ia g (Q_t 18) 16 (F_t 18), ia g (Q_t 19) 30 (F_t 19), ia g (Q_t 20) 174 (F_t 20), ia g (Q_t 29) 18 (F_t 29), ia g (Q_t 32) 8 v_3.2.1, ia g (Q_t 33) 8 v_3.2.2, ia g (Q_t 36) 11 (F_t 36)]) rfl rfl (As := [.int x1]) (rest := []) rfl hl.1 rfl rfl dX10_listen_13 (fun H locs hP hD hS => ?_)
    refine lv_istore_n (lv' := [(2, .int v_3.1), (0, .ref q_t), (1, .int x1)]) hx hb dX10_listen_16 rfl hl (by decide) rfl (fun ls hl => ?_)
    refine lv_iconst (v := (-1 : Int32)) hx hb dX10_listen_17 (by decide) ?_
    refine lv_istore_n (lv' := [(3, .int (-1 : Int32)), (2, .int v_3.1), (0, .ref q_t), (1, .int x1)]) hx hb dX10_listen_18 rfl hl (by decide) rfl (fun ls hl => ?_)
    refine lv_iload_n hx hb dX10_listen_19 rfl (lv_at hl 1 rfl) ?_
    obtain ⟨v_4, hv_4, h⟩ := ox_bind h
    refine kSi ⟨hx, hb, hml, hown, hts⟩ (c_X10_bits l g N v_3.1 v_4 hv_4 H.size) (gS u_ml_X10_168 u_st_X10_bits u_ini_X10 u_co_X10_bits) hd_X10_bits ⟨rfl, rfl⟩ hK hP hD hS hA [] [0, 1, 2, 3, 4, 5, 6, 7] rfl rfl 0 rfl (w2 := [oX10 q_t Q_t (F_t 0 0) (F_t 2 0) (F_t 3 0) (F_t 4 0) (F_t 5 0) (F_t 6 0) (F_t 7 0) (F_t 8 0) (F_t 9 0) (F_t 10 0) (F_t 11 0) (F_t 12 0) (F_t 15 0) (F_t 16 0) (F_t 17 0) (F_t 23 0) (F_t 27 0) (F_t 28 0) (F_t 30 0), ia g (Q_t 18) 16 (F_t 18), ia g (Q_t 19) 30 (F_t 19), ia g (Q_t 20) 174 (F_t 20), ia g (Q_t 29) 18 (F_t 29), ia g (Q_t 32) 8 v_3.2.1, ia g (Q_t 33) 8 v_3.2.2, ia g (Q_t 36) 11 (F_t 36)]) rfl rfl (As := [.int v_3.1]) (rest := []) rfl hl.1 rfl rfl dX10_listen_20 (fun H locs hP hD hS => ?_)
    refine lv_istore (lv' := [(4, .int v_4), (3, .int (-1 : Int32)), (2, .int v_3.1), (0, .ref q_t), (1, .int x1)]) hx hb dX10_listen_23 hl (by decide) rfl (fun ls hl => ?_)
    refine lv_iconst (v := (0 : Int32)) hx hb dX10_listen_25 (by decide) ?_
    refine lv_istore (lv' := [(5, .int (0 : Int32)), (4, .int v_4), (3, .int (-1 : Int32)), (2, .int v_3.1), (0, .ref q_t), (1, .int x1)]) hx hb dX10_listen_26 hl (by decide) rfl (fun ls hl => ?_)
    obtain ⟨v_29, hv_29, h⟩ := ox_bind h
    refine lpc_W (Wh := fun (z : Int32 × Int32 × Int32 × (Nat → Int32) × (Nat → Int32) × (Nat → Int32)) => WA p l e (rM 3 78) s m args below meth c g A (MQ below (QI g A o.1 [oX10 q_t Q_t (F_t 0 0) (F_t 2 0) (F_t 3 0) (F_t 4 0) (F_t 5 0) (F_t 6 0) (F_t 7 0) (F_t 8 0) (F_t 9 0) (F_t 10 0) (F_t 11 0) (F_t 12 0) (F_t 15 0) (F_t 16 0) (F_t 17 0) (F_t 23 0) (F_t 27 0) (F_t 28 0) (F_t 30 0), ia g (Q_t 18) 16 (F_t 18), ia g (Q_t 19) 30 (F_t 19), ia g (Q_t 20) 174 (F_t 20), ia g (Q_t 29) 18 (F_t 29), ia g (Q_t 32) 8 o.2.1, ia g (Q_t 33) 8 o.2.2.1, ia g (Q_t 36) 11 o.2.2.2]) args s 0 0 A) 10 28 [oX10 q_t Q_t (F_t 0 0) (F_t 2 0) (F_t 3 0) (F_t 4 0) (F_t 5 0) (F_t 6 0) (F_t 7 0) (F_t 8 0) (F_t 9 0) (F_t 10 0) (F_t 11 0) (F_t 12 0) (F_t 15 0) (F_t 16 0) (F_t 17 0) (F_t 23 0) (F_t 27 0) (F_t 28 0) (F_t 30 0), ia g (Q_t 18) 16 (F_t 18), ia g (Q_t 19) 30 (F_t 19), ia g (Q_t 20) 174 (F_t 20), ia g (Q_t 29) 18 (F_t 29), ia g (Q_t 32) 8 z.2.2.2.1, ia g (Q_t 33) 8 z.2.2.2.2.1, ia g (Q_t 36) 11 z.2.2.2.2.2] [(0, .ref q_t), (1, .int x1), (2, .int v_3.1), (3, .int z.1), (4, .int z.2.1), (5, .int z.2.2.1)] []) (We := fun (v : Int32 × (Nat → Int32) × (Nat → Int32) × (Nat → Int32)) => WA p l e (rM 3 78) s m args below meth c g A (MQ below (QI g A o.1 [oX10 q_t Q_t (F_t 0 0) (F_t 2 0) (F_t 3 0) (F_t 4 0) (F_t 5 0) (F_t 6 0) (F_t 7 0) (F_t 8 0) (F_t 9 0) (F_t 10 0) (F_t 11 0) (F_t 12 0) (F_t 15 0) (F_t 16 0) (F_t 17 0) (F_t 23 0) (F_t 27 0) (F_t 28 0) (F_t 30 0), ia g (Q_t 18) 16 (F_t 18), ia g (Q_t 19) 30 (F_t 19), ia g (Q_t 20) 174 (F_t 20), ia g (Q_t 29) 18 (F_t 29), ia g (Q_t 32) 8 o.2.1, ia g (Q_t 33) 8 o.2.2.1, ia g (Q_t 36) 11 o.2.2.2]) args s 0 0 A) 10 227 [oX10 q_t Q_t (F_t 0 0) (F_t 2 0) (F_t 3 0) (F_t 4 0) (F_t 5 0) (F_t 6 0) (F_t 7 0) (F_t 8 0) (F_t 9 0) (F_t 10 0) (F_t 11 0) (F_t 12 0) (F_t 15 0) (F_t 16 0) (F_t 17 0) (F_t 23 0) (F_t 27 0) (F_t 28 0) (F_t 30 0), ia g (Q_t 18) 16 (F_t 18), ia g (Q_t 19) 30 (F_t 19), ia g (Q_t 20) 174 (F_t 20), ia g (Q_t 29) 18 (F_t 29), ia g (Q_t 32) 8 v.2.1, ia g (Q_t 33) 8 v.2.2.1, ia g (Q_t 36) 11 v.2.2.2] [(3, .int v.1)] []) (fun z r hb hc he => t_X10_listen_b28 E q_t Q_t N (va_up (va_up (va_up F_t 32 z.2.2.2.1) 33 z.2.2.2.2.1) 36 z.2.2.2.2.2) x1 v_3.1 z.1 z.2.1 z.2.2.1 r hb hc he) N ((-1 : Int32), v_4, (0 : Int32), v_3.2.1, v_3.2.2, (F_t 36)) v_29 hv_29 ?_ H locs ls hP hD hS (lv_sub hl [4, 5, 3, 2, 1, 0] rfl)
    intro H locs ls hP hD hS hl
    refine lv_iload_n hx hb dX10_listen_227 rfl (lv_at hl 0 rfl) ?_
    obtain rfl := Option.some.inj h
    exact k_iret hx hb hr hlk hP hD hS dX10_listen_228
  · have h := ox_t c_2 h
    refine lv_ldc (v := (-1000000001 : Int32)) hx hb hown (hts _ (.tail _ u_k_X10_183)) dX10_listen_8 ?_
    obtain rfl := Option.some.inj h
    exact k_iret hx hb hr hlk hP hD hS dX10_listen_10
set_option maxRecDepth 100000 in
theorem c_X10_listen (l : Launch) (g : gG) (q_t : Nat) (Q_t : Ad) (N : Nat) (F_t : St) (x1 : Int32) (o : Int32 × (Nat → Int32) × (Nat → Int32) × (Nat → Int32)) (h : x_X10_listen N F_t x1 = some o) (sz : Nat) : MetI l yX10_listen (.code yX10_listen cX10_listen 10 (some .int) :: gW) 3 78 [.ref q_t, .int x1] o.1 g [oX10 q_t Q_t (F_t 0 0) (F_t 2 0) (F_t 3 0) (F_t 4 0) (F_t 5 0) (F_t 6 0) (F_t 7 0) (F_t 8 0) (F_t 9 0) (F_t 10 0) (F_t 11 0) (F_t 12 0) (F_t 15 0) (F_t 16 0) (F_t 17 0) (F_t 23 0) (F_t 27 0) (F_t 28 0) (F_t 30 0), ia g (Q_t 18) 16 (F_t 18), ia g (Q_t 19) 30 (F_t 19), ia g (Q_t 20) 174 (F_t 20), ia g (Q_t 29) 18 (F_t 29), ia g (Q_t 32) 8 (F_t 32), ia g (Q_t 33) 8 (F_t 33), ia g (Q_t 36) 11 (F_t 36)] [oX10 q_t Q_t (F_t 0 0) (F_t 2 0) (F_t 3 0) (F_t 4 0) (F_t 5 0) (F_t 6 0) (F_t 7 0) (F_t 8 0) (F_t 9 0) (F_t 10 0) (F_t 11 0) (F_t 12 0) (F_t 15 0) (F_t 16 0) (F_t 17 0) (F_t 23 0) (F_t 27 0) (F_t 28 0) (F_t 30 0), ia g (Q_t 18) 16 (F_t 18), ia g (Q_t 19) 30 (F_t 19), ia g (Q_t 20) 174 (F_t 20), ia g (Q_t 29) 18 (F_t 29), ia g (Q_t 32) 8 o.2.1, ia g (Q_t 33) 8 o.2.2.1, ia g (Q_t 36) 11 o.2.2.2] sz :=
  mkI (av := [.ref q_t, .int x1]) (by decide +kernel) rfl (fun p e s m below meth c A E H locs ls hP hD hS hl => t_X10_listen E q_t Q_t N F_t x1 o h H locs ls hP hD hS hl) sz
def x_X10_write (F_t : St) (x1 : Int32) (x2 : Int32) : Option (Int32 × Int32 × (Nat → Int32)) :=
  Option.bind (x_X10_isPlace F_t x1) (fun v_1 => if v_1 = 0 then (some ((-1000000001 : Int32), (F_t 30 0), (F_t 31))) else (Option.bind (x_X10_in x2 (0 : Int32) (255 : Int32)) (fun v_3 => if v_3 = 0 then (some ((-1000000002 : Int32), (F_t 30 0), (F_t 31))) else (if (F_t 30 0) = (15 : Int32) then (some ((-1000000004 : Int32), (F_t 30 0), (F_t 31))) else (if ((2 : Int32) * (F_t 30 0)) < 0 ∨ 30 ≤ ((2 : Int32) * (F_t 30 0)).toNatClampNeg then none else if (((2 : Int32) * (F_t 30 0)) + (1 : Int32)) < 0 ∨ 30 ≤ (((2 : Int32) * (F_t 30 0)) + (1 : Int32)).toNatClampNeg then none else xl ((F_t 30 0) + (1 : Int32)) (fun y_8 => some (y_8, y_8, (upd (upd (F_t 31) ((2 : Int32) * (F_t 30 0)).toNatClampNeg x1) (((2 : Int32) * (F_t 30 0)) + (1 : Int32)).toNatClampNeg x2))))))))
set_option maxHeartbeats 4000000 in
set_option maxRecDepth 100000 in
theorem t_X10_write {p : Program} {l : Launch} {e : Env} {s : State} {m : MethodId} {args : Array Value} {below : List Frame} {meth : Method} {c : Code} {g : gG} {A : Nat → Prop} (E : En p s m args meth c g A cX10_write 3 (.code yX10_write cX10_write 3 (some .int) :: gW) RX10 (some .int)) (q_t : Nat) (Q_t : Ad) (F_t : St) (x1 : Int32) (x2 : Int32) (o : Int32 × Int32 × (Nat → Int32)) (h : x_X10_write F_t x1 x2 = some o) : WA p l e (rM 2 43) s m args below meth c g A (MQ below (QI g A o.1 [oX10 q_t Q_t (F_t 0 0) (F_t 2 0) (F_t 3 0) (F_t 4 0) (F_t 5 0) (F_t 6 0) (F_t 7 0) (F_t 8 0) (F_t 9 0) (F_t 10 0) (F_t 11 0) (F_t 12 0) (F_t 15 0) (F_t 16 0) (F_t 17 0) (F_t 23 0) (F_t 27 0) (F_t 28 0) o.2.1, ia g (Q_t 31) 30 o.2.2]) args s 0 0 A) 3 0 [oX10 q_t Q_t (F_t 0 0) (F_t 2 0) (F_t 3 0) (F_t 4 0) (F_t 5 0) (F_t 6 0) (F_t 7 0) (F_t 8 0) (F_t 9 0) (F_t 10 0) (F_t 11 0) (F_t 12 0) (F_t 15 0) (F_t 16 0) (F_t 17 0) (F_t 23 0) (F_t 27 0) (F_t 28 0) (F_t 30 0), ia g (Q_t 31) 30 (F_t 31)] [(0, .ref q_t), (1, .int x1), (2, .int x2)] [] := by
  obtain ⟨⟨hx, hb, hml, hown, hts⟩, hr, hK, hA, hlk⟩ := id E
  intro H locs ls hP hD hS hl
  refine lv_aload_n hx hb dX10_write_0 rfl (lv_at hl 0 rfl) ?_
  refine lv_iload_n hx hb dX10_write_1 rfl (lv_at hl 1 rfl) ?_
  obtain ⟨v_1, hv_1, h⟩ := ox_bind h
  refine kVi ⟨hx, hb, hml, hown, hts⟩ (c_X10_isPlace l g q_t Q_t F_t x1 v_1 hv_1 H.size) (gV u_ml_X10_180 u_im_X10_isPlace u_se_X10_isPlace u_ini_X10 u_co_X10_isPlace) hd_X10_isPlace ⟨rfl, rfl⟩ hK hP hD hS hA 0 10 rfl rfl [0] [0, 2] rfl rfl 1 rfl (w2 := [oX10 q_t Q_t (F_t 0 0) (F_t 2 0) (F_t 3 0) (F_t 4 0) (F_t 5 0) (F_t 6 0) (F_t 7 0) (F_t 8 0) (F_t 9 0) (F_t 10 0) (F_t 11 0) (F_t 12 0) (F_t 15 0) (F_t 16 0) (F_t 17 0) (F_t 23 0) (F_t 27 0) (F_t 28 0) (F_t 30 0), ia g (Q_t 31) 30 (F_t 31)]) rfl rfl (As := [.int x1]) (rest := []) rfl hl.1 rfl rfl dX10_write_2 (fun H locs hP hD hS => ?_)
  refine lv_if_ne (tgt := 11) hx hb dX10_write_5 (by decide) (fun c_2 => ?_) (fun c_2 => ?_)
  · have h := ox_f c_2 h
    refine lv_iload_n hx hb dX10_write_11 rfl (lv_at hl 2 rfl) ?_
    refine lv_iconst (v := (0 : Int32)) hx hb dX10_write_12 (by decide) ?_
    refine lv_sipush (v := (255 : Int32)) hx hb dX10_write_13 (by decide) ?_
    obtain ⟨v_3, hv_3, h⟩ := ox_bind h
    refine kSi ⟨hx, hb, hml, hown, hts⟩ (c_X10_in l g x2 (0 : Int32) (255 : Int32) v_3 hv_3 H.size) (gS u_ml_X10_83 u_st_X10_in u_ini_X10 u_co_X10_in) hd_X10_in ⟨rfl, rfl⟩ hK hP hD hS hA [] [0, 1] rfl rfl 0 rfl (w2 := [oX10 q_t Q_t (F_t 0 0) (F_t 2 0) (F_t 3 0) (F_t 4 0) (F_t 5 0) (F_t 6 0) (F_t 7 0) (F_t 8 0) (F_t 9 0) (F_t 10 0) (F_t 11 0) (F_t 12 0) (F_t 15 0) (F_t 16 0) (F_t 17 0) (F_t 23 0) (F_t 27 0) (F_t 28 0) (F_t 30 0), ia g (Q_t 31) 30 (F_t 31)]) rfl rfl (As := [.int x2, .int (0 : Int32), .int (255 : Int32)]) (rest := []) rfl hl.1 rfl rfl dX10_write_16 (fun H locs hP hD hS => ?_)
    refine lv_if_ne (tgt := 25) hx hb dX10_write_19 (by decide) (fun c_4 => ?_) (fun c_4 => ?_)
    · have h := ox_f c_4 h
      refine lv_aload_n hx hb dX10_write_25 rfl (lv_at hl 0 rfl) ?_
      refine va_get (ci := 10) (v := .int (F_t 30 0)) (C := RX10) (T := TX10) (N := 38) hx hb hts (fun w h => .tail _ (u_inX10 w h)) hown hK.1 hP 0 rfl rfl 30 (by decide) (hts _ (.tail _ u_fl_X10_162)) (fun _ h9 => h9) rfl dX10_write_26 ?_
      refine lv_bipush (v := (15 : Int32)) hx hb dX10_write_29 (by decide) ?_
      refine lv_icmp_ne (tgt := 37) hx hb dX10_write_31 (by decide) (fun c_5 => ?_) (fun c_5 => ?_)
      · have h := ox_f c_5 h
        refine lv_aload_n hx hb dX10_write_37 rfl (lv_at hl 0 rfl) ?_
        refine va_get (ci := 10) (v := .ref (Q_t 31)) (C := RX10) (T := TX10) (N := 38) hx hb hts (fun w h => .tail _ (u_inX10 w h)) hown hK.1 hP 0 rfl rfl 31 (by decide) (hts _ (.tail _ u_fl_X10_51)) (fun _ h9 => h9) rfl dX10_write_38 ?_
        refine lv_iconst (v := (2 : Int32)) hx hb dX10_write_41 (by decide) ?_
        refine lv_aload_n hx hb dX10_write_42 rfl (lv_at hl 0 rfl) ?_
        refine va_get (ci := 10) (v := .int (F_t 30 0)) (C := RX10) (T := TX10) (N := 38) hx hb hts (fun w h => .tail _ (u_inX10 w h)) hown hK.1 hP 0 rfl rfl 30 (by decide) (hts _ (.tail _ u_fl_X10_162)) (fun _ h9 => h9) rfl dX10_write_43 ?_
        refine lv_imul hx hb dX10_write_46 ?_
        refine lv_iload_n hx hb dX10_write_47 rfl (lv_at hl 1 rfl) ?_
        obtain ⟨hi_6, h⟩ := ox_chk h
        refine va_iast hx hb hK.1 hP hD hS 1 0 rfl rfl hi_6 dX10_write_48 (fun H locs hP hD hS => ?_)
        have hP : va_P g.1 vwCl [oX10 q_t Q_t (F_t 0 0) (F_t 2 0) (F_t 3 0) (F_t 4 0) (F_t 5 0) (F_t 6 0) (F_t 7 0) (F_t 8 0) (F_t 9 0) (F_t 10 0) (F_t 11 0) (F_t 12 0) (F_t 15 0) (F_t 16 0) (F_t 17 0) (F_t 23 0) (F_t 27 0) (F_t 28 0) (F_t 30 0), ia g (Q_t 31) 30 (upd (F_t 31) ((2 : Int32) * (F_t 30 0)).toNatClampNeg x1)] H := hP
        have hD : va_D A [oX10 q_t Q_t (F_t 0 0) (F_t 2 0) (F_t 3 0) (F_t 4 0) (F_t 5 0) (F_t 6 0) (F_t 7 0) (F_t 8 0) (F_t 9 0) (F_t 10 0) (F_t 11 0) (F_t 12 0) (F_t 15 0) (F_t 16 0) (F_t 17 0) (F_t 23 0) (F_t 27 0) (F_t 28 0) (F_t 30 0), ia g (Q_t 31) 30 (upd (F_t 31) ((2 : Int32) * (F_t 30 0)).toNatClampNeg x1)] := hD
        refine lv_aload_n hx hb dX10_write_49 rfl (lv_at hl 0 rfl) ?_
        refine va_get (ci := 10) (v := .ref (Q_t 31)) (C := RX10) (T := TX10) (N := 38) hx hb hts (fun w h => .tail _ (u_inX10 w h)) hown hK.1 hP 0 rfl rfl 31 (by decide) (hts _ (.tail _ u_fl_X10_51)) (fun _ h9 => h9) rfl dX10_write_50 ?_
        refine lv_iconst (v := (2 : Int32)) hx hb dX10_write_53 (by decide) ?_
        refine lv_aload_n hx hb dX10_write_54 rfl (lv_at hl 0 rfl) ?_
        refine va_get (ci := 10) (v := .int (F_t 30 0)) (C := RX10) (T := TX10) (N := 38) hx hb hts (fun w h => .tail _ (u_inX10 w h)) hown hK.1 hP 0 rfl rfl 30 (by decide) (hts _ (.tail _ u_fl_X10_162)) (fun _ h9 => h9) rfl dX10_write_55 ?_
        refine lv_imul hx hb dX10_write_58 ?_
        refine lv_iconst (v := (1 : Int32)) hx hb dX10_write_59 (by decide) ?_
        refine lv_iadd hx hb dX10_write_60 ?_
        refine lv_iload_n hx hb dX10_write_61 rfl (lv_at hl 2 rfl) ?_
        obtain ⟨hi_7, h⟩ := ox_chk h
        refine va_iast hx hb hK.1 hP hD hS 1 0 rfl rfl hi_7 dX10_write_62 (fun H locs hP hD hS => ?_)
        have hP : va_P g.1 vwCl [oX10 q_t Q_t (F_t 0 0) (F_t 2 0) (F_t 3 0) (F_t 4 0) (F_t 5 0) (F_t 6 0) (F_t 7 0) (F_t 8 0) (F_t 9 0) (F_t 10 0) (F_t 11 0) (F_t 12 0) (F_t 15 0) (F_t 16 0) (F_t 17 0) (F_t 23 0) (F_t 27 0) (F_t 28 0) (F_t 30 0), ia g (Q_t 31) 30 (upd (upd (F_t 31) ((2 : Int32) * (F_t 30 0)).toNatClampNeg x1) (((2 : Int32) * (F_t 30 0)) + (1 : Int32)).toNatClampNeg x2)] H := hP
        have hD : va_D A [oX10 q_t Q_t (F_t 0 0) (F_t 2 0) (F_t 3 0) (F_t 4 0) (F_t 5 0) (F_t 6 0) (F_t 7 0) (F_t 8 0) (F_t 9 0) (F_t 10 0) (F_t 11 0) (F_t 12 0) (F_t 15 0) (F_t 16 0) (F_t 17 0) (F_t 23 0) (F_t 27 0) (F_t 28 0) (F_t 30 0), ia g (Q_t 31) 30 (upd (upd (F_t 31) ((2 : Int32) * (F_t 30 0)).toNatClampNeg x1) (((2 : Int32) * (F_t 30 0)) + (1 : Int32)).toNatClampNeg x2)] := hD
        refine lv_aload_n hx hb dX10_write_63 rfl (lv_at hl 0 rfl) ?_
        refine lv_dup hx hb dX10_write_64 rfl ?_
        refine va_get (ci := 10) (v := .int (F_t 30 0)) (C := RX10) (T := TX10) (N := 38) hx hb hts (fun w h => .tail _ (u_inX10 w h)) hown hK.1 hP 0 rfl rfl 30 (by decide) (hts _ (.tail _ u_fl_X10_162)) (fun _ h9 => h9) rfl dX10_write_65 ?_
        refine lv_iconst (v := (1 : Int32)) hx hb dX10_write_68 (by decide) ?_
        refine lv_iadd hx hb dX10_write_69 ?_
        refine lv_topi (fun y_8 ey_8 => ?_)
        have h := xl_at ey_8 h
        refine va_put (ci := 10) (v := .int y_8) (ty := .int) (C := RX10) (T := TX10) (N := 38) hx hb hts (fun w h => .tail _ (u_inX10 w h)) tyX10 tyX10_ok nmX10 hown hK.1 hP hD hS 0 rfl rfl 30 (by decide) (hts _ (.tail _ u_fl_X10_162)) (fun _ h9 => h9) rfl (tyX10_ok 30 (by decide)) rfl rfl (Nat.le_of_ble_eq_true rfl) dX10_write_70 (fun H locs hP hD hS => ?_)
        have hP : va_P g.1 vwCl [oX10 q_t Q_t (F_t 0 0) (F_t 2 0) (F_t 3 0) (F_t 4 0) (F_t 5 0) (F_t 6 0) (F_t 7 0) (F_t 8 0) (F_t 9 0) (F_t 10 0) (F_t 11 0) (F_t 12 0) (F_t 15 0) (F_t 16 0) (F_t 17 0) (F_t 23 0) (F_t 27 0) (F_t 28 0) y_8, ia g (Q_t 31) 30 (upd (upd (F_t 31) ((2 : Int32) * (F_t 30 0)).toNatClampNeg x1) (((2 : Int32) * (F_t 30 0)) + (1 : Int32)).toNatClampNeg x2)] H := hP
        have hD : va_D A [oX10 q_t Q_t (F_t 0 0) (F_t 2 0) (F_t 3 0) (F_t 4 0) (F_t 5 0) (F_t 6 0) (F_t 7 0) (F_t 8 0) (F_t 9 0) (F_t 10 0) (F_t 11 0) (F_t 12 0) (F_t 15 0) (F_t 16 0) (F_t 17 0) (F_t 23 0) (F_t 27 0) (F_t 28 0) y_8, ia g (Q_t 31) 30 (upd (upd (F_t 31) ((2 : Int32) * (F_t 30 0)).toNatClampNeg x1) (((2 : Int32) * (F_t 30 0)) + (1 : Int32)).toNatClampNeg x2)] := hD
        refine lv_aload_n hx hb dX10_write_73 rfl (lv_at hl 0 rfl) ?_
        refine va_get (ci := 10) (v := .int y_8) (C := RX10) (T := TX10) (N := 38) hx hb hts (fun w h => .tail _ (u_inX10 w h)) hown hK.1 hP 0 rfl rfl 30 (by decide) (hts _ (.tail _ u_fl_X10_162)) (fun _ h9 => h9) rfl dX10_write_74 ?_
        obtain rfl := Option.some.inj h
        exact k_iret hx hb hr hlk hP hD hS dX10_write_77
      · have h := ox_t c_5 h
        refine lv_ldc (v := (-1000000004 : Int32)) hx hb hown (hts _ (.tail _ u_k_X10_94)) dX10_write_34 ?_
        obtain rfl := Option.some.inj h
        exact k_iret hx hb hr hlk hP hD hS dX10_write_36
    · have h := ox_t c_4 h
      refine lv_ldc (v := (-1000000002 : Int32)) hx hb hown (hts _ (.tail _ u_k_X10_90)) dX10_write_22 ?_
      obtain rfl := Option.some.inj h
      exact k_iret hx hb hr hlk hP hD hS dX10_write_24
  · have h := ox_t c_2 h
    refine lv_ldc (v := (-1000000001 : Int32)) hx hb hown (hts _ (.tail _ u_k_X10_183)) dX10_write_8 ?_
    obtain rfl := Option.some.inj h
    exact k_iret hx hb hr hlk hP hD hS dX10_write_10
set_option maxRecDepth 100000 in
theorem c_X10_write (l : Launch) (g : gG) (q_t : Nat) (Q_t : Ad) (F_t : St) (x1 : Int32) (x2 : Int32) (o : Int32 × Int32 × (Nat → Int32)) (h : x_X10_write F_t x1 x2 = some o) (sz : Nat) : MetI l yX10_write (.code yX10_write cX10_write 3 (some .int) :: gW) 2 43 [.ref q_t, .int x1, .int x2] o.1 g [oX10 q_t Q_t (F_t 0 0) (F_t 2 0) (F_t 3 0) (F_t 4 0) (F_t 5 0) (F_t 6 0) (F_t 7 0) (F_t 8 0) (F_t 9 0) (F_t 10 0) (F_t 11 0) (F_t 12 0) (F_t 15 0) (F_t 16 0) (F_t 17 0) (F_t 23 0) (F_t 27 0) (F_t 28 0) (F_t 30 0), ia g (Q_t 31) 30 (F_t 31)] [oX10 q_t Q_t (F_t 0 0) (F_t 2 0) (F_t 3 0) (F_t 4 0) (F_t 5 0) (F_t 6 0) (F_t 7 0) (F_t 8 0) (F_t 9 0) (F_t 10 0) (F_t 11 0) (F_t 12 0) (F_t 15 0) (F_t 16 0) (F_t 17 0) (F_t 23 0) (F_t 27 0) (F_t 28 0) o.2.1, ia g (Q_t 31) 30 o.2.2] sz :=
  mkI (av := [.ref q_t, .int x1, .int x2]) (by decide +kernel) rfl (fun p e s m below meth c A E H locs ls hP hD hS hl => t_X10_write E q_t Q_t F_t x1 x2 o h H locs ls hP hD hS hl) sz
def x_X10_tear (F_t : St) : Option (Int32 × Int32 × Int32) :=
  xl ((F_t 28 0) + (F_t 30 0)) (fun y_1 => some (y_1, (0 : Int32), (0 : Int32)))
set_option maxHeartbeats 4000000 in
set_option maxRecDepth 100000 in
theorem t_X10_tear {p : Program} {l : Launch} {e : Env} {s : State} {m : MethodId} {args : Array Value} {below : List Frame} {meth : Method} {c : Code} {g : gG} {A : Nat → Prop} (E : En p s m args meth c g A cX10_tear 2 (.code yX10_tear cX10_tear 2 (some .int) :: gW) RX10 (some .int)) (q_t : Nat) (Q_t : Ad) (F_t : St) (o : Int32 × Int32 × Int32) (h : x_X10_tear F_t = some o) : WA p l e (rM 0 0) s m args below meth c g A (MQ below (QI g A o.1 [oX10 q_t Q_t (F_t 0 0) (F_t 2 0) (F_t 3 0) (F_t 4 0) (F_t 5 0) (F_t 6 0) (F_t 7 0) (F_t 8 0) (F_t 9 0) (F_t 10 0) (F_t 11 0) (F_t 12 0) (F_t 15 0) (F_t 16 0) (F_t 17 0) (F_t 23 0) (F_t 27 0) o.2.1 o.2.2]) args s 0 0 A) 2 0 [oX10 q_t Q_t (F_t 0 0) (F_t 2 0) (F_t 3 0) (F_t 4 0) (F_t 5 0) (F_t 6 0) (F_t 7 0) (F_t 8 0) (F_t 9 0) (F_t 10 0) (F_t 11 0) (F_t 12 0) (F_t 15 0) (F_t 16 0) (F_t 17 0) (F_t 23 0) (F_t 27 0) (F_t 28 0) (F_t 30 0)] [(0, .ref q_t)] [] := by
  obtain ⟨⟨hx, hb, hml, hown, hts⟩, hr, hK, hA, hlk⟩ := id E
  intro H locs ls hP hD hS hl
  refine lv_aload_n hx hb dX10_tear_0 rfl (lv_at hl 0 rfl) ?_
  refine va_get (ci := 10) (v := .int (F_t 28 0)) (C := RX10) (T := TX10) (N := 38) hx hb hts (fun w h => .tail _ (u_inX10 w h)) hown hK.1 hP 0 rfl rfl 28 (by decide) (hts _ (.tail _ u_fl_X10_159)) (fun _ h9 => h9) rfl dX10_tear_1 ?_
  refine lv_aload_n hx hb dX10_tear_4 rfl (lv_at hl 0 rfl) ?_
  refine va_get (ci := 10) (v := .int (F_t 30 0)) (C := RX10) (T := TX10) (N := 38) hx hb hts (fun w h => .tail _ (u_inX10 w h)) hown hK.1 hP 0 rfl rfl 30 (by decide) (hts _ (.tail _ u_fl_X10_162)) (fun _ h9 => h9) rfl dX10_tear_5 ?_
  refine lv_iadd hx hb dX10_tear_8 ?_
  refine lv_topi (fun y_1 ey_1 => ?_)
  have h := xl_at ey_1 h
  refine lv_istore_n (lv' := [(1, .int y_1), (0, .ref q_t)]) hx hb dX10_tear_9 rfl hl (by decide) rfl (fun ls hl => ?_)
  refine lv_aload_n hx hb dX10_tear_10 rfl (lv_at hl 1 rfl) ?_
  refine lv_iconst (v := (0 : Int32)) hx hb dX10_tear_11 (by decide) ?_
  refine va_put (ci := 10) (v := .int (0 : Int32)) (ty := .int) (C := RX10) (T := TX10) (N := 38) hx hb hts (fun w h => .tail _ (u_inX10 w h)) tyX10 tyX10_ok nmX10 hown hK.1 hP hD hS 0 rfl rfl 28 (by decide) (hts _ (.tail _ u_fl_X10_159)) (fun _ h9 => h9) rfl (tyX10_ok 28 (by decide)) rfl rfl (Nat.le_of_ble_eq_true rfl) dX10_tear_12 (fun H locs hP hD hS => ?_)
  have hP : va_P g.1 vwCl [oX10 q_t Q_t (F_t 0 0) (F_t 2 0) (F_t 3 0) (F_t 4 0) (F_t 5 0) (F_t 6 0) (F_t 7 0) (F_t 8 0) (F_t 9 0) (F_t 10 0) (F_t 11 0) (F_t 12 0) (F_t 15 0) (F_t 16 0) (F_t 17 0) (F_t 23 0) (F_t 27 0) (0 : Int32) (F_t 30 0)] H := hP
  have hD : va_D A [oX10 q_t Q_t (F_t 0 0) (F_t 2 0) (F_t 3 0) (F_t 4 0) (F_t 5 0) (F_t 6 0) (F_t 7 0) (F_t 8 0) (F_t 9 0) (F_t 10 0) (F_t 11 0) (F_t 12 0) (F_t 15 0) (F_t 16 0) (F_t 17 0) (F_t 23 0) (F_t 27 0) (0 : Int32) (F_t 30 0)] := hD
  refine lv_aload_n hx hb dX10_tear_15 rfl (lv_at hl 1 rfl) ?_
  refine lv_iconst (v := (0 : Int32)) hx hb dX10_tear_16 (by decide) ?_
  refine va_put (ci := 10) (v := .int (0 : Int32)) (ty := .int) (C := RX10) (T := TX10) (N := 38) hx hb hts (fun w h => .tail _ (u_inX10 w h)) tyX10 tyX10_ok nmX10 hown hK.1 hP hD hS 0 rfl rfl 30 (by decide) (hts _ (.tail _ u_fl_X10_162)) (fun _ h9 => h9) rfl (tyX10_ok 30 (by decide)) rfl rfl (Nat.le_of_ble_eq_true rfl) dX10_tear_17 (fun H locs hP hD hS => ?_)
  have hP : va_P g.1 vwCl [oX10 q_t Q_t (F_t 0 0) (F_t 2 0) (F_t 3 0) (F_t 4 0) (F_t 5 0) (F_t 6 0) (F_t 7 0) (F_t 8 0) (F_t 9 0) (F_t 10 0) (F_t 11 0) (F_t 12 0) (F_t 15 0) (F_t 16 0) (F_t 17 0) (F_t 23 0) (F_t 27 0) (0 : Int32) (0 : Int32)] H := hP
  have hD : va_D A [oX10 q_t Q_t (F_t 0 0) (F_t 2 0) (F_t 3 0) (F_t 4 0) (F_t 5 0) (F_t 6 0) (F_t 7 0) (F_t 8 0) (F_t 9 0) (F_t 10 0) (F_t 11 0) (F_t 12 0) (F_t 15 0) (F_t 16 0) (F_t 17 0) (F_t 23 0) (F_t 27 0) (0 : Int32) (0 : Int32)] := hD
  refine lv_iload_n hx hb dX10_tear_20 rfl (lv_at hl 0 rfl) ?_
  obtain rfl := Option.some.inj h
  exact k_iret hx hb hr hlk hP hD hS dX10_tear_21
set_option maxRecDepth 100000 in
theorem c_X10_tear (l : Launch) (g : gG) (q_t : Nat) (Q_t : Ad) (F_t : St) (o : Int32 × Int32 × Int32) (h : x_X10_tear F_t = some o) (sz : Nat) : MetI l yX10_tear (.code yX10_tear cX10_tear 2 (some .int) :: gW) 0 0 [.ref q_t] o.1 g [oX10 q_t Q_t (F_t 0 0) (F_t 2 0) (F_t 3 0) (F_t 4 0) (F_t 5 0) (F_t 6 0) (F_t 7 0) (F_t 8 0) (F_t 9 0) (F_t 10 0) (F_t 11 0) (F_t 12 0) (F_t 15 0) (F_t 16 0) (F_t 17 0) (F_t 23 0) (F_t 27 0) (F_t 28 0) (F_t 30 0)] [oX10 q_t Q_t (F_t 0 0) (F_t 2 0) (F_t 3 0) (F_t 4 0) (F_t 5 0) (F_t 6 0) (F_t 7 0) (F_t 8 0) (F_t 9 0) (F_t 10 0) (F_t 11 0) (F_t 12 0) (F_t 15 0) (F_t 16 0) (F_t 17 0) (F_t 23 0) (F_t 27 0) o.2.1 o.2.2] sz :=
  mkI (av := [.ref q_t]) (by decide +kernel) rfl (fun p e s m below meth c A E H locs ls hP hD hS hl => t_X10_tear E q_t Q_t F_t o h H locs ls hP hD hS hl) sz
def x_X10_judge_b2 (N : Nat) (F_t : St) (x1 : Int32) : Option ((Int32) ⊕ ((Int32) ⊕ (Unit))) :=
  if (F_t 30 0) ≤ x1 then (some (.inr (.inr ()))) else (if ((2 : Int32) * x1) < 0 ∨ 30 ≤ ((2 : Int32) * x1).toNatClampNeg then none else if ((80 : Int32) + ((F_t 31) ((2 : Int32) * x1).toNatClampNeg)) < 0 ∨ 174 ≤ ((80 : Int32) + ((F_t 31) ((2 : Int32) * x1).toNatClampNeg)).toNatClampNeg then none else if (((2 : Int32) * x1) + (1 : Int32)) < 0 ∨ 30 ≤ (((2 : Int32) * x1) + (1 : Int32)).toNatClampNeg then none else if ((F_t 20) ((80 : Int32) + ((F_t 31) ((2 : Int32) * x1).toNatClampNeg)).toNatClampNeg) = ((F_t 31) (((2 : Int32) * x1) + (1 : Int32)).toNatClampNeg) then (some (.inl (x1 + (1 : Int32)))) else (some (.inr (.inl x1))))
set_option maxHeartbeats 4000000 in
set_option maxRecDepth 100000 in
theorem t_X10_judge_b2 {p : Program} {l : Launch} {e : Env} {s : State} {m : MethodId} {args : Array Value} {below : List Frame} {meth : Method} {c : Code} {g : gG} {A : Nat → Prop} {Q : State → Prop} (E : En p s m args meth c g A cX10_judge 2 (.code yX10_judge cX10_judge 2 (some .int) :: gW) RX10 (some .int)) (q_t : Nat) (Q_t : Ad) (N : Nat) (F_t : St) (x1 : Int32) (o : (Int32) ⊕ ((Int32) ⊕ (Unit))) (h : x_X10_judge_b2 N F_t x1 = some o) (hc : ∀ z, o = .inl z → WA p l e (rM 0 0) s m args below meth c g A Q 2 2 [oX10 q_t Q_t (F_t 0 0) (F_t 2 0) (F_t 3 0) (F_t 4 0) (F_t 5 0) (F_t 6 0) (F_t 7 0) (F_t 8 0) (F_t 9 0) (F_t 10 0) (F_t 11 0) (F_t 12 0) (F_t 15 0) (F_t 16 0) (F_t 17 0) (F_t 23 0) (F_t 27 0) (F_t 28 0) (F_t 30 0), ia g (Q_t 20) 174 (F_t 20), ia g (Q_t 31) 30 (F_t 31)] [(0, .ref q_t), (1, .int z)] []) (he0 : ∀ v, o = .inr (.inl v) → WA p l e (rM 0 0) s m args below meth c g A Q 2 39 [oX10 q_t Q_t (F_t 0 0) (F_t 2 0) (F_t 3 0) (F_t 4 0) (F_t 5 0) (F_t 6 0) (F_t 7 0) (F_t 8 0) (F_t 9 0) (F_t 10 0) (F_t 11 0) (F_t 12 0) (F_t 15 0) (F_t 16 0) (F_t 17 0) (F_t 23 0) (F_t 27 0) (F_t 28 0) (F_t 30 0), ia g (Q_t 20) 174 (F_t 20), ia g (Q_t 31) 30 (F_t 31)] [(1, .int v)] []) (he1 : ∀ v, o = .inr (.inr v) → WA p l e (rM 0 0) s m args below meth c g A Q 2 47 [oX10 q_t Q_t (F_t 0 0) (F_t 2 0) (F_t 3 0) (F_t 4 0) (F_t 5 0) (F_t 6 0) (F_t 7 0) (F_t 8 0) (F_t 9 0) (F_t 10 0) (F_t 11 0) (F_t 12 0) (F_t 15 0) (F_t 16 0) (F_t 17 0) (F_t 23 0) (F_t 27 0) (F_t 28 0) (F_t 30 0), ia g (Q_t 20) 174 (F_t 20), ia g (Q_t 31) 30 (F_t 31)] [] []) : WA p l e (rM 0 0) s m args below meth c g A Q 2 2 [oX10 q_t Q_t (F_t 0 0) (F_t 2 0) (F_t 3 0) (F_t 4 0) (F_t 5 0) (F_t 6 0) (F_t 7 0) (F_t 8 0) (F_t 9 0) (F_t 10 0) (F_t 11 0) (F_t 12 0) (F_t 15 0) (F_t 16 0) (F_t 17 0) (F_t 23 0) (F_t 27 0) (F_t 28 0) (F_t 30 0), ia g (Q_t 20) 174 (F_t 20), ia g (Q_t 31) 30 (F_t 31)] [(0, .ref q_t), (1, .int x1)] [] := by
  obtain ⟨⟨hx, hb, hml, hown, hts⟩, hr, hK, hA, hlk⟩ := id E
  intro H locs ls hP hD hS hl
  refine lv_iload_n hx hb dX10_judge_2 rfl (lv_at hl 1 rfl) ?_
  refine lv_aload_n hx hb dX10_judge_3 rfl (lv_at hl 0 rfl) ?_
  refine va_get (ci := 10) (v := .int (F_t 30 0)) (C := RX10) (T := TX10) (N := 38) hx hb hts (fun w h => .tail _ (u_inX10 w h)) hown hK.1 hP 0 rfl rfl 30 (by decide) (hts _ (.tail _ u_fl_X10_162)) (fun _ h9 => h9) rfl dX10_judge_4 ?_
  refine lv_icmp_ge (tgt := 47) hx hb dX10_judge_7 (by decide) (fun c_1 => ?_) (fun c_1 => ?_)
  · have h := ox_t c_1 h
    obtain rfl := Option.some.inj h
    exact he1 _ rfl H locs ls hP hD hS (lv_sub hl [] rfl)
  · have h := ox_f c_1 h
    refine lv_aload_n hx hb dX10_judge_10 rfl (lv_at hl 0 rfl) ?_
    refine va_get (ci := 10) (v := .ref (Q_t 20)) (C := RX10) (T := TX10) (N := 38) hx hb hts (fun w h => .tail _ (u_inX10 w h)) hown hK.1 hP 0 rfl rfl 20 (by decide) (hts _ (.tail _ u_fl_X10_29)) (fun _ h9 => h9) rfl dX10_judge_11 ?_
    refine lv_bipush (v := (80 : Int32)) hx hb dX10_judge_14 (by decide) ?_
    refine lv_aload_n hx hb dX10_judge_16 rfl (lv_at hl 0 rfl) ?_
    refine va_get (ci := 10) (v := .ref (Q_t 31)) (C := RX10) (T := TX10) (N := 38) hx hb hts (fun w h => .tail _ (u_inX10 w h)) hown hK.1 hP 0 rfl rfl 31 (by decide) (hts _ (.tail _ u_fl_X10_51)) (fun _ h9 => h9) rfl dX10_judge_17 ?_
    refine lv_iconst (v := (2 : Int32)) hx hb dX10_judge_20 (by decide) ?_
    refine lv_iload_n hx hb dX10_judge_21 rfl (lv_at hl 1 rfl) ?_
    refine lv_imul hx hb dX10_judge_22 ?_
    obtain ⟨hi_2, h⟩ := ox_chk h
    refine va_iald hx hb hK.1 hP 2 0 rfl rfl hi_2 dX10_judge_23 ?_
    refine lv_iadd hx hb dX10_judge_24 ?_
    obtain ⟨hi_3, h⟩ := ox_chk h
    refine va_iald hx hb hK.1 hP 1 0 rfl rfl hi_3 dX10_judge_25 ?_
    refine lv_aload_n hx hb dX10_judge_26 rfl (lv_at hl 0 rfl) ?_
    refine va_get (ci := 10) (v := .ref (Q_t 31)) (C := RX10) (T := TX10) (N := 38) hx hb hts (fun w h => .tail _ (u_inX10 w h)) hown hK.1 hP 0 rfl rfl 31 (by decide) (hts _ (.tail _ u_fl_X10_51)) (fun _ h9 => h9) rfl dX10_judge_27 ?_
    refine lv_iconst (v := (2 : Int32)) hx hb dX10_judge_30 (by decide) ?_
    refine lv_iload_n hx hb dX10_judge_31 rfl (lv_at hl 1 rfl) ?_
    refine lv_imul hx hb dX10_judge_32 ?_
    refine lv_iconst (v := (1 : Int32)) hx hb dX10_judge_33 (by decide) ?_
    refine lv_iadd hx hb dX10_judge_34 ?_
    obtain ⟨hi_4, h⟩ := ox_chk h
    refine va_iald hx hb hK.1 hP 2 0 rfl rfl hi_4 dX10_judge_35 ?_
    refine lv_icmp_eq (tgt := 41) hx hb dX10_judge_36 (by decide) (fun c_5 => ?_) (fun c_5 => ?_)
    · have h := ox_t c_5 h
      refine lv_iinc (v := (x1 + (1 : Int32))) (lv' := [(1, .int (x1 + (1 : Int32))), (0, .ref q_t)]) hx hb dX10_judge_41 hl (k := 1) rfl rfl (by decide) rfl (fun ls hl => ?_)
      refine lv_goto (tgt := 2) hx hb dX10_judge_44 (by decide) ?_
      obtain rfl := Option.some.inj h
      exact hc _ rfl H locs ls hP hD hS (lv_sub hl [1, 0] rfl)
    · have h := ox_f c_5 h
      obtain rfl := Option.some.inj h
      exact he0 _ rfl H locs ls hP hD hS (lv_sub hl [1] rfl)
def x_X10_judge (N : Nat) (F_t : St) : Option (Int32) :=
  Option.bind (lpc (fun (z : Int32) => x_X10_judge_b2 N F_t z) N (0 : Int32)) (fun v_6 => Sum.elim (fun v_6 => some v_6) (fun v_6 => some (-1 : Int32)) v_6)
set_option maxHeartbeats 4000000 in
set_option maxRecDepth 100000 in
theorem t_X10_judge {p : Program} {l : Launch} {e : Env} {s : State} {m : MethodId} {args : Array Value} {below : List Frame} {meth : Method} {c : Code} {g : gG} {A : Nat → Prop} (E : En p s m args meth c g A cX10_judge 2 (.code yX10_judge cX10_judge 2 (some .int) :: gW) RX10 (some .int)) (q_t : Nat) (Q_t : Ad) (N : Nat) (F_t : St) (o : Int32) (h : x_X10_judge N F_t = some o) : WA p l e (rM 0 0) s m args below meth c g A (MQ below (QI g A o [oX10 q_t Q_t (F_t 0 0) (F_t 2 0) (F_t 3 0) (F_t 4 0) (F_t 5 0) (F_t 6 0) (F_t 7 0) (F_t 8 0) (F_t 9 0) (F_t 10 0) (F_t 11 0) (F_t 12 0) (F_t 15 0) (F_t 16 0) (F_t 17 0) (F_t 23 0) (F_t 27 0) (F_t 28 0) (F_t 30 0), ia g (Q_t 20) 174 (F_t 20), ia g (Q_t 31) 30 (F_t 31)]) args s 0 0 A) 2 0 [oX10 q_t Q_t (F_t 0 0) (F_t 2 0) (F_t 3 0) (F_t 4 0) (F_t 5 0) (F_t 6 0) (F_t 7 0) (F_t 8 0) (F_t 9 0) (F_t 10 0) (F_t 11 0) (F_t 12 0) (F_t 15 0) (F_t 16 0) (F_t 17 0) (F_t 23 0) (F_t 27 0) (F_t 28 0) (F_t 30 0), ia g (Q_t 20) 174 (F_t 20), ia g (Q_t 31) 30 (F_t 31)] [(0, .ref q_t)] [] := by
  obtain ⟨⟨hx, hb, hml, hown, hts⟩, hr, hK, hA, hlk⟩ := id E
  intro H locs ls hP hD hS hl
  refine lv_iconst (v := (0 : Int32)) hx hb dX10_judge_0 (by decide) ?_
  refine lv_istore_n (lv' := [(1, .int (0 : Int32)), (0, .ref q_t)]) hx hb dX10_judge_1 rfl hl (by decide) rfl (fun ls hl => ?_)
  obtain ⟨v_6, hv_6, h⟩ := ox_bind h
  refine lpc_W (Wh := fun (z : Int32) => WA p l e (rM 0 0) s m args below meth c g A (MQ below (QI g A o [oX10 q_t Q_t (F_t 0 0) (F_t 2 0) (F_t 3 0) (F_t 4 0) (F_t 5 0) (F_t 6 0) (F_t 7 0) (F_t 8 0) (F_t 9 0) (F_t 10 0) (F_t 11 0) (F_t 12 0) (F_t 15 0) (F_t 16 0) (F_t 17 0) (F_t 23 0) (F_t 27 0) (F_t 28 0) (F_t 30 0), ia g (Q_t 20) 174 (F_t 20), ia g (Q_t 31) 30 (F_t 31)]) args s 0 0 A) 2 2 [oX10 q_t Q_t (F_t 0 0) (F_t 2 0) (F_t 3 0) (F_t 4 0) (F_t 5 0) (F_t 6 0) (F_t 7 0) (F_t 8 0) (F_t 9 0) (F_t 10 0) (F_t 11 0) (F_t 12 0) (F_t 15 0) (F_t 16 0) (F_t 17 0) (F_t 23 0) (F_t 27 0) (F_t 28 0) (F_t 30 0), ia g (Q_t 20) 174 (F_t 20), ia g (Q_t 31) 30 (F_t 31)] [(0, .ref q_t), (1, .int z)] []) (We := Sum.elim (fun (v : Int32) => WA p l e (rM 0 0) s m args below meth c g A (MQ below (QI g A o [oX10 q_t Q_t (F_t 0 0) (F_t 2 0) (F_t 3 0) (F_t 4 0) (F_t 5 0) (F_t 6 0) (F_t 7 0) (F_t 8 0) (F_t 9 0) (F_t 10 0) (F_t 11 0) (F_t 12 0) (F_t 15 0) (F_t 16 0) (F_t 17 0) (F_t 23 0) (F_t 27 0) (F_t 28 0) (F_t 30 0), ia g (Q_t 20) 174 (F_t 20), ia g (Q_t 31) 30 (F_t 31)]) args s 0 0 A) 2 39 [oX10 q_t Q_t (F_t 0 0) (F_t 2 0) (F_t 3 0) (F_t 4 0) (F_t 5 0) (F_t 6 0) (F_t 7 0) (F_t 8 0) (F_t 9 0) (F_t 10 0) (F_t 11 0) (F_t 12 0) (F_t 15 0) (F_t 16 0) (F_t 17 0) (F_t 23 0) (F_t 27 0) (F_t 28 0) (F_t 30 0), ia g (Q_t 20) 174 (F_t 20), ia g (Q_t 31) 30 (F_t 31)] [(1, .int v)] []) (fun (v : Unit) => WA p l e (rM 0 0) s m args below meth c g A (MQ below (QI g A o [oX10 q_t Q_t (F_t 0 0) (F_t 2 0) (F_t 3 0) (F_t 4 0) (F_t 5 0) (F_t 6 0) (F_t 7 0) (F_t 8 0) (F_t 9 0) (F_t 10 0) (F_t 11 0) (F_t 12 0) (F_t 15 0) (F_t 16 0) (F_t 17 0) (F_t 23 0) (F_t 27 0) (F_t 28 0) (F_t 30 0), ia g (Q_t 20) 174 (F_t 20), ia g (Q_t 31) 30 (F_t 31)]) args s 0 0 A) 2 47 [oX10 q_t Q_t (F_t 0 0) (F_t 2 0) (F_t 3 0) (F_t 4 0) (F_t 5 0) (F_t 6 0) (F_t 7 0) (F_t 8 0) (F_t 9 0) (F_t 10 0) (F_t 11 0) (F_t 12 0) (F_t 15 0) (F_t 16 0) (F_t 17 0) (F_t 23 0) (F_t 27 0) (F_t 28 0) (F_t 30 0), ia g (Q_t 20) 174 (F_t 20), ia g (Q_t 31) 30 (F_t 31)] [] [])) (fun z r hb hc he => t_X10_judge_b2 E q_t Q_t N F_t z r hb hc (fun v hv => he (.inl v) hv) (fun v hv => he (.inr v) hv)) N (0 : Int32) v_6 hv_6 ?_ H locs ls hP hD hS (lv_sub hl [1, 0] rfl)
  rcases v_6 with v_6 | v_6
  · have h := ox_inl h
    intro H locs ls hP hD hS hl
    refine lv_iload_n hx hb dX10_judge_39 rfl (lv_at hl 0 rfl) ?_
    obtain rfl := Option.some.inj h
    exact k_iret hx hb hr hlk hP hD hS dX10_judge_40
  · have h := ox_inr h
    intro H locs ls hP hD hS hl
    refine lv_iconst (v := (-1 : Int32)) hx hb dX10_judge_47 (by decide) ?_
    obtain rfl := Option.some.inj h
    exact k_iret hx hb hr hlk hP hD hS dX10_judge_48
set_option maxRecDepth 100000 in
theorem c_X10_judge (l : Launch) (g : gG) (q_t : Nat) (Q_t : Ad) (N : Nat) (F_t : St) (o : Int32) (h : x_X10_judge N F_t = some o) (sz : Nat) : MetI l yX10_judge (.code yX10_judge cX10_judge 2 (some .int) :: gW) 0 0 [.ref q_t] o g [oX10 q_t Q_t (F_t 0 0) (F_t 2 0) (F_t 3 0) (F_t 4 0) (F_t 5 0) (F_t 6 0) (F_t 7 0) (F_t 8 0) (F_t 9 0) (F_t 10 0) (F_t 11 0) (F_t 12 0) (F_t 15 0) (F_t 16 0) (F_t 17 0) (F_t 23 0) (F_t 27 0) (F_t 28 0) (F_t 30 0), ia g (Q_t 20) 174 (F_t 20), ia g (Q_t 31) 30 (F_t 31)] [oX10 q_t Q_t (F_t 0 0) (F_t 2 0) (F_t 3 0) (F_t 4 0) (F_t 5 0) (F_t 6 0) (F_t 7 0) (F_t 8 0) (F_t 9 0) (F_t 10 0) (F_t 11 0) (F_t 12 0) (F_t 15 0) (F_t 16 0) (F_t 17 0) (F_t 23 0) (F_t 27 0) (F_t 28 0) (F_t 30 0), ia g (Q_t 20) 174 (F_t 20), ia g (Q_t 31) 30 (F_t 31)] sz :=
  mkI (av := [.ref q_t]) (by decide +kernel) rfl (fun p e s m below meth c A E H locs ls hP hD hS hl => t_X10_judge E q_t Q_t N F_t o h H locs ls hP hD hS hl) sz
def x_X10_seed (F_t : St) (x1 : Int32) : Option (Int32 × Int32) :=
  if 0 ≤ x1 then (xl (F_t 27 0) (fun y_2 => some (y_2, x1))) else (some ((-1000000002 : Int32), (F_t 27 0)))
set_option maxHeartbeats 4000000 in
set_option maxRecDepth 100000 in
theorem t_X10_seed {p : Program} {l : Launch} {e : Env} {s : State} {m : MethodId} {args : Array Value} {below : List Frame} {meth : Method} {c : Code} {g : gG} {A : Nat → Prop} (E : En p s m args meth c g A cX10_seed 3 (.code yX10_seed cX10_seed 3 (some .int) :: gW) RX10 (some .int)) (q_t : Nat) (Q_t : Ad) (F_t : St) (x1 : Int32) (o : Int32 × Int32) (h : x_X10_seed F_t x1 = some o) : WA p l e (rM 0 0) s m args below meth c g A (MQ below (QI g A o.1 [oX10 q_t Q_t (F_t 0 0) (F_t 2 0) (F_t 3 0) (F_t 4 0) (F_t 5 0) (F_t 6 0) (F_t 7 0) (F_t 8 0) (F_t 9 0) (F_t 10 0) (F_t 11 0) (F_t 12 0) (F_t 15 0) (F_t 16 0) (F_t 17 0) (F_t 23 0) o.2 (F_t 28 0) (F_t 30 0)]) args s 0 0 A) 3 0 [oX10 q_t Q_t (F_t 0 0) (F_t 2 0) (F_t 3 0) (F_t 4 0) (F_t 5 0) (F_t 6 0) (F_t 7 0) (F_t 8 0) (F_t 9 0) (F_t 10 0) (F_t 11 0) (F_t 12 0) (F_t 15 0) (F_t 16 0) (F_t 17 0) (F_t 23 0) (F_t 27 0) (F_t 28 0) (F_t 30 0)] [(0, .ref q_t), (1, .int x1)] [] := by
  obtain ⟨⟨hx, hb, hml, hown, hts⟩, hr, hK, hA, hlk⟩ := id E
  intro H locs ls hP hD hS hl
  refine lv_iload_n hx hb dX10_seed_0 rfl (lv_at hl 1 rfl) ?_
  refine lv_if_ge (tgt := 7) hx hb dX10_seed_1 (by decide) (fun c_1 => ?_) (fun c_1 => ?_)
  · have h := ox_t c_1 h
    refine lv_aload_n hx hb dX10_seed_7 rfl (lv_at hl 0 rfl) ?_
    refine va_get (ci := 10) (v := .int (F_t 27 0)) (C := RX10) (T := TX10) (N := 38) hx hb hts (fun w h => .tail _ (u_inX10 w h)) hown hK.1 hP 0 rfl rfl 27 (by decide) (hts _ (.tail _ u_fl_X10_212)) (fun _ h9 => h9) rfl dX10_seed_8 ?_
    refine lv_topi (fun y_2 ey_2 => ?_)
    have h := xl_at ey_2 h
    refine lv_istore_n (lv' := [(2, .int y_2), (0, .ref q_t), (1, .int x1)]) hx hb dX10_seed_11 rfl hl (by decide) rfl (fun ls hl => ?_)
    refine lv_aload_n hx hb dX10_seed_12 rfl (lv_at hl 1 rfl) ?_
    refine lv_iload_n hx hb dX10_seed_13 rfl (lv_at hl 2 rfl) ?_
    refine va_put (ci := 10) (v := .int x1) (ty := .int) (C := RX10) (T := TX10) (N := 38) hx hb hts (fun w h => .tail _ (u_inX10 w h)) tyX10 tyX10_ok nmX10 hown hK.1 hP hD hS 0 rfl rfl 27 (by decide) (hts _ (.tail _ u_fl_X10_212)) (fun _ h9 => h9) rfl (tyX10_ok 27 (by decide)) rfl rfl (Nat.le_of_ble_eq_true rfl) dX10_seed_14 (fun H locs hP hD hS => ?_)
    have hP : va_P g.1 vwCl [oX10 q_t Q_t (F_t 0 0) (F_t 2 0) (F_t 3 0) (F_t 4 0) (F_t 5 0) (F_t 6 0) (F_t 7 0) (F_t 8 0) (F_t 9 0) (F_t 10 0) (F_t 11 0) (F_t 12 0) (F_t 15 0) (F_t 16 0) (F_t 17 0) (F_t 23 0) x1 (F_t 28 0) (F_t 30 0)] H := hP
    have hD : va_D A [oX10 q_t Q_t (F_t 0 0) (F_t 2 0) (F_t 3 0) (F_t 4 0) (F_t 5 0) (F_t 6 0) (F_t 7 0) (F_t 8 0) (F_t 9 0) (F_t 10 0) (F_t 11 0) (F_t 12 0) (F_t 15 0) (F_t 16 0) (F_t 17 0) (F_t 23 0) x1 (F_t 28 0) (F_t 30 0)] := hD
    refine lv_iload_n hx hb dX10_seed_17 rfl (lv_at hl 0 rfl) ?_
    obtain rfl := Option.some.inj h
    exact k_iret hx hb hr hlk hP hD hS dX10_seed_18
  · have h := ox_f c_1 h
    refine lv_ldc (v := (-1000000002 : Int32)) hx hb hown (hts _ (.tail _ u_k_X10_90)) dX10_seed_4 ?_
    obtain rfl := Option.some.inj h
    exact k_iret hx hb hr hlk hP hD hS dX10_seed_6
set_option maxRecDepth 100000 in
theorem c_X10_seed (l : Launch) (g : gG) (q_t : Nat) (Q_t : Ad) (F_t : St) (x1 : Int32) (o : Int32 × Int32) (h : x_X10_seed F_t x1 = some o) (sz : Nat) : MetI l yX10_seed (.code yX10_seed cX10_seed 3 (some .int) :: gW) 0 0 [.ref q_t, .int x1] o.1 g [oX10 q_t Q_t (F_t 0 0) (F_t 2 0) (F_t 3 0) (F_t 4 0) (F_t 5 0) (F_t 6 0) (F_t 7 0) (F_t 8 0) (F_t 9 0) (F_t 10 0) (F_t 11 0) (F_t 12 0) (F_t 15 0) (F_t 16 0) (F_t 17 0) (F_t 23 0) (F_t 27 0) (F_t 28 0) (F_t 30 0)] [oX10 q_t Q_t (F_t 0 0) (F_t 2 0) (F_t 3 0) (F_t 4 0) (F_t 5 0) (F_t 6 0) (F_t 7 0) (F_t 8 0) (F_t 9 0) (F_t 10 0) (F_t 11 0) (F_t 12 0) (F_t 15 0) (F_t 16 0) (F_t 17 0) (F_t 23 0) o.2 (F_t 28 0) (F_t 30 0)] sz :=
  mkI (av := [.ref q_t, .int x1]) (by decide +kernel) rfl (fun p e s m below meth c A E H locs ls hP hD hS hl => t_X10_seed E q_t Q_t F_t x1 o h H locs ls hP hD hS hl) sz
def x_X10_keep (N : Nat) (F_t : St) (x1 : Int32) : Option (Int32 × Int32 × (Nat → Int32) × (Nat → Int32) × (Nat → Int32)) :=
  Option.bind (x_X10_in x1 (0 : Int32) (1 : Int32)) (fun v_1 => if v_1 = 0 then (some ((-1000000001 : Int32), (F_t 23 0), (F_t 24), (F_t 25), (F_t 26))) else (Option.bind (x_X10_copy N 174 348 (F_t 20) (F_t 24) (0 : Int32) ((174 : Int32) * x1)) (fun v_3 => if x1 < 0 ∨ 2 ≤ x1.toNatClampNeg then none else xl (F_t 27 0) (fun y_5 => if x1 < 0 ∨ 2 ≤ x1.toNatClampNeg then none else some ((1 : Int32), (0 : Int32), v_3, (upd (F_t 25) x1.toNatClampNeg y_5), (upd (F_t 26) x1.toNatClampNeg (vp_nar .boolean (1 : Int32))))))))
set_option maxHeartbeats 4000000 in
set_option maxRecDepth 100000 in
theorem t_X10_keep {p : Program} {l : Launch} {e : Env} {s : State} {m : MethodId} {args : Array Value} {below : List Frame} {meth : Method} {c : Code} {g : gG} {A : Nat → Prop} (E : En p s m args meth c g A cX10_keep 2 (.code yX10_keep cX10_keep 2 (some .int) :: gW) RX10 (some .int)) (q_t : Nat) (Q_t : Ad) (N : Nat) (F_t : St) (x1 : Int32) (o : Int32 × Int32 × (Nat → Int32) × (Nat → Int32) × (Nat → Int32)) (h : x_X10_keep N F_t x1 = some o) : WA p l e (rM 1 24) s m args below meth c g A (MQ below (QI g A o.1 [oX10 q_t Q_t (F_t 0 0) (F_t 2 0) (F_t 3 0) (F_t 4 0) (F_t 5 0) (F_t 6 0) (F_t 7 0) (F_t 8 0) (F_t 9 0) (F_t 10 0) (F_t 11 0) (F_t 12 0) (F_t 15 0) (F_t 16 0) (F_t 17 0) o.2.1 (F_t 27 0) (F_t 28 0) (F_t 30 0), ia g (Q_t 20) 174 (F_t 20), ia g (Q_t 24) 348 o.2.2.1, ia g (Q_t 25) 2 o.2.2.2.1, za g (Q_t 26) 2 o.2.2.2.2]) args s 0 0 A) 2 0 [oX10 q_t Q_t (F_t 0 0) (F_t 2 0) (F_t 3 0) (F_t 4 0) (F_t 5 0) (F_t 6 0) (F_t 7 0) (F_t 8 0) (F_t 9 0) (F_t 10 0) (F_t 11 0) (F_t 12 0) (F_t 15 0) (F_t 16 0) (F_t 17 0) (F_t 23 0) (F_t 27 0) (F_t 28 0) (F_t 30 0), ia g (Q_t 20) 174 (F_t 20), ia g (Q_t 24) 348 (F_t 24), ia g (Q_t 25) 2 (F_t 25), za g (Q_t 26) 2 (F_t 26)] [(0, .ref q_t), (1, .int x1)] [] := by
  obtain ⟨⟨hx, hb, hml, hown, hts⟩, hr, hK, hA, hlk⟩ := id E
  intro H locs ls hP hD hS hl
  refine lv_iload_n hx hb dX10_keep_0 rfl (lv_at hl 1 rfl) ?_
  refine lv_iconst (v := (0 : Int32)) hx hb dX10_keep_1 (by decide) ?_
  refine lv_iconst (v := (1 : Int32)) hx hb dX10_keep_2 (by decide) ?_
  obtain ⟨v_1, hv_1, h⟩ := ox_bind h
  refine kSi ⟨hx, hb, hml, hown, hts⟩ (c_X10_in l g x1 (0 : Int32) (1 : Int32) v_1 hv_1 H.size) (gS u_ml_X10_83 u_st_X10_in u_ini_X10 u_co_X10_in) hd_X10_in ⟨rfl, rfl⟩ hK hP hD hS hA [] [0, 1, 2, 3, 4] rfl rfl 0 rfl (w2 := [oX10 q_t Q_t (F_t 0 0) (F_t 2 0) (F_t 3 0) (F_t 4 0) (F_t 5 0) (F_t 6 0) (F_t 7 0) (F_t 8 0) (F_t 9 0) (F_t 10 0) (F_t 11 0) (F_t 12 0) (F_t 15 0) (F_t 16 0) (F_t 17 0) (F_t 23 0) (F_t 27 0) (F_t 28 0) (F_t 30 0), ia g (Q_t 20) 174 (F_t 20), ia g (Q_t 24) 348 (F_t 24), ia g (Q_t 25) 2 (F_t 25), za g (Q_t 26) 2 (F_t 26)]) rfl rfl (As := [.int x1, .int (0 : Int32), .int (1 : Int32)]) (rest := []) rfl hl.1 rfl rfl dX10_keep_3 (fun H locs hP hD hS => ?_)
  refine lv_if_ne (tgt := 12) hx hb dX10_keep_6 (by decide) (fun c_2 => ?_) (fun c_2 => ?_)
  · have h := ox_f c_2 h
    refine lv_aload_n hx hb dX10_keep_12 rfl (lv_at hl 0 rfl) ?_
    refine va_get (ci := 10) (v := .ref (Q_t 20)) (C := RX10) (T := TX10) (N := 38) hx hb hts (fun w h => .tail _ (u_inX10 w h)) hown hK.1 hP 0 rfl rfl 20 (by decide) (hts _ (.tail _ u_fl_X10_29)) (fun _ h9 => h9) rfl dX10_keep_13 ?_
    refine lv_iconst (v := (0 : Int32)) hx hb dX10_keep_16 (by decide) ?_
    refine lv_aload_n hx hb dX10_keep_17 rfl (lv_at hl 0 rfl) ?_
    refine va_get (ci := 10) (v := .ref (Q_t 24)) (C := RX10) (T := TX10) (N := 38) hx hb hts (fun w h => .tail _ (u_inX10 w h)) hown hK.1 hP 0 rfl rfl 24 (by decide) (hts _ (.tail _ u_fl_X10_38)) (fun _ h9 => h9) rfl dX10_keep_18 ?_
    refine lv_sipush (v := (174 : Int32)) hx hb dX10_keep_21 (by decide) ?_
    refine lv_iload_n hx hb dX10_keep_24 rfl (lv_at hl 1 rfl) ?_
    refine lv_imul hx hb dX10_keep_25 ?_
    obtain ⟨v_3, hv_3, h⟩ := ox_bind h
    refine kSv ⟨hx, hb, hml, hown, hts⟩ (c_X10_copy l g (Q_t 20) (Q_t 24) N 174 348 (F_t 20) (F_t 24) (0 : Int32) ((174 : Int32) * x1) v_3 hv_3 H.size) (gS u_ml_X10_190 u_st_X10_copy u_ini_X10 u_co_X10_copy) hd_X10_copy ⟨rfl, rfl⟩ hK hP hD hS hA [1, 2] [2, 0, 1, 5, 6] rfl rfl 2 rfl (w2 := [oX10 q_t Q_t (F_t 0 0) (F_t 2 0) (F_t 3 0) (F_t 4 0) (F_t 5 0) (F_t 6 0) (F_t 7 0) (F_t 8 0) (F_t 9 0) (F_t 10 0) (F_t 11 0) (F_t 12 0) (F_t 15 0) (F_t 16 0) (F_t 17 0) (F_t 23 0) (F_t 27 0) (F_t 28 0) (F_t 30 0), ia g (Q_t 20) 174 (F_t 20), ia g (Q_t 24) 348 v_3, ia g (Q_t 25) 2 (F_t 25), za g (Q_t 26) 2 (F_t 26)]) rfl rfl (As := [.ref (Q_t 20), .int (0 : Int32), .ref (Q_t 24), .int ((174 : Int32) * x1)]) (rest := []) rfl hl.1 rfl rfl dX10_keep_26 (fun H locs hP hD hS => ?_)
    refine lv_aload_n hx hb dX10_keep_29 rfl (lv_at hl 0 rfl) ?_
    refine va_get (ci := 10) (v := .ref (Q_t 25)) (C := RX10) (T := TX10) (N := 38) hx hb hts (fun w h => .tail _ (u_inX10 w h)) hown hK.1 hP 0 rfl rfl 25 (by decide) (hts _ (.tail _ u_fl_X10_41)) (fun _ h9 => h9) rfl dX10_keep_30 ?_
    refine lv_iload_n hx hb dX10_keep_33 rfl (lv_at hl 1 rfl) ?_
    refine lv_aload_n hx hb dX10_keep_34 rfl (lv_at hl 0 rfl) ?_
    refine va_get (ci := 10) (v := .int (F_t 27 0)) (C := RX10) (T := TX10) (N := 38) hx hb hts (fun w h => .tail _ (u_inX10 w h)) hown hK.1 hP 0 rfl rfl 27 (by decide) (hts _ (.tail _ u_fl_X10_212)) (fun _ h9 => h9) rfl dX10_keep_35 ?_
    obtain ⟨hi_4, h⟩ := ox_chk h
    refine lv_topi (fun y_5 ey_5 => ?_)
    have h := xl_at ey_5 h
    refine va_iast hx hb hK.1 hP hD hS 3 0 rfl rfl hi_4 dX10_keep_38 (fun H locs hP hD hS => ?_)
    have hP : va_P g.1 vwCl [oX10 q_t Q_t (F_t 0 0) (F_t 2 0) (F_t 3 0) (F_t 4 0) (F_t 5 0) (F_t 6 0) (F_t 7 0) (F_t 8 0) (F_t 9 0) (F_t 10 0) (F_t 11 0) (F_t 12 0) (F_t 15 0) (F_t 16 0) (F_t 17 0) (F_t 23 0) (F_t 27 0) (F_t 28 0) (F_t 30 0), ia g (Q_t 20) 174 (F_t 20), ia g (Q_t 24) 348 v_3, ia g (Q_t 25) 2 (upd (F_t 25) x1.toNatClampNeg y_5), za g (Q_t 26) 2 (F_t 26)] H := hP
    have hD : va_D A [oX10 q_t Q_t (F_t 0 0) (F_t 2 0) (F_t 3 0) (F_t 4 0) (F_t 5 0) (F_t 6 0) (F_t 7 0) (F_t 8 0) (F_t 9 0) (F_t 10 0) (F_t 11 0) (F_t 12 0) (F_t 15 0) (F_t 16 0) (F_t 17 0) (F_t 23 0) (F_t 27 0) (F_t 28 0) (F_t 30 0), ia g (Q_t 20) 174 (F_t 20), ia g (Q_t 24) 348 v_3, ia g (Q_t 25) 2 (upd (F_t 25) x1.toNatClampNeg y_5), za g (Q_t 26) 2 (F_t 26)] := hD
    refine lv_aload_n hx hb dX10_keep_39 rfl (lv_at hl 0 rfl) ?_
    refine va_get (ci := 10) (v := .ref (Q_t 26)) (C := RX10) (T := TX10) (N := 38) hx hb hts (fun w h => .tail _ (u_inX10 w h)) hown hK.1 hP 0 rfl rfl 26 (by decide) (hts _ (.tail _ u_fl_X10_44)) (fun _ h9 => h9) rfl dX10_keep_40 ?_
    refine lv_iload_n hx hb dX10_keep_43 rfl (lv_at hl 1 rfl) ?_
    refine lv_iconst (v := (1 : Int32)) hx hb dX10_keep_44 (by decide) ?_
    obtain ⟨hi_6, h⟩ := ox_chk h
    refine va_zast hx hb hK.1 hP hD hS 4 2 rfl rfl hi_6 dX10_keep_45 (fun H locs hP hD hS => ?_)
    have hP : va_P g.1 vwCl [oX10 q_t Q_t (F_t 0 0) (F_t 2 0) (F_t 3 0) (F_t 4 0) (F_t 5 0) (F_t 6 0) (F_t 7 0) (F_t 8 0) (F_t 9 0) (F_t 10 0) (F_t 11 0) (F_t 12 0) (F_t 15 0) (F_t 16 0) (F_t 17 0) (F_t 23 0) (F_t 27 0) (F_t 28 0) (F_t 30 0), ia g (Q_t 20) 174 (F_t 20), ia g (Q_t 24) 348 v_3, ia g (Q_t 25) 2 (upd (F_t 25) x1.toNatClampNeg y_5), za g (Q_t 26) 2 (upd (F_t 26) x1.toNatClampNeg (vp_nar .boolean (1 : Int32)))] H := hP
    have hD : va_D A [oX10 q_t Q_t (F_t 0 0) (F_t 2 0) (F_t 3 0) (F_t 4 0) (F_t 5 0) (F_t 6 0) (F_t 7 0) (F_t 8 0) (F_t 9 0) (F_t 10 0) (F_t 11 0) (F_t 12 0) (F_t 15 0) (F_t 16 0) (F_t 17 0) (F_t 23 0) (F_t 27 0) (F_t 28 0) (F_t 30 0), ia g (Q_t 20) 174 (F_t 20), ia g (Q_t 24) 348 v_3, ia g (Q_t 25) 2 (upd (F_t 25) x1.toNatClampNeg y_5), za g (Q_t 26) 2 (upd (F_t 26) x1.toNatClampNeg (vp_nar .boolean (1 : Int32)))] := hD
    refine lv_aload_n hx hb dX10_keep_46 rfl (lv_at hl 0 rfl) ?_
    refine lv_iconst (v := (0 : Int32)) hx hb dX10_keep_47 (by decide) ?_
    refine va_put (ci := 10) (v := .int (0 : Int32)) (ty := .int) (C := RX10) (T := TX10) (N := 38) hx hb hts (fun w h => .tail _ (u_inX10 w h)) tyX10 tyX10_ok nmX10 hown hK.1 hP hD hS 0 rfl rfl 23 (by decide) (hts _ (.tail _ u_fl_X10_165)) (fun _ h9 => h9) rfl (tyX10_ok 23 (by decide)) rfl rfl (Nat.le_of_ble_eq_true rfl) dX10_keep_48 (fun H locs hP hD hS => ?_)
    have hP : va_P g.1 vwCl [oX10 q_t Q_t (F_t 0 0) (F_t 2 0) (F_t 3 0) (F_t 4 0) (F_t 5 0) (F_t 6 0) (F_t 7 0) (F_t 8 0) (F_t 9 0) (F_t 10 0) (F_t 11 0) (F_t 12 0) (F_t 15 0) (F_t 16 0) (F_t 17 0) (0 : Int32) (F_t 27 0) (F_t 28 0) (F_t 30 0), ia g (Q_t 20) 174 (F_t 20), ia g (Q_t 24) 348 v_3, ia g (Q_t 25) 2 (upd (F_t 25) x1.toNatClampNeg y_5), za g (Q_t 26) 2 (upd (F_t 26) x1.toNatClampNeg (vp_nar .boolean (1 : Int32)))] H := hP
    have hD : va_D A [oX10 q_t Q_t (F_t 0 0) (F_t 2 0) (F_t 3 0) (F_t 4 0) (F_t 5 0) (F_t 6 0) (F_t 7 0) (F_t 8 0) (F_t 9 0) (F_t 10 0) (F_t 11 0) (F_t 12 0) (F_t 15 0) (F_t 16 0) (F_t 17 0) (0 : Int32) (F_t 27 0) (F_t 28 0) (F_t 30 0), ia g (Q_t 20) 174 (F_t 20), ia g (Q_t 24) 348 v_3, ia g (Q_t 25) 2 (upd (F_t 25) x1.toNatClampNeg y_5), za g (Q_t 26) 2 (upd (F_t 26) x1.toNatClampNeg (vp_nar .boolean (1 : Int32)))] := hD
    refine lv_iconst (v := (1 : Int32)) hx hb dX10_keep_51 (by decide) ?_
    obtain rfl := Option.some.inj h
    exact k_iret hx hb hr hlk hP hD hS dX10_keep_52
  · have h := ox_t c_2 h
    refine lv_ldc (v := (-1000000001 : Int32)) hx hb hown (hts _ (.tail _ u_k_X10_183)) dX10_keep_9 ?_
    obtain rfl := Option.some.inj h
    exact k_iret hx hb hr hlk hP hD hS dX10_keep_11
set_option maxRecDepth 100000 in
theorem c_X10_keep (l : Launch) (g : gG) (q_t : Nat) (Q_t : Ad) (N : Nat) (F_t : St) (x1 : Int32) (o : Int32 × Int32 × (Nat → Int32) × (Nat → Int32) × (Nat → Int32)) (h : x_X10_keep N F_t x1 = some o) (sz : Nat) : MetI l yX10_keep (.code yX10_keep cX10_keep 2 (some .int) :: gW) 1 24 [.ref q_t, .int x1] o.1 g [oX10 q_t Q_t (F_t 0 0) (F_t 2 0) (F_t 3 0) (F_t 4 0) (F_t 5 0) (F_t 6 0) (F_t 7 0) (F_t 8 0) (F_t 9 0) (F_t 10 0) (F_t 11 0) (F_t 12 0) (F_t 15 0) (F_t 16 0) (F_t 17 0) (F_t 23 0) (F_t 27 0) (F_t 28 0) (F_t 30 0), ia g (Q_t 20) 174 (F_t 20), ia g (Q_t 24) 348 (F_t 24), ia g (Q_t 25) 2 (F_t 25), za g (Q_t 26) 2 (F_t 26)] [oX10 q_t Q_t (F_t 0 0) (F_t 2 0) (F_t 3 0) (F_t 4 0) (F_t 5 0) (F_t 6 0) (F_t 7 0) (F_t 8 0) (F_t 9 0) (F_t 10 0) (F_t 11 0) (F_t 12 0) (F_t 15 0) (F_t 16 0) (F_t 17 0) o.2.1 (F_t 27 0) (F_t 28 0) (F_t 30 0), ia g (Q_t 20) 174 (F_t 20), ia g (Q_t 24) 348 o.2.2.1, ia g (Q_t 25) 2 o.2.2.2.1, za g (Q_t 26) 2 o.2.2.2.2] sz :=
  mkI (av := [.ref q_t, .int x1]) (by decide +kernel) rfl (fun p e s m below meth c A E H locs ls hP hD hS hl => t_X10_keep E q_t Q_t N F_t x1 o h H locs ls hP hD hS hl) sz
def x_X10_goBack (N : Nat) (F_t : St) (x1 : Int32) : Option (Int32 × (Nat → Int32) × Int32 × Int32) :=
  Option.bind (x_X10_in x1 (0 : Int32) (1 : Int32)) (fun v_1 => if v_1 = 0 then (some ((-1000000001 : Int32), (F_t 20), (F_t 23 0), (F_t 27 0))) else (if x1 < 0 ∨ 2 ≤ x1.toNatClampNeg then none else if ((F_t 26) x1.toNatClampNeg) = 0 then (some ((-1000000003 : Int32), (F_t 20), (F_t 23 0), (F_t 27 0))) else (Option.bind (x_X10_copy N 348 174 (F_t 24) (F_t 20) ((174 : Int32) * x1) (0 : Int32)) (fun v_5 => if x1 < 0 ∨ 2 ≤ x1.toNatClampNeg then none else xl ((F_t 25) x1.toNatClampNeg) (fun y_7 => some ((1 : Int32), v_5, (0 : Int32), y_7))))))
set_option maxHeartbeats 4000000 in
set_option maxRecDepth 100000 in
theorem t_X10_goBack {p : Program} {l : Launch} {e : Env} {s : State} {m : MethodId} {args : Array Value} {below : List Frame} {meth : Method} {c : Code} {g : gG} {A : Nat → Prop} (E : En p s m args meth c g A cX10_goBack 2 (.code yX10_goBack cX10_goBack 2 (some .int) :: gW) RX10 (some .int)) (q_t : Nat) (Q_t : Ad) (N : Nat) (F_t : St) (x1 : Int32) (o : Int32 × (Nat → Int32) × Int32 × Int32) (h : x_X10_goBack N F_t x1 = some o) : WA p l e (rM 1 24) s m args below meth c g A (MQ below (QI g A o.1 [oX10 q_t Q_t (F_t 0 0) (F_t 2 0) (F_t 3 0) (F_t 4 0) (F_t 5 0) (F_t 6 0) (F_t 7 0) (F_t 8 0) (F_t 9 0) (F_t 10 0) (F_t 11 0) (F_t 12 0) (F_t 15 0) (F_t 16 0) (F_t 17 0) o.2.2.1 o.2.2.2 (F_t 28 0) (F_t 30 0), ia g (Q_t 20) 174 o.2.1, ia g (Q_t 24) 348 (F_t 24), ia g (Q_t 25) 2 (F_t 25), za g (Q_t 26) 2 (F_t 26)]) args s 0 0 A) 2 0 [oX10 q_t Q_t (F_t 0 0) (F_t 2 0) (F_t 3 0) (F_t 4 0) (F_t 5 0) (F_t 6 0) (F_t 7 0) (F_t 8 0) (F_t 9 0) (F_t 10 0) (F_t 11 0) (F_t 12 0) (F_t 15 0) (F_t 16 0) (F_t 17 0) (F_t 23 0) (F_t 27 0) (F_t 28 0) (F_t 30 0), ia g (Q_t 20) 174 (F_t 20), ia g (Q_t 24) 348 (F_t 24), ia g (Q_t 25) 2 (F_t 25), za g (Q_t 26) 2 (F_t 26)] [(0, .ref q_t), (1, .int x1)] [] := by
  obtain ⟨⟨hx, hb, hml, hown, hts⟩, hr, hK, hA, hlk⟩ := id E
  intro H locs ls hP hD hS hl
  refine lv_iload_n hx hb dX10_goBack_0 rfl (lv_at hl 1 rfl) ?_
  refine lv_iconst (v := (0 : Int32)) hx hb dX10_goBack_1 (by decide) ?_
  refine lv_iconst (v := (1 : Int32)) hx hb dX10_goBack_2 (by decide) ?_
  obtain ⟨v_1, hv_1, h⟩ := ox_bind h
  refine kSi ⟨hx, hb, hml, hown, hts⟩ (c_X10_in l g x1 (0 : Int32) (1 : Int32) v_1 hv_1 H.size) (gS u_ml_X10_83 u_st_X10_in u_ini_X10 u_co_X10_in) hd_X10_in ⟨rfl, rfl⟩ hK hP hD hS hA [] [0, 1, 2, 3, 4] rfl rfl 0 rfl (w2 := [oX10 q_t Q_t (F_t 0 0) (F_t 2 0) (F_t 3 0) (F_t 4 0) (F_t 5 0) (F_t 6 0) (F_t 7 0) (F_t 8 0) (F_t 9 0) (F_t 10 0) (F_t 11 0) (F_t 12 0) (F_t 15 0) (F_t 16 0) (F_t 17 0) (F_t 23 0) (F_t 27 0) (F_t 28 0) (F_t 30 0), ia g (Q_t 20) 174 (F_t 20), ia g (Q_t 24) 348 (F_t 24), ia g (Q_t 25) 2 (F_t 25), za g (Q_t 26) 2 (F_t 26)]) rfl rfl (As := [.int x1, .int (0 : Int32), .int (1 : Int32)]) (rest := []) rfl hl.1 rfl rfl dX10_goBack_3 (fun H locs hP hD hS => ?_)
  refine lv_if_ne (tgt := 12) hx hb dX10_goBack_6 (by decide) (fun c_2 => ?_) (fun c_2 => ?_)
  · have h := ox_f c_2 h
    refine lv_aload_n hx hb dX10_goBack_12 rfl (lv_at hl 0 rfl) ?_
    refine va_get (ci := 10) (v := .ref (Q_t 26)) (C := RX10) (T := TX10) (N := 38) hx hb hts (fun w h => .tail _ (u_inX10 w h)) hown hK.1 hP 0 rfl rfl 26 (by decide) (hts _ (.tail _ u_fl_X10_44)) (fun _ h9 => h9) rfl dX10_goBack_13 ?_
    refine lv_iload_n hx hb dX10_goBack_16 rfl (lv_at hl 1 rfl) ?_
    obtain ⟨hi_3, h⟩ := ox_chk h
    refine va_zald hx hb hK.1 hP 4 2 rfl rfl hi_3 dX10_goBack_17 ?_
    refine lv_if_ne (tgt := 24) hx hb dX10_goBack_18 (by decide) (fun c_4 => ?_) (fun c_4 => ?_)
    · have h := ox_f c_4 h
      refine lv_aload_n hx hb dX10_goBack_24 rfl (lv_at hl 0 rfl) ?_
      refine va_get (ci := 10) (v := .ref (Q_t 24)) (C := RX10) (T := TX10) (N := 38) hx hb hts (fun w h => .tail _ (u_inX10 w h)) hown hK.1 hP 0 rfl rfl 24 (by decide) (hts _ (.tail _ u_fl_X10_38)) (fun _ h9 => h9) rfl dX10_goBack_25 ?_
      refine lv_sipush (v := (174 : Int32)) hx hb dX10_goBack_28 (by decide) ?_
      refine lv_iload_n hx hb dX10_goBack_31 rfl (lv_at hl 1 rfl) ?_
      refine lv_imul hx hb dX10_goBack_32 ?_
      refine lv_aload_n hx hb dX10_goBack_33 rfl (lv_at hl 0 rfl) ?_
      refine va_get (ci := 10) (v := .ref (Q_t 20)) (C := RX10) (T := TX10) (N := 38) hx hb hts (fun w h => .tail _ (u_inX10 w h)) hown hK.1 hP 0 rfl rfl 20 (by decide) (hts _ (.tail _ u_fl_X10_29)) (fun _ h9 => h9) rfl dX10_goBack_34 ?_
      refine lv_iconst (v := (0 : Int32)) hx hb dX10_goBack_37 (by decide) ?_
      obtain ⟨v_5, hv_5, h⟩ := ox_bind h
      refine kSv ⟨hx, hb, hml, hown, hts⟩ (c_X10_copy l g (Q_t 24) (Q_t 20) N 348 174 (F_t 24) (F_t 20) ((174 : Int32) * x1) (0 : Int32) v_5 hv_5 H.size) (gS u_ml_X10_190 u_st_X10_copy u_ini_X10 u_co_X10_copy) hd_X10_copy ⟨rfl, rfl⟩ hK hP hD hS hA [2, 1] [2, 1, 0, 5, 6] rfl rfl 2 rfl (w2 := [oX10 q_t Q_t (F_t 0 0) (F_t 2 0) (F_t 3 0) (F_t 4 0) (F_t 5 0) (F_t 6 0) (F_t 7 0) (F_t 8 0) (F_t 9 0) (F_t 10 0) (F_t 11 0) (F_t 12 0) (F_t 15 0) (F_t 16 0) (F_t 17 0) (F_t 23 0) (F_t 27 0) (F_t 28 0) (F_t 30 0), ia g (Q_t 20) 174 v_5, ia g (Q_t 24) 348 (F_t 24), ia g (Q_t 25) 2 (F_t 25), za g (Q_t 26) 2 (F_t 26)]) rfl rfl (As := [.ref (Q_t 24), .int ((174 : Int32) * x1), .ref (Q_t 20), .int (0 : Int32)]) (rest := []) rfl hl.1 rfl rfl dX10_goBack_38 (fun H locs hP hD hS => ?_)
      refine lv_aload_n hx hb dX10_goBack_41 rfl (lv_at hl 0 rfl) ?_
      refine lv_aload_n hx hb dX10_goBack_42 rfl (lv_at hl 0 rfl) ?_
      refine va_get (ci := 10) (v := .ref (Q_t 25)) (C := RX10) (T := TX10) (N := 38) hx hb hts (fun w h => .tail _ (u_inX10 w h)) hown hK.1 hP 0 rfl rfl 25 (by decide) (hts _ (.tail _ u_fl_X10_41)) (fun _ h9 => h9) rfl dX10_goBack_43 ?_
      refine lv_iload_n hx hb dX10_goBack_46 rfl (lv_at hl 1 rfl) ?_
      obtain ⟨hi_6, h⟩ := ox_chk h
      refine va_iald hx hb hK.1 hP 3 0 rfl rfl hi_6 dX10_goBack_47 ?_
      refine lv_topi (fun y_7 ey_7 => ?_)
      have h := xl_at ey_7 h
      refine va_put (ci := 10) (v := .int y_7) (ty := .int) (C := RX10) (T := TX10) (N := 38) hx hb hts (fun w h => .tail _ (u_inX10 w h)) tyX10 tyX10_ok nmX10 hown hK.1 hP hD hS 0 rfl rfl 27 (by decide) (hts _ (.tail _ u_fl_X10_212)) (fun _ h9 => h9) rfl (tyX10_ok 27 (by decide)) rfl rfl (Nat.le_of_ble_eq_true rfl) dX10_goBack_48 (fun H locs hP hD hS => ?_)
      have hP : va_P g.1 vwCl [oX10 q_t Q_t (F_t 0 0) (F_t 2 0) (F_t 3 0) (F_t 4 0) (F_t 5 0) (F_t 6 0) (F_t 7 0) (F_t 8 0) (F_t 9 0) (F_t 10 0) (F_t 11 0) (F_t 12 0) (F_t 15 0) (F_t 16 0) (F_t 17 0) (F_t 23 0) y_7 (F_t 28 0) (F_t 30 0), ia g (Q_t 20) 174 v_5, ia g (Q_t 24) 348 (F_t 24), ia g (Q_t 25) 2 (F_t 25), za g (Q_t 26) 2 (F_t 26)] H := hP
      have hD : va_D A [oX10 q_t Q_t (F_t 0 0) (F_t 2 0) (F_t 3 0) (F_t 4 0) (F_t 5 0) (F_t 6 0) (F_t 7 0) (F_t 8 0) (F_t 9 0) (F_t 10 0) (F_t 11 0) (F_t 12 0) (F_t 15 0) (F_t 16 0) (F_t 17 0) (F_t 23 0) y_7 (F_t 28 0) (F_t 30 0), ia g (Q_t 20) 174 v_5, ia g (Q_t 24) 348 (F_t 24), ia g (Q_t 25) 2 (F_t 25), za g (Q_t 26) 2 (F_t 26)] := hD
      refine lv_aload_n hx hb dX10_goBack_51 rfl (lv_at hl 0 rfl) ?_
      refine lv_iconst (v := (0 : Int32)) hx hb dX10_goBack_52 (by decide) ?_
      refine va_put (ci := 10) (v := .int (0 : Int32)) (ty := .int) (C := RX10) (T := TX10) (N := 38) hx hb hts (fun w h => .tail _ (u_inX10 w h)) tyX10 tyX10_ok nmX10 hown hK.1 hP hD hS 0 rfl rfl 23 (by decide) (hts _ (.tail _ u_fl_X10_165)) (fun _ h9 => h9) rfl (tyX10_ok 23 (by decide)) rfl rfl (Nat.le_of_ble_eq_true rfl) dX10_goBack_53 (fun H locs hP hD hS => ?_)
      have hP : va_P g.1 vwCl [oX10 q_t Q_t (F_t 0 0) (F_t 2 0) (F_t 3 0) (F_t 4 0) (F_t 5 0) (F_t 6 0) (F_t 7 0) (F_t 8 0) (F_t 9 0) (F_t 10 0) (F_t 11 0) (F_t 12 0) (F_t 15 0) (F_t 16 0) (F_t 17 0) (0 : Int32) y_7 (F_t 28 0) (F_t 30 0), ia g (Q_t 20) 174 v_5, ia g (Q_t 24) 348 (F_t 24), ia g (Q_t 25) 2 (F_t 25), za g (Q_t 26) 2 (F_t 26)] H := hP
      have hD : va_D A [oX10 q_t Q_t (F_t 0 0) (F_t 2 0) (F_t 3 0) (F_t 4 0) (F_t 5 0) (F_t 6 0) (F_t 7 0) (F_t 8 0) (F_t 9 0) (F_t 10 0) (F_t 11 0) (F_t 12 0) (F_t 15 0) (F_t 16 0) (F_t 17 0) (0 : Int32) y_7 (F_t 28 0) (F_t 30 0), ia g (Q_t 20) 174 v_5, ia g (Q_t 24) 348 (F_t 24), ia g (Q_t 25) 2 (F_t 25), za g (Q_t 26) 2 (F_t 26)] := hD
      refine lv_iconst (v := (1 : Int32)) hx hb dX10_goBack_56 (by decide) ?_
      obtain rfl := Option.some.inj h
      exact k_iret hx hb hr hlk hP hD hS dX10_goBack_57
    · have h := ox_t c_4 h
      refine lv_ldc (v := (-1000000003 : Int32)) hx hb hown (hts _ (.tail _ u_k_X10_205)) dX10_goBack_21 ?_
      obtain rfl := Option.some.inj h
      exact k_iret hx hb hr hlk hP hD hS dX10_goBack_23
  · have h := ox_t c_2 h
    refine lv_ldc (v := (-1000000001 : Int32)) hx hb hown (hts _ (.tail _ u_k_X10_183)) dX10_goBack_9 ?_
    obtain rfl := Option.some.inj h
    exact k_iret hx hb hr hlk hP hD hS dX10_goBack_11
set_option maxRecDepth 100000 in
theorem c_X10_goBack (l : Launch) (g : gG) (q_t : Nat) (Q_t : Ad) (N : Nat) (F_t : St) (x1 : Int32) (o : Int32 × (Nat → Int32) × Int32 × Int32) (h : x_X10_goBack N F_t x1 = some o) (sz : Nat) : MetI l yX10_goBack (.code yX10_goBack cX10_goBack 2 (some .int) :: gW) 1 24 [.ref q_t, .int x1] o.1 g [oX10 q_t Q_t (F_t 0 0) (F_t 2 0) (F_t 3 0) (F_t 4 0) (F_t 5 0) (F_t 6 0) (F_t 7 0) (F_t 8 0) (F_t 9 0) (F_t 10 0) (F_t 11 0) (F_t 12 0) (F_t 15 0) (F_t 16 0) (F_t 17 0) (F_t 23 0) (F_t 27 0) (F_t 28 0) (F_t 30 0), ia g (Q_t 20) 174 (F_t 20), ia g (Q_t 24) 348 (F_t 24), ia g (Q_t 25) 2 (F_t 25), za g (Q_t 26) 2 (F_t 26)] [oX10 q_t Q_t (F_t 0 0) (F_t 2 0) (F_t 3 0) (F_t 4 0) (F_t 5 0) (F_t 6 0) (F_t 7 0) (F_t 8 0) (F_t 9 0) (F_t 10 0) (F_t 11 0) (F_t 12 0) (F_t 15 0) (F_t 16 0) (F_t 17 0) o.2.2.1 o.2.2.2 (F_t 28 0) (F_t 30 0), ia g (Q_t 20) 174 o.2.1, ia g (Q_t 24) 348 (F_t 24), ia g (Q_t 25) 2 (F_t 25), za g (Q_t 26) 2 (F_t 26)] sz :=
  mkI (av := [.ref q_t, .int x1]) (by decide +kernel) rfl (fun p e s m below meth c A E H locs ls hP hD hS hl => t_X10_goBack E q_t Q_t N F_t x1 o h H locs ls hP hD hS hl) sz
