def x_X10_open_b20 (N : Nat) (F_t : St) (x1 : Int32) : Option ((Int32 × (Nat → Int32)) ⊕ ((Nat → Int32))) :=
  if (10 : Int32) ≤ x1 then (some (.inr (F_t 20))) else (if ((162 : Int32) + x1) < 0 ∨ 174 ≤ ((162 : Int32) + x1).toNatClampNeg then none else some (.inl ((x1 + (1 : Int32)), (upd (F_t 20) ((162 : Int32) + x1).toNatClampNeg (-1 : Int32)))))
set_option maxHeartbeats 4000000 in
set_option maxRecDepth 100000 in
theorem t_X10_open_b20 {p : Program} {l : Launch} {e : Env} {s : State} {m : MethodId} {args : Array Value} {below : List Frame} {meth : Method} {c : Code} {g : gG} {A : Nat → Prop} {Q : State → Prop} (E : En p s m args meth c g A cX10_open 2 (.code yX10_open cX10_open 2 none :: gW) RX10 none) (q_t : Nat) (Q_t : Ad) (N : Nat) (F_t : St) (x1 : Int32) (o : (Int32 × (Nat → Int32)) ⊕ ((Nat → Int32))) (h : x_X10_open_b20 N F_t x1 = some o) (hc : ∀ z, o = .inl z → WA p l e (rM 0 0) s m args below meth c g A Q 2 20 [oX10 q_t Q_t (F_t 0 0) (F_t 2 0) (F_t 3 0) (F_t 4 0) (F_t 5 0) (F_t 6 0) (F_t 7 0) (F_t 8 0) (F_t 9 0) (F_t 10 0) (F_t 11 0) (F_t 12 0) (F_t 15 0) (F_t 16 0) (F_t 17 0) (F_t 23 0) (F_t 27 0) (F_t 28 0) (F_t 30 0), ia g (Q_t 20) 174 z.2] [(0, .ref q_t), (1, .int z.1)] []) (he : ∀ v, o = .inr v → WA p l e (rM 0 0) s m args below meth c g A Q 2 43 [oX10 q_t Q_t (F_t 0 0) (F_t 2 0) (F_t 3 0) (F_t 4 0) (F_t 5 0) (F_t 6 0) (F_t 7 0) (F_t 8 0) (F_t 9 0) (F_t 10 0) (F_t 11 0) (F_t 12 0) (F_t 15 0) (F_t 16 0) (F_t 17 0) (F_t 23 0) (F_t 27 0) (F_t 28 0) (F_t 30 0), ia g (Q_t 20) 174 v] [] []) : WA p l e (rM 0 0) s m args below meth c g A Q 2 20 [oX10 q_t Q_t (F_t 0 0) (F_t 2 0) (F_t 3 0) (F_t 4 0) (F_t 5 0) (F_t 6 0) (F_t 7 0) (F_t 8 0) (F_t 9 0) (F_t 10 0) (F_t 11 0) (F_t 12 0) (F_t 15 0) (F_t 16 0) (F_t 17 0) (F_t 23 0) (F_t 27 0) (F_t 28 0) (F_t 30 0), ia g (Q_t 20) 174 (F_t 20)] [(0, .ref q_t), (1, .int x1)] [] := by
  obtain ⟨⟨hx, hb, hml, hown, hts⟩, hr, hK, hA, hlk⟩ := id E
  intro H locs ls hP hD hS hl
  refine lv_iload_n hx hb dX10_open_20 rfl (lv_at hl 1 rfl) ?_
  refine lv_bipush (v := (10 : Int32)) hx hb dX10_open_21 (by decide) ?_
  refine lv_icmp_ge (tgt := 43) hx hb dX10_open_23 (by decide) (fun c_1 => ?_) (fun c_1 => ?_)
  · have h := ox_t c_1 h
    obtain rfl := Option.some.inj h
    exact he _ rfl H locs ls hP hD hS (lv_sub hl [] rfl)
  · have h := ox_f c_1 h
    refine lv_aload_n hx hb dX10_open_26 rfl (lv_at hl 0 rfl) ?_
    refine va_get (ci := 10) (v := .ref (Q_t 20)) (C := RX10) (T := TX10) (N := 38) hx hb hts (fun w h => .tail _ (u_inX10 w h)) hown hK.1 hP 0 rfl rfl 20 (by decide) (hts _ (.tail _ u_fl_X10_29)) (fun _ h9 => h9) rfl dX10_open_27 ?_
    refine lv_sipush (v := (162 : Int32)) hx hb dX10_open_30 (by decide) ?_
    refine lv_iload_n hx hb dX10_open_33 rfl (lv_at hl 1 rfl) ?_
    refine lv_iadd hx hb dX10_open_34 ?_
    refine lv_iconst (v := (-1 : Int32)) hx hb dX10_open_35 (by decide) ?_
    obtain ⟨hi_2, h⟩ := ox_chk h
    refine va_iast hx hb hK.1 hP hD hS 1 0 rfl rfl hi_2 dX10_open_36 (fun H locs hP hD hS => ?_)
    have hP : va_P g.1 vwCl [oX10 q_t Q_t (F_t 0 0) (F_t 2 0) (F_t 3 0) (F_t 4 0) (F_t 5 0) (F_t 6 0) (F_t 7 0) (F_t 8 0) (F_t 9 0) (F_t 10 0) (F_t 11 0) (F_t 12 0) (F_t 15 0) (F_t 16 0) (F_t 17 0) (F_t 23 0) (F_t 27 0) (F_t 28 0) (F_t 30 0), ia g (Q_t 20) 174 (upd (F_t 20) ((162 : Int32) + x1).toNatClampNeg (-1 : Int32))] H := hP
    have hD : va_D A [oX10 q_t Q_t (F_t 0 0) (F_t 2 0) (F_t 3 0) (F_t 4 0) (F_t 5 0) (F_t 6 0) (F_t 7 0) (F_t 8 0) (F_t 9 0) (F_t 10 0) (F_t 11 0) (F_t 12 0) (F_t 15 0) (F_t 16 0) (F_t 17 0) (F_t 23 0) (F_t 27 0) (F_t 28 0) (F_t 30 0), ia g (Q_t 20) 174 (upd (F_t 20) ((162 : Int32) + x1).toNatClampNeg (-1 : Int32))] := hD
    refine lv_iinc (v := (x1 + (1 : Int32))) (lv' := [(1, .int (x1 + (1 : Int32))), (0, .ref q_t)]) hx hb dX10_open_37 hl (k := 1) rfl rfl (by decide) rfl (fun ls hl => ?_)
    refine lv_goto (tgt := 20) hx hb dX10_open_40 (by decide) ?_
    obtain rfl := Option.some.inj h
    exact hc _ rfl H locs ls hP hD hS (lv_sub hl [1, 0] rfl)
def x_X10_open (N : Nat) (F_t : St) : Option ((Nat → Int32)) :=
  Option.bind (lpc (fun (z : Int32 × (Nat → Int32)) => x_X10_open_b20 N (va_up F_t 20 z.2) z.1) N ((0 : Int32), (upd (upd (F_t 20) (172 : Int32).toNatClampNeg (0 : Int32)) (173 : Int32).toNatClampNeg (0 : Int32)))) (fun v_3 => some v_3)
set_option maxHeartbeats 4000000 in
set_option maxRecDepth 100000 in
theorem t_X10_open {p : Program} {l : Launch} {e : Env} {s : State} {m : MethodId} {args : Array Value} {below : List Frame} {meth : Method} {c : Code} {g : gG} {A : Nat → Prop} (E : En p s m args meth c g A cX10_open 2 (.code yX10_open cX10_open 2 none :: gW) RX10 none) (q_t : Nat) (Q_t : Ad) (N : Nat) (F_t : St) (o : (Nat → Int32)) (h : x_X10_open N F_t = some o) : WA p l e (rM 0 0) s m args below meth c g A (MQ below (QV g A [oX10 q_t Q_t (F_t 0 0) (F_t 2 0) (F_t 3 0) (F_t 4 0) (F_t 5 0) (F_t 6 0) (F_t 7 0) (F_t 8 0) (F_t 9 0) (F_t 10 0) (F_t 11 0) (F_t 12 0) (F_t 15 0) (F_t 16 0) (F_t 17 0) (F_t 23 0) (F_t 27 0) (F_t 28 0) (F_t 30 0), ia g (Q_t 20) 174 o]) args s 0 0 A) 2 0 [oX10 q_t Q_t (F_t 0 0) (F_t 2 0) (F_t 3 0) (F_t 4 0) (F_t 5 0) (F_t 6 0) (F_t 7 0) (F_t 8 0) (F_t 9 0) (F_t 10 0) (F_t 11 0) (F_t 12 0) (F_t 15 0) (F_t 16 0) (F_t 17 0) (F_t 23 0) (F_t 27 0) (F_t 28 0) (F_t 30 0), ia g (Q_t 20) 174 (F_t 20)] [(0, .ref q_t)] [] := by
  obtain ⟨⟨hx, hb, hml, hown, hts⟩, hr, hK, hA, hlk⟩ := id E
  intro H locs ls hP hD hS hl
  refine lv_aload_n hx hb dX10_open_0 rfl (lv_at hl 0 rfl) ?_
  refine va_get (ci := 10) (v := .ref (Q_t 20)) (C := RX10) (T := TX10) (N := 38) hx hb hts (fun w h => .tail _ (u_inX10 w h)) hown hK.1 hP 0 rfl rfl 20 (by decide) (hts _ (.tail _ u_fl_X10_29)) (fun _ h9 => h9) rfl dX10_open_1 ?_
  refine lv_sipush (v := (172 : Int32)) hx hb dX10_open_4 (by decide) ?_
  refine lv_iconst (v := (0 : Int32)) hx hb dX10_open_7 (by decide) ?_
  refine va_iast hx hb hK.1 hP hD hS 1 0 rfl rfl (by unfold vp_in; decide) dX10_open_8 (fun H locs hP hD hS => ?_)
  have hP : va_P g.1 vwCl [oX10 q_t Q_t (F_t 0 0) (F_t 2 0) (F_t 3 0) (F_t 4 0) (F_t 5 0) (F_t 6 0) (F_t 7 0) (F_t 8 0) (F_t 9 0) (F_t 10 0) (F_t 11 0) (F_t 12 0) (F_t 15 0) (F_t 16 0) (F_t 17 0) (F_t 23 0) (F_t 27 0) (F_t 28 0) (F_t 30 0), ia g (Q_t 20) 174 (upd (F_t 20) (172 : Int32).toNatClampNeg (0 : Int32))] H := hP
  have hD : va_D A [oX10 q_t Q_t (F_t 0 0) (F_t 2 0) (F_t 3 0) (F_t 4 0) (F_t 5 0) (F_t 6 0) (F_t 7 0) (F_t 8 0) (F_t 9 0) (F_t 10 0) (F_t 11 0) (F_t 12 0) (F_t 15 0) (F_t 16 0) (F_t 17 0) (F_t 23 0) (F_t 27 0) (F_t 28 0) (F_t 30 0), ia g (Q_t 20) 174 (upd (F_t 20) (172 : Int32).toNatClampNeg (0 : Int32))] := hD
  refine lv_aload_n hx hb dX10_open_9 rfl (lv_at hl 0 rfl) ?_
  refine va_get (ci := 10) (v := .ref (Q_t 20)) (C := RX10) (T := TX10) (N := 38) hx hb hts (fun w h => .tail _ (u_inX10 w h)) hown hK.1 hP 0 rfl rfl 20 (by decide) (hts _ (.tail _ u_fl_X10_29)) (fun _ h9 => h9) rfl dX10_open_10 ?_
  refine lv_sipush (v := (173 : Int32)) hx hb dX10_open_13 (by decide) ?_
  refine lv_iconst (v := (0 : Int32)) hx hb dX10_open_16 (by decide) ?_
  refine va_iast hx hb hK.1 hP hD hS 1 0 rfl rfl (by unfold vp_in; decide) dX10_open_17 (fun H locs hP hD hS => ?_)
  have hP : va_P g.1 vwCl [oX10 q_t Q_t (F_t 0 0) (F_t 2 0) (F_t 3 0) (F_t 4 0) (F_t 5 0) (F_t 6 0) (F_t 7 0) (F_t 8 0) (F_t 9 0) (F_t 10 0) (F_t 11 0) (F_t 12 0) (F_t 15 0) (F_t 16 0) (F_t 17 0) (F_t 23 0) (F_t 27 0) (F_t 28 0) (F_t 30 0), ia g (Q_t 20) 174 (upd (upd (F_t 20) (172 : Int32).toNatClampNeg (0 : Int32)) (173 : Int32).toNatClampNeg (0 : Int32))] H := hP
  have hD : va_D A [oX10 q_t Q_t (F_t 0 0) (F_t 2 0) (F_t 3 0) (F_t 4 0) (F_t 5 0) (F_t 6 0) (F_t 7 0) (F_t 8 0) (F_t 9 0) (F_t 10 0) (F_t 11 0) (F_t 12 0) (F_t 15 0) (F_t 16 0) (F_t 17 0) (F_t 23 0) (F_t 27 0) (F_t 28 0) (F_t 30 0), ia g (Q_t 20) 174 (upd (upd (F_t 20) (172 : Int32).toNatClampNeg (0 : Int32)) (173 : Int32).toNatClampNeg (0 : Int32))] := hD
  refine lv_iconst (v := (0 : Int32)) hx hb dX10_open_18 (by decide) ?_
  refine lv_istore_n (lv' := [(1, .int (0 : Int32)), (0, .ref q_t)]) hx hb dX10_open_19 rfl hl (by decide) rfl (fun ls hl => ?_)
  obtain ⟨v_3, hv_3, h⟩ := ox_bind h
  refine lpc_W (Wh := fun (z : Int32 × (Nat → Int32)) => WA p l e (rM 0 0) s m args below meth c g A (MQ below (QV g A [oX10 q_t Q_t (F_t 0 0) (F_t 2 0) (F_t 3 0) (F_t 4 0) (F_t 5 0) (F_t 6 0) (F_t 7 0) (F_t 8 0) (F_t 9 0) (F_t 10 0) (F_t 11 0) (F_t 12 0) (F_t 15 0) (F_t 16 0) (F_t 17 0) (F_t 23 0) (F_t 27 0) (F_t 28 0) (F_t 30 0), ia g (Q_t 20) 174 o]) args s 0 0 A) 2 20 [oX10 q_t Q_t (F_t 0 0) (F_t 2 0) (F_t 3 0) (F_t 4 0) (F_t 5 0) (F_t 6 0) (F_t 7 0) (F_t 8 0) (F_t 9 0) (F_t 10 0) (F_t 11 0) (F_t 12 0) (F_t 15 0) (F_t 16 0) (F_t 17 0) (F_t 23 0) (F_t 27 0) (F_t 28 0) (F_t 30 0), ia g (Q_t 20) 174 z.2] [(0, .ref q_t), (1, .int z.1)] []) (We := fun (v : (Nat → Int32)) => WA p l e (rM 0 0) s m args below meth c g A (MQ below (QV g A [oX10 q_t Q_t (F_t 0 0) (F_t 2 0) (F_t 3 0) (F_t 4 0) (F_t 5 0) (F_t 6 0) (F_t 7 0) (F_t 8 0) (F_t 9 0) (F_t 10 0) (F_t 11 0) (F_t 12 0) (F_t 15 0) (F_t 16 0) (F_t 17 0) (F_t 23 0) (F_t 27 0) (F_t 28 0) (F_t 30 0), ia g (Q_t 20) 174 o]) args s 0 0 A) 2 43 [oX10 q_t Q_t (F_t 0 0) (F_t 2 0) (F_t 3 0) (F_t 4 0) (F_t 5 0) (F_t 6 0) (F_t 7 0) (F_t 8 0) (F_t 9 0) (F_t 10 0) (F_t 11 0) (F_t 12 0) (F_t 15 0) (F_t 16 0) (F_t 17 0) (F_t 23 0) (F_t 27 0) (F_t 28 0) (F_t 30 0), ia g (Q_t 20) 174 v] [] []) (fun z r hb hc he => t_X10_open_b20 E q_t Q_t N (va_up F_t 20 z.2) z.1 r hb hc he) N ((0 : Int32), (upd (upd (F_t 20) (172 : Int32).toNatClampNeg (0 : Int32)) (173 : Int32).toNatClampNeg (0 : Int32))) v_3 hv_3 ?_ H locs ls hP hD hS (lv_sub hl [1, 0] rfl)
  intro H locs ls hP hD hS hl
  obtain rfl := Option.some.inj h
  exact k_vret hx hb hr hlk hP hD hS dX10_open_43
set_option maxRecDepth 100000 in
theorem c_X10_open (l : Launch) (g : gG) (q_t : Nat) (Q_t : Ad) (N : Nat) (F_t : St) (o : (Nat → Int32)) (h : x_X10_open N F_t = some o) (sz : Nat) : MetV l yX10_open (.code yX10_open cX10_open 2 none :: gW) 0 0 [.ref q_t] g [oX10 q_t Q_t (F_t 0 0) (F_t 2 0) (F_t 3 0) (F_t 4 0) (F_t 5 0) (F_t 6 0) (F_t 7 0) (F_t 8 0) (F_t 9 0) (F_t 10 0) (F_t 11 0) (F_t 12 0) (F_t 15 0) (F_t 16 0) (F_t 17 0) (F_t 23 0) (F_t 27 0) (F_t 28 0) (F_t 30 0), ia g (Q_t 20) 174 (F_t 20)] [oX10 q_t Q_t (F_t 0 0) (F_t 2 0) (F_t 3 0) (F_t 4 0) (F_t 5 0) (F_t 6 0) (F_t 7 0) (F_t 8 0) (F_t 9 0) (F_t 10 0) (F_t 11 0) (F_t 12 0) (F_t 15 0) (F_t 16 0) (F_t 17 0) (F_t 23 0) (F_t 27 0) (F_t 28 0) (F_t 30 0), ia g (Q_t 20) 174 o] sz :=
  mkV (av := [.ref q_t]) (by decide +kernel) rfl (fun p e s m below meth c A E H locs ls hP hD hS hl => t_X10_open E q_t Q_t N F_t o h H locs ls hP hD hS hl) sz
def x_X10_dry_b2_k29 (N : Nat) (f_a0 : (Nat → Int32)) (x1 : Int32) (s1 : Int32) (s2 : Int32) : Option ((Int32 × (Nat → Int32)) ⊕ ((Nat → Int32))) :=
  if s1 < 0 ∨ 174 ≤ s1.toNatClampNeg then none else some (.inl ((x1 + (1 : Int32)), (upd f_a0 s1.toNatClampNeg s2)))
set_option maxHeartbeats 4000000 in
set_option maxRecDepth 100000 in
theorem t_X10_dry_b2_k29 {p : Program} {l : Launch} {e : Env} {s : State} {m : MethodId} {args : Array Value} {below : List Frame} {meth : Method} {c : Code} {g : gG} {A : Nat → Prop} {Q : State → Prop} (E : En p s m args meth c g A cX10_dry 2 (.code yX10_dry cX10_dry 2 none :: gW) RX10 none) (q_a0 : Nat) (N : Nat) (f_a0 : (Nat → Int32)) (x1 : Int32) (s1 : Int32) (s2 : Int32) (o : (Int32 × (Nat → Int32)) ⊕ ((Nat → Int32))) (h : x_X10_dry_b2_k29 N f_a0 x1 s1 s2 = some o) (hc : ∀ z, o = .inl z → WA p l e (rM 0 0) s m args below meth c g A Q 2 2 [ia g q_a0 174 z.2] [(0, .ref q_a0), (1, .int z.1)] []) (he : ∀ v, o = .inr v → WA p l e (rM 0 0) s m args below meth c g A Q 2 36 [ia g q_a0 174 v] [] []) : WA p l e (rM 0 0) s m args below meth c g A Q 2 29 [ia g q_a0 174 f_a0] [(0, .ref q_a0), (1, .int x1)] [.int s2, .int s1, .ref q_a0] := by
  obtain ⟨⟨hx, hb, hml, hown, hts⟩, hr, hK, hA, hlk⟩ := id E
  intro H locs ls hP hD hS hl
  obtain ⟨hi_1, h⟩ := ox_chk h
  refine va_iast hx hb hK.1 hP hD hS 0 0 rfl rfl hi_1 dX10_dry_29 (fun H locs hP hD hS => ?_)
  have hP : va_P g.1 vwCl [ia g q_a0 174 (upd f_a0 s1.toNatClampNeg s2)] H := hP
  have hD : va_D A [ia g q_a0 174 (upd f_a0 s1.toNatClampNeg s2)] := hD
  refine lv_iinc (v := (x1 + (1 : Int32))) (lv' := [(1, .int (x1 + (1 : Int32))), (0, .ref q_a0)]) hx hb dX10_dry_30 hl (k := 1) rfl rfl (by decide) rfl (fun ls hl => ?_)
  refine lv_goto (tgt := 2) hx hb dX10_dry_33 (by decide) ?_
  obtain rfl := Option.some.inj h
  exact hc _ rfl H locs ls hP hD hS (lv_sub hl [1, 0] rfl)
def x_X10_dry_b2_k28 (N : Nat) (f_a0 : (Nat → Int32)) (x1 : Int32) (s1 : Int32) : Option ((Int32 × (Nat → Int32)) ⊕ ((Nat → Int32))) :=
  x_X10_dry_b2_k29 N f_a0 x1 s1 (0 : Int32)
set_option maxHeartbeats 4000000 in
set_option maxRecDepth 100000 in
theorem t_X10_dry_b2_k28 {p : Program} {l : Launch} {e : Env} {s : State} {m : MethodId} {args : Array Value} {below : List Frame} {meth : Method} {c : Code} {g : gG} {A : Nat → Prop} {Q : State → Prop} (E : En p s m args meth c g A cX10_dry 2 (.code yX10_dry cX10_dry 2 none :: gW) RX10 none) (q_a0 : Nat) (N : Nat) (f_a0 : (Nat → Int32)) (x1 : Int32) (s1 : Int32) (o : (Int32 × (Nat → Int32)) ⊕ ((Nat → Int32))) (h : x_X10_dry_b2_k28 N f_a0 x1 s1 = some o) (hc : ∀ z, o = .inl z → WA p l e (rM 0 0) s m args below meth c g A Q 2 2 [ia g q_a0 174 z.2] [(0, .ref q_a0), (1, .int z.1)] []) (he : ∀ v, o = .inr v → WA p l e (rM 0 0) s m args below meth c g A Q 2 36 [ia g q_a0 174 v] [] []) : WA p l e (rM 0 0) s m args below meth c g A Q 2 28 [ia g q_a0 174 f_a0] [(0, .ref q_a0), (1, .int x1)] [.int s1, .ref q_a0] := by
  obtain ⟨⟨hx, hb, hml, hown, hts⟩, hr, hK, hA, hlk⟩ := id E
  intro H locs ls hP hD hS hl
  refine lv_iconst (v := (0 : Int32)) hx hb dX10_dry_28 (by decide) ?_
  exact t_X10_dry_b2_k29 E q_a0 N f_a0 x1 s1 (0 : Int32) _ h hc he H locs ls hP hD hS hl
def x_X10_dry_b2 (N : Nat) (f_a0 : (Nat → Int32)) (x1 : Int32) : Option ((Int32 × (Nat → Int32)) ⊕ ((Nat → Int32))) :=
  if (162 : Int32) ≤ x1 then (some (.inr f_a0)) else (if x1 < (88 : Int32) then (x_X10_dry_b2_k28 N f_a0 x1 x1) else (if (152 : Int32) ≤ x1 then (x_X10_dry_b2_k28 N f_a0 x1 x1) else (x_X10_dry_b2_k29 N f_a0 x1 x1 (-1 : Int32))))
set_option maxHeartbeats 4000000 in
set_option maxRecDepth 100000 in
theorem t_X10_dry_b2 {p : Program} {l : Launch} {e : Env} {s : State} {m : MethodId} {args : Array Value} {below : List Frame} {meth : Method} {c : Code} {g : gG} {A : Nat → Prop} {Q : State → Prop} (E : En p s m args meth c g A cX10_dry 2 (.code yX10_dry cX10_dry 2 none :: gW) RX10 none) (q_a0 : Nat) (N : Nat) (f_a0 : (Nat → Int32)) (x1 : Int32) (o : (Int32 × (Nat → Int32)) ⊕ ((Nat → Int32))) (h : x_X10_dry_b2 N f_a0 x1 = some o) (hc : ∀ z, o = .inl z → WA p l e (rM 0 0) s m args below meth c g A Q 2 2 [ia g q_a0 174 z.2] [(0, .ref q_a0), (1, .int z.1)] []) (he : ∀ v, o = .inr v → WA p l e (rM 0 0) s m args below meth c g A Q 2 36 [ia g q_a0 174 v] [] []) : WA p l e (rM 0 0) s m args below meth c g A Q 2 2 [ia g q_a0 174 f_a0] [(0, .ref q_a0), (1, .int x1)] [] := by
  obtain ⟨⟨hx, hb, hml, hown, hts⟩, hr, hK, hA, hlk⟩ := id E
  intro H locs ls hP hD hS hl
  refine lv_iload_n hx hb dX10_dry_2 rfl (lv_at hl 1 rfl) ?_
  refine lv_sipush (v := (162 : Int32)) hx hb dX10_dry_3 (by decide) ?_
  refine lv_icmp_ge (tgt := 36) hx hb dX10_dry_6 (by decide) (fun c_2 => ?_) (fun c_2 => ?_)
  · have h := ox_t c_2 h
    obtain rfl := Option.some.inj h
    exact he _ rfl H locs ls hP hD hS (lv_sub hl [] rfl)
  · have h := ox_f c_2 h
    refine lv_aload_n hx hb dX10_dry_9 rfl (lv_at hl 0 rfl) ?_
    refine lv_iload_n hx hb dX10_dry_10 rfl (lv_at hl 1 rfl) ?_
    refine lv_iload_n hx hb dX10_dry_11 rfl (lv_at hl 1 rfl) ?_
    refine lv_bipush (v := (88 : Int32)) hx hb dX10_dry_12 (by decide) ?_
    refine lv_icmp_lt (tgt := 28) hx hb dX10_dry_14 (by decide) (fun c_3 => ?_) (fun c_3 => ?_)
    · have h := ox_t c_3 h
      exact t_X10_dry_b2_k28 E q_a0 N f_a0 x1 x1 _ h hc he H locs ls hP hD hS hl
    · have h := ox_f c_3 h
      refine lv_iload_n hx hb dX10_dry_17 rfl (lv_at hl 1 rfl) ?_
      refine lv_sipush (v := (152 : Int32)) hx hb dX10_dry_18 (by decide) ?_
      refine lv_icmp_ge (tgt := 28) hx hb dX10_dry_21 (by decide) (fun c_4 => ?_) (fun c_4 => ?_)
      · have h := ox_t c_4 h
        exact t_X10_dry_b2_k28 E q_a0 N f_a0 x1 x1 _ h hc he H locs ls hP hD hS hl
      · have h := ox_f c_4 h
        refine lv_iconst (v := (-1 : Int32)) hx hb dX10_dry_24 (by decide) ?_
        refine lv_goto (tgt := 29) hx hb dX10_dry_25 (by decide) ?_
        exact t_X10_dry_b2_k29 E q_a0 N f_a0 x1 x1 (-1 : Int32) _ h hc he H locs ls hP hD hS hl
def x_X10_dry (N : Nat) (f_a0 : (Nat → Int32)) : Option ((Nat → Int32)) :=
  Option.bind (lpc (fun (z : Int32 × (Nat → Int32)) => x_X10_dry_b2 N z.2 z.1) N ((0 : Int32), f_a0)) (fun v_5 => some v_5)
set_option maxHeartbeats 4000000 in
set_option maxRecDepth 100000 in
theorem t_X10_dry {p : Program} {l : Launch} {e : Env} {s : State} {m : MethodId} {args : Array Value} {below : List Frame} {meth : Method} {c : Code} {g : gG} {A : Nat → Prop} (E : En p s m args meth c g A cX10_dry 2 (.code yX10_dry cX10_dry 2 none :: gW) RX10 none) (q_a0 : Nat) (N : Nat) (f_a0 : (Nat → Int32)) (o : (Nat → Int32)) (h : x_X10_dry N f_a0 = some o) : WA p l e (rM 0 0) s m args below meth c g A (MQ below (QV g A [ia g q_a0 174 o]) args s 0 0 A) 2 0 [ia g q_a0 174 f_a0] [(0, .ref q_a0)] [] := by
  obtain ⟨⟨hx, hb, hml, hown, hts⟩, hr, hK, hA, hlk⟩ := id E
  intro H locs ls hP hD hS hl
  refine lv_iconst (v := (0 : Int32)) hx hb dX10_dry_0 (by decide) ?_
  refine lv_istore_n (lv' := [(1, .int (0 : Int32)), (0, .ref q_a0)]) hx hb dX10_dry_1 rfl hl (by decide) rfl (fun ls hl => ?_)
  obtain ⟨v_5, hv_5, h⟩ := ox_bind h
  refine lpc_W (Wh := fun (z : Int32 × (Nat → Int32)) => WA p l e (rM 0 0) s m args below meth c g A (MQ below (QV g A [ia g q_a0 174 o]) args s 0 0 A) 2 2 [ia g q_a0 174 z.2] [(0, .ref q_a0), (1, .int z.1)] []) (We := fun (v : (Nat → Int32)) => WA p l e (rM 0 0) s m args below meth c g A (MQ below (QV g A [ia g q_a0 174 o]) args s 0 0 A) 2 36 [ia g q_a0 174 v] [] []) (fun z r hb hc he => t_X10_dry_b2 E q_a0 N z.2 z.1 r hb hc he) N ((0 : Int32), f_a0) v_5 hv_5 ?_ H locs ls hP hD hS (lv_sub hl [1, 0] rfl)
  intro H locs ls hP hD hS hl
  obtain rfl := Option.some.inj h
  exact k_vret hx hb hr hlk hP hD hS dX10_dry_36
set_option maxRecDepth 100000 in
theorem c_X10_dry (l : Launch) (g : gG) (q_a0 : Nat) (N : Nat) (f_a0 : (Nat → Int32)) (o : (Nat → Int32)) (h : x_X10_dry N f_a0 = some o) (sz : Nat) : MetV l yX10_dry (.code yX10_dry cX10_dry 2 none :: gW) 0 0 [.ref q_a0] g [ia g q_a0 174 f_a0] [ia g q_a0 174 o] sz :=
  mkV (av := [.ref q_a0]) (by decide +kernel) rfl (fun p e s m below meth c A E H locs ls hP hD hS hl => t_X10_dry E q_a0 N f_a0 o h H locs ls hP hD hS hl) sz
def x_X10_in (x0 : Int32) (x1 : Int32) (x2 : Int32) : Option (Int32) :=
  if x0 < x1 then (some (0 : Int32)) else (if x2 < x0 then (some (0 : Int32)) else (some (1 : Int32)))
set_option maxHeartbeats 4000000 in
set_option maxRecDepth 100000 in
theorem t_X10_in {p : Program} {l : Launch} {e : Env} {s : State} {m : MethodId} {args : Array Value} {below : List Frame} {meth : Method} {c : Code} {g : gG} {A : Nat → Prop} (E : En p s m args meth c g A cX10_in 3 (.code yX10_in cX10_in 3 (some .boolean) :: gW) RX10 (some .boolean)) (x0 : Int32) (x1 : Int32) (x2 : Int32) (o : Int32) (h : x_X10_in x0 x1 x2 = some o) : WA p l e (rM 0 0) s m args below meth c g A (MQ below (QI g A o []) args s 0 0 A) 3 0 [] [(0, .int x0), (1, .int x1), (2, .int x2)] [] := by
  obtain ⟨⟨hx, hb, hml, hown, hts⟩, hr, hK, hA, hlk⟩ := id E
  intro H locs ls hP hD hS hl
  refine lv_iload_n hx hb dX10_in_0 rfl (lv_at hl 0 rfl) ?_
  refine lv_iload_n hx hb dX10_in_1 rfl (lv_at hl 1 rfl) ?_
  refine lv_icmp_lt (tgt := 14) hx hb dX10_in_2 (by decide) (fun c_1 => ?_) (fun c_1 => ?_)
  · have h := ox_t c_1 h
    refine lv_iconst (v := (0 : Int32)) hx hb dX10_in_14 (by decide) ?_
    obtain rfl := Option.some.inj h
    exact k_zret hx hb hr hlk (.inl rfl) hP hD hS dX10_in_15
  · have h := ox_f c_1 h
    refine lv_iload_n hx hb dX10_in_5 rfl (lv_at hl 0 rfl) ?_
    refine lv_iload_n hx hb dX10_in_6 rfl (lv_at hl 2 rfl) ?_
    refine lv_icmp_gt (tgt := 14) hx hb dX10_in_7 (by decide) (fun c_2 => ?_) (fun c_2 => ?_)
    · have h := ox_t c_2 h
      refine lv_iconst (v := (0 : Int32)) hx hb dX10_in_14 (by decide) ?_
      obtain rfl := Option.some.inj h
      exact k_zret hx hb hr hlk (.inl rfl) hP hD hS dX10_in_15
    · have h := ox_f c_2 h
      refine lv_iconst (v := (1 : Int32)) hx hb dX10_in_10 (by decide) ?_
      refine lv_goto (tgt := 15) hx hb dX10_in_11 (by decide) ?_
      obtain rfl := Option.some.inj h
      exact k_zret hx hb hr hlk (.inr rfl) hP hD hS dX10_in_15
set_option maxRecDepth 100000 in
theorem c_X10_in (l : Launch) (g : gG)  (x0 : Int32) (x1 : Int32) (x2 : Int32) (o : Int32) (h : x_X10_in x0 x1 x2 = some o) (sz : Nat) : MetI l yX10_in (.code yX10_in cX10_in 3 (some .boolean) :: gW) 0 0 [.int x0, .int x1, .int x2] o g [] [] sz :=
  mkI (av := [.int x0, .int x1, .int x2]) (by decide +kernel) rfl (fun p e s m below meth c A E H locs ls hP hD hS hl => t_X10_in E  x0 x1 x2 o h H locs ls hP hD hS hl) sz
def x_X10_has (x0 : Int32) (x1 : Int32) : Option (Int32) :=
  if ((x0 >>> (x1 &&& 31)) &&& (1 : Int32)) = (1 : Int32) then (some (1 : Int32)) else (some (0 : Int32))
set_option maxHeartbeats 4000000 in
set_option maxRecDepth 100000 in
theorem t_X10_has {p : Program} {l : Launch} {e : Env} {s : State} {m : MethodId} {args : Array Value} {below : List Frame} {meth : Method} {c : Code} {g : gG} {A : Nat → Prop} (E : En p s m args meth c g A cX10_has 2 (.code yX10_has cX10_has 2 (some .boolean) :: gW) RX10 (some .boolean)) (x0 : Int32) (x1 : Int32) (o : Int32) (h : x_X10_has x0 x1 = some o) : WA p l e (rM 0 0) s m args below meth c g A (MQ below (QI g A o []) args s 0 0 A) 2 0 [] [(0, .int x0), (1, .int x1)] [] := by
  obtain ⟨⟨hx, hb, hml, hown, hts⟩, hr, hK, hA, hlk⟩ := id E
  intro H locs ls hP hD hS hl
  refine lv_iload_n hx hb dX10_has_0 rfl (lv_at hl 0 rfl) ?_
  refine lv_iload_n hx hb dX10_has_1 rfl (lv_at hl 1 rfl) ?_
  refine lv_ishr hx hb dX10_has_2 ?_
  refine lv_iconst (v := (1 : Int32)) hx hb dX10_has_3 (by decide) ?_
  refine lv_iand hx hb dX10_has_4 ?_
  refine lv_iconst (v := (1 : Int32)) hx hb dX10_has_5 (by decide) ?_
  refine lv_icmp_ne (tgt := 13) hx hb dX10_has_6 (by decide) (fun c_1 => ?_) (fun c_1 => ?_)
  · have h := ox_f c_1 h
    refine lv_iconst (v := (0 : Int32)) hx hb dX10_has_13 (by decide) ?_
    obtain rfl := Option.some.inj h
    exact k_zret hx hb hr hlk (.inl rfl) hP hD hS dX10_has_14
  · have h := ox_t c_1 h
    refine lv_iconst (v := (1 : Int32)) hx hb dX10_has_9 (by decide) ?_
    refine lv_goto (tgt := 14) hx hb dX10_has_10 (by decide) ?_
    obtain rfl := Option.some.inj h
    exact k_zret hx hb hr hlk (.inr rfl) hP hD hS dX10_has_14
set_option maxRecDepth 100000 in
theorem c_X10_has (l : Launch) (g : gG)  (x0 : Int32) (x1 : Int32) (o : Int32) (h : x_X10_has x0 x1 = some o) (sz : Nat) : MetI l yX10_has (.code yX10_has cX10_has 2 (some .boolean) :: gW) 0 0 [.int x0, .int x1] o g [] [] sz :=
  mkI (av := [.int x0, .int x1]) (by decide +kernel) rfl (fun p e s m below meth c A E H locs ls hP hD hS hl => t_X10_has E  x0 x1 o h H locs ls hP hD hS hl) sz
def x_X10_bits_b4 (N : Nat) (x0 : Int32) (x1 : Int32) (x2 : Int32) : Option ((Int32 × Int32) ⊕ (Int32)) :=
  if (11 : Int32) ≤ x2 then (some (.inr x1)) else (xl (x1 + ((x0 >>> (x2 &&& 31)) &&& (1 : Int32))) (fun y_2 => some (.inl (y_2, (x2 + (1 : Int32))))))
set_option maxHeartbeats 4000000 in
set_option maxRecDepth 100000 in
theorem t_X10_bits_b4 {p : Program} {l : Launch} {e : Env} {s : State} {m : MethodId} {args : Array Value} {below : List Frame} {meth : Method} {c : Code} {g : gG} {A : Nat → Prop} {Q : State → Prop} (E : En p s m args meth c g A cX10_bits 3 (.code yX10_bits cX10_bits 3 (some .int) :: gW) RX10 (some .int)) (N : Nat) (x0 : Int32) (x1 : Int32) (x2 : Int32) (o : (Int32 × Int32) ⊕ (Int32)) (h : x_X10_bits_b4 N x0 x1 x2 = some o) (hc : ∀ z, o = .inl z → WA p l e (rM 0 0) s m args below meth c g A Q 3 4 [] [(0, .int x0), (1, .int z.1), (2, .int z.2)] []) (he : ∀ v, o = .inr v → WA p l e (rM 0 0) s m args below meth c g A Q 3 24 [] [(1, .int v)] []) : WA p l e (rM 0 0) s m args below meth c g A Q 3 4 [] [(0, .int x0), (1, .int x1), (2, .int x2)] [] := by
  obtain ⟨⟨hx, hb, hml, hown, hts⟩, hr, hK, hA, hlk⟩ := id E
  intro H locs ls hP hD hS hl
  refine lv_iload_n hx hb dX10_bits_4 rfl (lv_at hl 2 rfl) ?_
  refine lv_bipush (v := (11 : Int32)) hx hb dX10_bits_5 (by decide) ?_
  refine lv_icmp_ge (tgt := 24) hx hb dX10_bits_7 (by decide) (fun c_1 => ?_) (fun c_1 => ?_)
  · have h := ox_t c_1 h
    obtain rfl := Option.some.inj h
    exact he _ rfl H locs ls hP hD hS (lv_sub hl [1] rfl)
  · have h := ox_f c_1 h
    refine lv_iload_n hx hb dX10_bits_10 rfl (lv_at hl 1 rfl) ?_
    refine lv_iload_n hx hb dX10_bits_11 rfl (lv_at hl 0 rfl) ?_
    refine lv_iload_n hx hb dX10_bits_12 rfl (lv_at hl 2 rfl) ?_
    refine lv_ishr hx hb dX10_bits_13 ?_
    refine lv_iconst (v := (1 : Int32)) hx hb dX10_bits_14 (by decide) ?_
    refine lv_iand hx hb dX10_bits_15 ?_
    refine lv_iadd hx hb dX10_bits_16 ?_
    refine lv_topi (fun y_2 ey_2 => ?_)
    have h := xl_at ey_2 h
    refine lv_istore_n (lv' := [(1, .int y_2), (0, .int x0), (2, .int x2)]) hx hb dX10_bits_17 rfl hl (by decide) rfl (fun ls hl => ?_)
    refine lv_iinc (v := (x2 + (1 : Int32))) (lv' := [(2, .int (x2 + (1 : Int32))), (1, .int y_2), (0, .int x0)]) hx hb dX10_bits_18 hl (k := 2) rfl rfl (by decide) rfl (fun ls hl => ?_)
    refine lv_goto (tgt := 4) hx hb dX10_bits_21 (by decide) ?_
    obtain rfl := Option.some.inj h
    exact hc _ rfl H locs ls hP hD hS (lv_sub hl [2, 1, 0] rfl)
def x_X10_bits (N : Nat) (x0 : Int32) : Option (Int32) :=
  Option.bind (lpc (fun (z : Int32 × Int32) => x_X10_bits_b4 N x0 z.1 z.2) N ((0 : Int32), (0 : Int32))) (fun v_3 => some v_3)
set_option maxHeartbeats 4000000 in
set_option maxRecDepth 100000 in
theorem t_X10_bits {p : Program} {l : Launch} {e : Env} {s : State} {m : MethodId} {args : Array Value} {below : List Frame} {meth : Method} {c : Code} {g : gG} {A : Nat → Prop} (E : En p s m args meth c g A cX10_bits 3 (.code yX10_bits cX10_bits 3 (some .int) :: gW) RX10 (some .int)) (N : Nat) (x0 : Int32) (o : Int32) (h : x_X10_bits N x0 = some o) : WA p l e (rM 0 0) s m args below meth c g A (MQ below (QI g A o []) args s 0 0 A) 3 0 [] [(0, .int x0)] [] := by
  obtain ⟨⟨hx, hb, hml, hown, hts⟩, hr, hK, hA, hlk⟩ := id E
  intro H locs ls hP hD hS hl
  refine lv_iconst (v := (0 : Int32)) hx hb dX10_bits_0 (by decide) ?_
  refine lv_istore_n (lv' := [(1, .int (0 : Int32)), (0, .int x0)]) hx hb dX10_bits_1 rfl hl (by decide) rfl (fun ls hl => ?_)
  refine lv_iconst (v := (0 : Int32)) hx hb dX10_bits_2 (by decide) ?_
  refine lv_istore_n (lv' := [(2, .int (0 : Int32)), (1, .int (0 : Int32)), (0, .int x0)]) hx hb dX10_bits_3 rfl hl (by decide) rfl (fun ls hl => ?_)
  obtain ⟨v_3, hv_3, h⟩ := ox_bind h
  refine lpc_W (Wh := fun (z : Int32 × Int32) => WA p l e (rM 0 0) s m args below meth c g A (MQ below (QI g A o []) args s 0 0 A) 3 4 [] [(0, .int x0), (1, .int z.1), (2, .int z.2)] []) (We := fun (v : Int32) => WA p l e (rM 0 0) s m args below meth c g A (MQ below (QI g A o []) args s 0 0 A) 3 24 [] [(1, .int v)] []) (fun z r hb hc he => t_X10_bits_b4 E N x0 z.1 z.2 r hb hc he) N ((0 : Int32), (0 : Int32)) v_3 hv_3 ?_ H locs ls hP hD hS (lv_sub hl [2, 1, 0] rfl)
  intro H locs ls hP hD hS hl
  refine lv_iload_n hx hb dX10_bits_24 rfl (lv_at hl 0 rfl) ?_
  obtain rfl := Option.some.inj h
  exact k_iret hx hb hr hlk hP hD hS dX10_bits_25
set_option maxRecDepth 100000 in
theorem c_X10_bits (l : Launch) (g : gG)  (N : Nat) (x0 : Int32) (o : Int32) (h : x_X10_bits N x0 = some o) (sz : Nat) : MetI l yX10_bits (.code yX10_bits cX10_bits 3 (some .int) :: gW) 0 0 [.int x0] o g [] [] sz :=
  mkI (av := [.int x0]) (by decide +kernel) rfl (fun p e s m below meth c A E H locs ls hP hD hS hl => t_X10_bits E  N x0 o h H locs ls hP hD hS hl) sz
def x_X10_isPlace (F_t : St) (x1 : Int32) : Option (Int32) :=
  Option.bind (x_X10_in x1 (0 : Int32) ((F_t 16 0) - (1 : Int32))) (fun v_1 => if v_1 = 0 ∨ v_1 = 1 then some v_1 else none)
set_option maxHeartbeats 4000000 in
set_option maxRecDepth 100000 in
theorem t_X10_isPlace {p : Program} {l : Launch} {e : Env} {s : State} {m : MethodId} {args : Array Value} {below : List Frame} {meth : Method} {c : Code} {g : gG} {A : Nat → Prop} (E : En p s m args meth c g A cX10_isPlace 2 (.code yX10_isPlace cX10_isPlace 2 (some .boolean) :: gW) RX10 (some .boolean)) (q_t : Nat) (Q_t : Ad) (F_t : St) (x1 : Int32) (o : Int32) (h : x_X10_isPlace F_t x1 = some o) : WA p l e (rM 1 22) s m args below meth c g A (MQ below (QI g A o [oX10 q_t Q_t (F_t 0 0) (F_t 2 0) (F_t 3 0) (F_t 4 0) (F_t 5 0) (F_t 6 0) (F_t 7 0) (F_t 8 0) (F_t 9 0) (F_t 10 0) (F_t 11 0) (F_t 12 0) (F_t 15 0) (F_t 16 0) (F_t 17 0) (F_t 23 0) (F_t 27 0) (F_t 28 0) (F_t 30 0)]) args s 0 0 A) 2 0 [oX10 q_t Q_t (F_t 0 0) (F_t 2 0) (F_t 3 0) (F_t 4 0) (F_t 5 0) (F_t 6 0) (F_t 7 0) (F_t 8 0) (F_t 9 0) (F_t 10 0) (F_t 11 0) (F_t 12 0) (F_t 15 0) (F_t 16 0) (F_t 17 0) (F_t 23 0) (F_t 27 0) (F_t 28 0) (F_t 30 0)] [(0, .ref q_t), (1, .int x1)] [] := by
  obtain ⟨⟨hx, hb, hml, hown, hts⟩, hr, hK, hA, hlk⟩ := id E
  intro H locs ls hP hD hS hl
  refine lv_iload_n hx hb dX10_isPlace_0 rfl (lv_at hl 1 rfl) ?_
  refine lv_iconst (v := (0 : Int32)) hx hb dX10_isPlace_1 (by decide) ?_
  refine lv_aload_n hx hb dX10_isPlace_2 rfl (lv_at hl 0 rfl) ?_
  refine va_get (ci := 10) (v := .int (F_t 16 0)) (C := RX10) (T := TX10) (N := 38) hx hb hts (fun w h => .tail _ (u_inX10 w h)) hown hK.1 hP 0 rfl rfl 16 (by decide) (hts _ (.tail _ u_fl_X10_80)) (fun _ h9 => h9) rfl dX10_isPlace_3 ?_
  refine lv_iconst (v := (1 : Int32)) hx hb dX10_isPlace_6 (by decide) ?_
  refine lv_isub hx hb dX10_isPlace_7 ?_
  obtain ⟨v_1, hv_1, h⟩ := ox_bind h
  refine kSi ⟨hx, hb, hml, hown, hts⟩ (c_X10_in l g x1 (0 : Int32) ((F_t 16 0) - (1 : Int32)) v_1 hv_1 H.size) (gS u_ml_X10_83 u_st_X10_in u_ini_X10 u_co_X10_in) hd_X10_in ⟨rfl, rfl⟩ hK hP hD hS hA [] [0] rfl rfl 0 rfl (w2 := [oX10 q_t Q_t (F_t 0 0) (F_t 2 0) (F_t 3 0) (F_t 4 0) (F_t 5 0) (F_t 6 0) (F_t 7 0) (F_t 8 0) (F_t 9 0) (F_t 10 0) (F_t 11 0) (F_t 12 0) (F_t 15 0) (F_t 16 0) (F_t 17 0) (F_t 23 0) (F_t 27 0) (F_t 28 0) (F_t 30 0)]) rfl rfl (As := [.int x1, .int (0 : Int32), .int ((F_t 16 0) - (1 : Int32))]) (rest := []) rfl hl.1 rfl rfl dX10_isPlace_8 (fun H locs hP hD hS => ?_)
  obtain ⟨hz_2, h⟩ := ox_ok h
  obtain rfl := Option.some.inj h
  exact k_zret hx hb hr hlk hz_2 hP hD hS dX10_isPlace_11
set_option maxRecDepth 100000 in
theorem c_X10_isPlace (l : Launch) (g : gG) (q_t : Nat) (Q_t : Ad) (F_t : St) (x1 : Int32) (o : Int32) (h : x_X10_isPlace F_t x1 = some o) (sz : Nat) : MetI l yX10_isPlace (.code yX10_isPlace cX10_isPlace 2 (some .boolean) :: gW) 1 22 [.ref q_t, .int x1] o g [oX10 q_t Q_t (F_t 0 0) (F_t 2 0) (F_t 3 0) (F_t 4 0) (F_t 5 0) (F_t 6 0) (F_t 7 0) (F_t 8 0) (F_t 9 0) (F_t 10 0) (F_t 11 0) (F_t 12 0) (F_t 15 0) (F_t 16 0) (F_t 17 0) (F_t 23 0) (F_t 27 0) (F_t 28 0) (F_t 30 0)] [oX10 q_t Q_t (F_t 0 0) (F_t 2 0) (F_t 3 0) (F_t 4 0) (F_t 5 0) (F_t 6 0) (F_t 7 0) (F_t 8 0) (F_t 9 0) (F_t 10 0) (F_t 11 0) (F_t 12 0) (F_t 15 0) (F_t 16 0) (F_t 17 0) (F_t 23 0) (F_t 27 0) (F_t 28 0) (F_t 30 0)] sz :=
  mkI (av := [.ref q_t, .int x1]) (by decide +kernel) rfl (fun p e s m below meth c A E H locs ls hP hD hS hl => t_X10_isPlace E q_t Q_t F_t x1 o h H locs ls hP hD hS hl) sz
def x_X10_isChannel (F_t : St) (x1 : Int32) : Option (Int32) :=
  Option.bind (x_X10_in x1 (0 : Int32) ((F_t 17 0) - (1 : Int32))) (fun v_1 => if v_1 = 0 ∨ v_1 = 1 then some v_1 else none)
set_option maxHeartbeats 4000000 in
set_option maxRecDepth 100000 in
theorem t_X10_isChannel {p : Program} {l : Launch} {e : Env} {s : State} {m : MethodId} {args : Array Value} {below : List Frame} {meth : Method} {c : Code} {g : gG} {A : Nat → Prop} (E : En p s m args meth c g A cX10_isChannel 2 (.code yX10_isChannel cX10_isChannel 2 (some .boolean) :: gW) RX10 (some .boolean)) (q_t : Nat) (Q_t : Ad) (F_t : St) (x1 : Int32) (o : Int32) (h : x_X10_isChannel F_t x1 = some o) : WA p l e (rM 1 22) s m args below meth c g A (MQ below (QI g A o [oX10 q_t Q_t (F_t 0 0) (F_t 2 0) (F_t 3 0) (F_t 4 0) (F_t 5 0) (F_t 6 0) (F_t 7 0) (F_t 8 0) (F_t 9 0) (F_t 10 0) (F_t 11 0) (F_t 12 0) (F_t 15 0) (F_t 16 0) (F_t 17 0) (F_t 23 0) (F_t 27 0) (F_t 28 0) (F_t 30 0)]) args s 0 0 A) 2 0 [oX10 q_t Q_t (F_t 0 0) (F_t 2 0) (F_t 3 0) (F_t 4 0) (F_t 5 0) (F_t 6 0) (F_t 7 0) (F_t 8 0) (F_t 9 0) (F_t 10 0) (F_t 11 0) (F_t 12 0) (F_t 15 0) (F_t 16 0) (F_t 17 0) (F_t 23 0) (F_t 27 0) (F_t 28 0) (F_t 30 0)] [(0, .ref q_t), (1, .int x1)] [] := by
  obtain ⟨⟨hx, hb, hml, hown, hts⟩, hr, hK, hA, hlk⟩ := id E
  intro H locs ls hP hD hS hl
  refine lv_iload_n hx hb dX10_isChannel_0 rfl (lv_at hl 1 rfl) ?_
  refine lv_iconst (v := (0 : Int32)) hx hb dX10_isChannel_1 (by decide) ?_
  refine lv_aload_n hx hb dX10_isChannel_2 rfl (lv_at hl 0 rfl) ?_
  refine va_get (ci := 10) (v := .int (F_t 17 0)) (C := RX10) (T := TX10) (N := 38) hx hb hts (fun w h => .tail _ (u_inX10 w h)) hown hK.1 hP 0 rfl rfl 17 (by decide) (hts _ (.tail _ u_fl_X10_87)) (fun _ h9 => h9) rfl dX10_isChannel_3 ?_
  refine lv_iconst (v := (1 : Int32)) hx hb dX10_isChannel_6 (by decide) ?_
  refine lv_isub hx hb dX10_isChannel_7 ?_
  obtain ⟨v_1, hv_1, h⟩ := ox_bind h
  refine kSi ⟨hx, hb, hml, hown, hts⟩ (c_X10_in l g x1 (0 : Int32) ((F_t 17 0) - (1 : Int32)) v_1 hv_1 H.size) (gS u_ml_X10_83 u_st_X10_in u_ini_X10 u_co_X10_in) hd_X10_in ⟨rfl, rfl⟩ hK hP hD hS hA [] [0] rfl rfl 0 rfl (w2 := [oX10 q_t Q_t (F_t 0 0) (F_t 2 0) (F_t 3 0) (F_t 4 0) (F_t 5 0) (F_t 6 0) (F_t 7 0) (F_t 8 0) (F_t 9 0) (F_t 10 0) (F_t 11 0) (F_t 12 0) (F_t 15 0) (F_t 16 0) (F_t 17 0) (F_t 23 0) (F_t 27 0) (F_t 28 0) (F_t 30 0)]) rfl rfl (As := [.int x1, .int (0 : Int32), .int ((F_t 17 0) - (1 : Int32))]) (rest := []) rfl hl.1 rfl rfl dX10_isChannel_8 (fun H locs hP hD hS => ?_)
  obtain ⟨hz_2, h⟩ := ox_ok h
  obtain rfl := Option.some.inj h
  exact k_zret hx hb hr hlk hz_2 hP hD hS dX10_isChannel_11
set_option maxRecDepth 100000 in
theorem c_X10_isChannel (l : Launch) (g : gG) (q_t : Nat) (Q_t : Ad) (F_t : St) (x1 : Int32) (o : Int32) (h : x_X10_isChannel F_t x1 = some o) (sz : Nat) : MetI l yX10_isChannel (.code yX10_isChannel cX10_isChannel 2 (some .boolean) :: gW) 1 22 [.ref q_t, .int x1] o g [oX10 q_t Q_t (F_t 0 0) (F_t 2 0) (F_t 3 0) (F_t 4 0) (F_t 5 0) (F_t 6 0) (F_t 7 0) (F_t 8 0) (F_t 9 0) (F_t 10 0) (F_t 11 0) (F_t 12 0) (F_t 15 0) (F_t 16 0) (F_t 17 0) (F_t 23 0) (F_t 27 0) (F_t 28 0) (F_t 30 0)] [oX10 q_t Q_t (F_t 0 0) (F_t 2 0) (F_t 3 0) (F_t 4 0) (F_t 5 0) (F_t 6 0) (F_t 7 0) (F_t 8 0) (F_t 9 0) (F_t 10 0) (F_t 11 0) (F_t 12 0) (F_t 15 0) (F_t 16 0) (F_t 17 0) (F_t 23 0) (F_t 27 0) (F_t 28 0) (F_t 30 0)] sz :=
  mkI (av := [.ref q_t, .int x1]) (by decide +kernel) rfl (fun p e s m below meth c A E H locs ls hP hD hS hl => t_X10_isChannel E q_t Q_t F_t x1 o h H locs ls hP hD hS hl) sz
def x_X10_isSaying (x0 : Int32) : Option (Int32) :=
  Option.bind (x_X10_in x0 (0 : Int32) (7 : Int32)) (fun v_1 => if v_1 = 0 ∨ v_1 = 1 then some v_1 else none)
set_option maxHeartbeats 4000000 in
set_option maxRecDepth 100000 in
theorem t_X10_isSaying {p : Program} {l : Launch} {e : Env} {s : State} {m : MethodId} {args : Array Value} {below : List Frame} {meth : Method} {c : Code} {g : gG} {A : Nat → Prop} (E : En p s m args meth c g A cX10_isSaying 1 (.code yX10_isSaying cX10_isSaying 1 (some .boolean) :: gW) RX10 (some .boolean)) (x0 : Int32) (o : Int32) (h : x_X10_isSaying x0 = some o) : WA p l e (rM 1 22) s m args below meth c g A (MQ below (QI g A o []) args s 0 0 A) 1 0 [] [(0, .int x0)] [] := by
  obtain ⟨⟨hx, hb, hml, hown, hts⟩, hr, hK, hA, hlk⟩ := id E
  intro H locs ls hP hD hS hl
  refine lv_iload_n hx hb dX10_isSaying_0 rfl (lv_at hl 0 rfl) ?_
  refine lv_iconst (v := (0 : Int32)) hx hb dX10_isSaying_1 (by decide) ?_
  refine lv_bipush (v := (7 : Int32)) hx hb dX10_isSaying_2 (by decide) ?_
  obtain ⟨v_1, hv_1, h⟩ := ox_bind h
  refine kSi ⟨hx, hb, hml, hown, hts⟩ (c_X10_in l g x0 (0 : Int32) (7 : Int32) v_1 hv_1 H.size) (gS u_ml_X10_83 u_st_X10_in u_ini_X10 u_co_X10_in) hd_X10_in ⟨rfl, rfl⟩ hK hP hD hS hA [] [] rfl rfl 0 rfl (w2 := []) rfl rfl (As := [.int x0, .int (0 : Int32), .int (7 : Int32)]) (rest := []) rfl hl.1 rfl rfl dX10_isSaying_4 (fun H locs hP hD hS => ?_)
  obtain ⟨hz_2, h⟩ := ox_ok h
  obtain rfl := Option.some.inj h
  exact k_zret hx hb hr hlk hz_2 hP hD hS dX10_isSaying_7
set_option maxRecDepth 100000 in
theorem c_X10_isSaying (l : Launch) (g : gG)  (x0 : Int32) (o : Int32) (h : x_X10_isSaying x0 = some o) (sz : Nat) : MetI l yX10_isSaying (.code yX10_isSaying cX10_isSaying 1 (some .boolean) :: gW) 1 22 [.int x0] o g [] [] sz :=
  mkI (av := [.int x0]) (by decide +kernel) rfl (fun p e s m below meth c A E H locs ls hP hD hS hl => t_X10_isSaying E  x0 o h H locs ls hP hD hS hl) sz
def x_X10_feed (F_t : St) (x1 : Int32) : Option (Int32 × Int32 × (Nat → Int32)) :=
  Option.bind (x_X10_in x1 (0 : Int32) (255 : Int32)) (fun v_1 => if v_1 = 0 then (some ((-1000000002 : Int32), (F_t 0 0), (F_t 1))) else (if (F_t 0 0) = (240 : Int32) then (some ((-1000000004 : Int32), (F_t 0 0), (F_t 1))) else (if (F_t 0 0) < 0 ∨ 240 ≤ (F_t 0 0).toNatClampNeg then none else xl ((F_t 0 0) + (1 : Int32)) (fun y_5 => some (y_5, y_5, (upd (F_t 1) (F_t 0 0).toNatClampNeg x1))))))
set_option maxHeartbeats 4000000 in
set_option maxRecDepth 100000 in
theorem t_X10_feed {p : Program} {l : Launch} {e : Env} {s : State} {m : MethodId} {args : Array Value} {below : List Frame} {meth : Method} {c : Code} {g : gG} {A : Nat → Prop} (E : En p s m args meth c g A cX10_feed 2 (.code yX10_feed cX10_feed 2 (some .int) :: gW) RX10 (some .int)) (q_t : Nat) (Q_t : Ad) (F_t : St) (x1 : Int32) (o : Int32 × Int32 × (Nat → Int32)) (h : x_X10_feed F_t x1 = some o) : WA p l e (rM 1 22) s m args below meth c g A (MQ below (QI g A o.1 [oX10 q_t Q_t o.2.1 (F_t 2 0) (F_t 3 0) (F_t 4 0) (F_t 5 0) (F_t 6 0) (F_t 7 0) (F_t 8 0) (F_t 9 0) (F_t 10 0) (F_t 11 0) (F_t 12 0) (F_t 15 0) (F_t 16 0) (F_t 17 0) (F_t 23 0) (F_t 27 0) (F_t 28 0) (F_t 30 0), ia g (Q_t 1) 240 o.2.2]) args s 0 0 A) 2 0 [oX10 q_t Q_t (F_t 0 0) (F_t 2 0) (F_t 3 0) (F_t 4 0) (F_t 5 0) (F_t 6 0) (F_t 7 0) (F_t 8 0) (F_t 9 0) (F_t 10 0) (F_t 11 0) (F_t 12 0) (F_t 15 0) (F_t 16 0) (F_t 17 0) (F_t 23 0) (F_t 27 0) (F_t 28 0) (F_t 30 0), ia g (Q_t 1) 240 (F_t 1)] [(0, .ref q_t), (1, .int x1)] [] := by
  obtain ⟨⟨hx, hb, hml, hown, hts⟩, hr, hK, hA, hlk⟩ := id E
  intro H locs ls hP hD hS hl
  refine lv_iload_n hx hb dX10_feed_0 rfl (lv_at hl 1 rfl) ?_
  refine lv_iconst (v := (0 : Int32)) hx hb dX10_feed_1 (by decide) ?_
  refine lv_sipush (v := (255 : Int32)) hx hb dX10_feed_2 (by decide) ?_
  obtain ⟨v_1, hv_1, h⟩ := ox_bind h
  refine kSi ⟨hx, hb, hml, hown, hts⟩ (c_X10_in l g x1 (0 : Int32) (255 : Int32) v_1 hv_1 H.size) (gS u_ml_X10_83 u_st_X10_in u_ini_X10 u_co_X10_in) hd_X10_in ⟨rfl, rfl⟩ hK hP hD hS hA [] [0, 1] rfl rfl 0 rfl (w2 := [oX10 q_t Q_t (F_t 0 0) (F_t 2 0) (F_t 3 0) (F_t 4 0) (F_t 5 0) (F_t 6 0) (F_t 7 0) (F_t 8 0) (F_t 9 0) (F_t 10 0) (F_t 11 0) (F_t 12 0) (F_t 15 0) (F_t 16 0) (F_t 17 0) (F_t 23 0) (F_t 27 0) (F_t 28 0) (F_t 30 0), ia g (Q_t 1) 240 (F_t 1)]) rfl rfl (As := [.int x1, .int (0 : Int32), .int (255 : Int32)]) (rest := []) rfl hl.1 rfl rfl dX10_feed_5 (fun H locs hP hD hS => ?_)
  refine lv_if_ne (tgt := 14) hx hb dX10_feed_8 (by decide) (fun c_2 => ?_) (fun c_2 => ?_)
  · have h := ox_f c_2 h
    refine lv_aload_n hx hb dX10_feed_14 rfl (lv_at hl 0 rfl) ?_
    refine va_get (ci := 10) (v := .int (F_t 0 0)) (C := RX10) (T := TX10) (N := 38) hx hb hts (fun w h => .tail _ (u_inX10 w h)) hown hK.1 hP 0 rfl rfl 0 (by decide) (hts _ (.tail _ u_fl_X10_91)) (fun _ h9 => h9) rfl dX10_feed_15 ?_
    refine lv_sipush (v := (240 : Int32)) hx hb dX10_feed_18 (by decide) ?_
    refine lv_icmp_ne (tgt := 27) hx hb dX10_feed_21 (by decide) (fun c_3 => ?_) (fun c_3 => ?_)
    · have h := ox_f c_3 h
      refine lv_aload_n hx hb dX10_feed_27 rfl (lv_at hl 0 rfl) ?_
      refine va_get (ci := 10) (v := .ref (Q_t 1)) (C := RX10) (T := TX10) (N := 38) hx hb hts (fun w h => .tail _ (u_inX10 w h)) hown hK.1 hP 0 rfl rfl 1 (by decide) (hts _ (.tail _ u_fl_X10_7)) (fun _ h9 => h9) rfl dX10_feed_28 ?_
      refine lv_aload_n hx hb dX10_feed_31 rfl (lv_at hl 0 rfl) ?_
      refine va_get (ci := 10) (v := .int (F_t 0 0)) (C := RX10) (T := TX10) (N := 38) hx hb hts (fun w h => .tail _ (u_inX10 w h)) hown hK.1 hP 0 rfl rfl 0 (by decide) (hts _ (.tail _ u_fl_X10_91)) (fun _ h9 => h9) rfl dX10_feed_32 ?_
      refine lv_iload_n hx hb dX10_feed_35 rfl (lv_at hl 1 rfl) ?_
      obtain ⟨hi_4, h⟩ := ox_chk h
      refine va_iast hx hb hK.1 hP hD hS 1 0 rfl rfl hi_4 dX10_feed_36 (fun H locs hP hD hS => ?_)
      have hP : va_P g.1 vwCl [oX10 q_t Q_t (F_t 0 0) (F_t 2 0) (F_t 3 0) (F_t 4 0) (F_t 5 0) (F_t 6 0) (F_t 7 0) (F_t 8 0) (F_t 9 0) (F_t 10 0) (F_t 11 0) (F_t 12 0) (F_t 15 0) (F_t 16 0) (F_t 17 0) (F_t 23 0) (F_t 27 0) (F_t 28 0) (F_t 30 0), ia g (Q_t 1) 240 (upd (F_t 1) (F_t 0 0).toNatClampNeg x1)] H := hP
      have hD : va_D A [oX10 q_t Q_t (F_t 0 0) (F_t 2 0) (F_t 3 0) (F_t 4 0) (F_t 5 0) (F_t 6 0) (F_t 7 0) (F_t 8 0) (F_t 9 0) (F_t 10 0) (F_t 11 0) (F_t 12 0) (F_t 15 0) (F_t 16 0) (F_t 17 0) (F_t 23 0) (F_t 27 0) (F_t 28 0) (F_t 30 0), ia g (Q_t 1) 240 (upd (F_t 1) (F_t 0 0).toNatClampNeg x1)] := hD
      refine lv_aload_n hx hb dX10_feed_37 rfl (lv_at hl 0 rfl) ?_
      refine lv_dup hx hb dX10_feed_38 rfl ?_
      refine va_get (ci := 10) (v := .int (F_t 0 0)) (C := RX10) (T := TX10) (N := 38) hx hb hts (fun w h => .tail _ (u_inX10 w h)) hown hK.1 hP 0 rfl rfl 0 (by decide) (hts _ (.tail _ u_fl_X10_91)) (fun _ h9 => h9) rfl dX10_feed_39 ?_
      refine lv_iconst (v := (1 : Int32)) hx hb dX10_feed_42 (by decide) ?_
      refine lv_iadd hx hb dX10_feed_43 ?_
      refine lv_topi (fun y_5 ey_5 => ?_)
      have h := xl_at ey_5 h
      refine va_put (ci := 10) (v := .int y_5) (ty := .int) (C := RX10) (T := TX10) (N := 38) hx hb hts (fun w h => .tail _ (u_inX10 w h)) tyX10 tyX10_ok nmX10 hown hK.1 hP hD hS 0 rfl rfl 0 (by decide) (hts _ (.tail _ u_fl_X10_91)) (fun _ h9 => h9) rfl (tyX10_ok 0 (by decide)) rfl rfl (Nat.le_of_ble_eq_true rfl) dX10_feed_44 (fun H locs hP hD hS => ?_)
      have hP : va_P g.1 vwCl [oX10 q_t Q_t y_5 (F_t 2 0) (F_t 3 0) (F_t 4 0) (F_t 5 0) (F_t 6 0) (F_t 7 0) (F_t 8 0) (F_t 9 0) (F_t 10 0) (F_t 11 0) (F_t 12 0) (F_t 15 0) (F_t 16 0) (F_t 17 0) (F_t 23 0) (F_t 27 0) (F_t 28 0) (F_t 30 0), ia g (Q_t 1) 240 (upd (F_t 1) (F_t 0 0).toNatClampNeg x1)] H := hP
      have hD : va_D A [oX10 q_t Q_t y_5 (F_t 2 0) (F_t 3 0) (F_t 4 0) (F_t 5 0) (F_t 6 0) (F_t 7 0) (F_t 8 0) (F_t 9 0) (F_t 10 0) (F_t 11 0) (F_t 12 0) (F_t 15 0) (F_t 16 0) (F_t 17 0) (F_t 23 0) (F_t 27 0) (F_t 28 0) (F_t 30 0), ia g (Q_t 1) 240 (upd (F_t 1) (F_t 0 0).toNatClampNeg x1)] := hD
      refine lv_aload_n hx hb dX10_feed_47 rfl (lv_at hl 0 rfl) ?_
      refine va_get (ci := 10) (v := .int y_5) (C := RX10) (T := TX10) (N := 38) hx hb hts (fun w h => .tail _ (u_inX10 w h)) hown hK.1 hP 0 rfl rfl 0 (by decide) (hts _ (.tail _ u_fl_X10_91)) (fun _ h9 => h9) rfl dX10_feed_48 ?_
      obtain rfl := Option.some.inj h
      exact k_iret hx hb hr hlk hP hD hS dX10_feed_51
    · have h := ox_t c_3 h
      refine lv_ldc (v := (-1000000004 : Int32)) hx hb hown (hts _ (.tail _ u_k_X10_94)) dX10_feed_24 ?_
      obtain rfl := Option.some.inj h
      exact k_iret hx hb hr hlk hP hD hS dX10_feed_26
  · have h := ox_t c_2 h
    refine lv_ldc (v := (-1000000002 : Int32)) hx hb hown (hts _ (.tail _ u_k_X10_90)) dX10_feed_11 ?_
    obtain rfl := Option.some.inj h
    exact k_iret hx hb hr hlk hP hD hS dX10_feed_13
set_option maxRecDepth 100000 in
theorem c_X10_feed (l : Launch) (g : gG) (q_t : Nat) (Q_t : Ad) (F_t : St) (x1 : Int32) (o : Int32 × Int32 × (Nat → Int32)) (h : x_X10_feed F_t x1 = some o) (sz : Nat) : MetI l yX10_feed (.code yX10_feed cX10_feed 2 (some .int) :: gW) 1 22 [.ref q_t, .int x1] o.1 g [oX10 q_t Q_t (F_t 0 0) (F_t 2 0) (F_t 3 0) (F_t 4 0) (F_t 5 0) (F_t 6 0) (F_t 7 0) (F_t 8 0) (F_t 9 0) (F_t 10 0) (F_t 11 0) (F_t 12 0) (F_t 15 0) (F_t 16 0) (F_t 17 0) (F_t 23 0) (F_t 27 0) (F_t 28 0) (F_t 30 0), ia g (Q_t 1) 240 (F_t 1)] [oX10 q_t Q_t o.2.1 (F_t 2 0) (F_t 3 0) (F_t 4 0) (F_t 5 0) (F_t 6 0) (F_t 7 0) (F_t 8 0) (F_t 9 0) (F_t 10 0) (F_t 11 0) (F_t 12 0) (F_t 15 0) (F_t 16 0) (F_t 17 0) (F_t 23 0) (F_t 27 0) (F_t 28 0) (F_t 30 0), ia g (Q_t 1) 240 o.2.2] sz :=
  mkI (av := [.ref q_t, .int x1]) (by decide +kernel) rfl (fun p e s m below meth c A E H locs ls hP hD hS hl => t_X10_feed E q_t Q_t F_t x1 o h H locs ls hP hD hS hl) sz
def x_X10_nextToken_b0 (N : Nat) (F_t : St) : Option ((Int32) ⊕ (Int32)) :=
  if (F_t 0 0) ≤ (F_t 2 0) then (some (.inr (F_t 2 0))) else (if (F_t 2 0) < 0 ∨ 240 ≤ (F_t 2 0).toNatClampNeg then none else if ((F_t 1) (F_t 2 0).toNatClampNeg) = (32 : Int32) then (xl ((F_t 2 0) + (1 : Int32)) (fun y_4 => some (.inl y_4))) else (some (.inr (F_t 2 0))))
set_option maxHeartbeats 4000000 in
set_option maxRecDepth 100000 in
theorem t_X10_nextToken_b0 {p : Program} {l : Launch} {e : Env} {s : State} {m : MethodId} {args : Array Value} {below : List Frame} {meth : Method} {c : Code} {g : gG} {A : Nat → Prop} {Q : State → Prop} (E : En p s m args meth c g A cX10_nextToken 1 (.code yX10_nextToken cX10_nextToken 1 none :: gW) RX10 none) (q_t : Nat) (Q_t : Ad) (N : Nat) (F_t : St) (o : (Int32) ⊕ (Int32)) (h : x_X10_nextToken_b0 N F_t = some o) (hc : ∀ z, o = .inl z → WA p l e (rM 1 22) s m args below meth c g A Q 1 0 [oX10 q_t Q_t (F_t 0 0) z (F_t 3 0) (F_t 4 0) (F_t 5 0) (F_t 6 0) (F_t 7 0) (F_t 8 0) (F_t 9 0) (F_t 10 0) (F_t 11 0) (F_t 12 0) (F_t 15 0) (F_t 16 0) (F_t 17 0) (F_t 23 0) (F_t 27 0) (F_t 28 0) (F_t 30 0), ia g (Q_t 1) 240 (F_t 1)] [(0, .ref q_t)] []) (he : ∀ v, o = .inr v → WA p l e (rM 1 22) s m args below meth c g A Q 1 38 [oX10 q_t Q_t (F_t 0 0) v (F_t 3 0) (F_t 4 0) (F_t 5 0) (F_t 6 0) (F_t 7 0) (F_t 8 0) (F_t 9 0) (F_t 10 0) (F_t 11 0) (F_t 12 0) (F_t 15 0) (F_t 16 0) (F_t 17 0) (F_t 23 0) (F_t 27 0) (F_t 28 0) (F_t 30 0), ia g (Q_t 1) 240 (F_t 1)] [(0, .ref q_t)] []) : WA p l e (rM 1 22) s m args below meth c g A Q 1 0 [oX10 q_t Q_t (F_t 0 0) (F_t 2 0) (F_t 3 0) (F_t 4 0) (F_t 5 0) (F_t 6 0) (F_t 7 0) (F_t 8 0) (F_t 9 0) (F_t 10 0) (F_t 11 0) (F_t 12 0) (F_t 15 0) (F_t 16 0) (F_t 17 0) (F_t 23 0) (F_t 27 0) (F_t 28 0) (F_t 30 0), ia g (Q_t 1) 240 (F_t 1)] [(0, .ref q_t)] [] := by
  obtain ⟨⟨hx, hb, hml, hown, hts⟩, hr, hK, hA, hlk⟩ := id E
  intro H locs ls hP hD hS hl
  refine lv_aload_n hx hb dX10_nextToken_0 rfl (lv_at hl 0 rfl) ?_
  refine va_get (ci := 10) (v := .int (F_t 2 0)) (C := RX10) (T := TX10) (N := 38) hx hb hts (fun w h => .tail _ (u_inX10 w h)) hown hK.1 hP 0 rfl rfl 2 (by decide) (hts _ (.tail _ u_fl_X10_95)) (fun _ h9 => h9) rfl dX10_nextToken_1 ?_
  refine lv_aload_n hx hb dX10_nextToken_4 rfl (lv_at hl 0 rfl) ?_
  refine va_get (ci := 10) (v := .int (F_t 0 0)) (C := RX10) (T := TX10) (N := 38) hx hb hts (fun w h => .tail _ (u_inX10 w h)) hown hK.1 hP 0 rfl rfl 0 (by decide) (hts _ (.tail _ u_fl_X10_91)) (fun _ h9 => h9) rfl dX10_nextToken_5 ?_
  refine lv_icmp_ge (tgt := 38) hx hb dX10_nextToken_8 (by decide) (fun c_1 => ?_) (fun c_1 => ?_)
  · have h := ox_t c_1 h
    obtain rfl := Option.some.inj h
    exact he _ rfl H locs ls hP hD hS hl
  · have h := ox_f c_1 h
    refine lv_aload_n hx hb dX10_nextToken_11 rfl (lv_at hl 0 rfl) ?_
    refine va_get (ci := 10) (v := .ref (Q_t 1)) (C := RX10) (T := TX10) (N := 38) hx hb hts (fun w h => .tail _ (u_inX10 w h)) hown hK.1 hP 0 rfl rfl 1 (by decide) (hts _ (.tail _ u_fl_X10_7)) (fun _ h9 => h9) rfl dX10_nextToken_12 ?_
    refine lv_aload_n hx hb dX10_nextToken_15 rfl (lv_at hl 0 rfl) ?_
    refine va_get (ci := 10) (v := .int (F_t 2 0)) (C := RX10) (T := TX10) (N := 38) hx hb hts (fun w h => .tail _ (u_inX10 w h)) hown hK.1 hP 0 rfl rfl 2 (by decide) (hts _ (.tail _ u_fl_X10_95)) (fun _ h9 => h9) rfl dX10_nextToken_16 ?_
    obtain ⟨hi_2, h⟩ := ox_chk h
    refine va_iald hx hb hK.1 hP 1 0 rfl rfl hi_2 dX10_nextToken_19 ?_
    refine lv_bipush (v := (32 : Int32)) hx hb dX10_nextToken_20 (by decide) ?_
    refine lv_icmp_ne (tgt := 38) hx hb dX10_nextToken_22 (by decide) (fun c_3 => ?_) (fun c_3 => ?_)
    · have h := ox_f c_3 h
      obtain rfl := Option.some.inj h
      exact he _ rfl H locs ls hP hD hS hl
    · have h := ox_t c_3 h
      refine lv_aload_n hx hb dX10_nextToken_25 rfl (lv_at hl 0 rfl) ?_
      refine lv_dup hx hb dX10_nextToken_26 rfl ?_
      refine va_get (ci := 10) (v := .int (F_t 2 0)) (C := RX10) (T := TX10) (N := 38) hx hb hts (fun w h => .tail _ (u_inX10 w h)) hown hK.1 hP 0 rfl rfl 2 (by decide) (hts _ (.tail _ u_fl_X10_95)) (fun _ h9 => h9) rfl dX10_nextToken_27 ?_
      refine lv_iconst (v := (1 : Int32)) hx hb dX10_nextToken_30 (by decide) ?_
      refine lv_iadd hx hb dX10_nextToken_31 ?_
      refine lv_topi (fun y_4 ey_4 => ?_)
      have h := xl_at ey_4 h
      refine va_put (ci := 10) (v := .int y_4) (ty := .int) (C := RX10) (T := TX10) (N := 38) hx hb hts (fun w h => .tail _ (u_inX10 w h)) tyX10 tyX10_ok nmX10 hown hK.1 hP hD hS 0 rfl rfl 2 (by decide) (hts _ (.tail _ u_fl_X10_95)) (fun _ h9 => h9) rfl (tyX10_ok 2 (by decide)) rfl rfl (Nat.le_of_ble_eq_true rfl) dX10_nextToken_32 (fun H locs hP hD hS => ?_)
      have hP : va_P g.1 vwCl [oX10 q_t Q_t (F_t 0 0) y_4 (F_t 3 0) (F_t 4 0) (F_t 5 0) (F_t 6 0) (F_t 7 0) (F_t 8 0) (F_t 9 0) (F_t 10 0) (F_t 11 0) (F_t 12 0) (F_t 15 0) (F_t 16 0) (F_t 17 0) (F_t 23 0) (F_t 27 0) (F_t 28 0) (F_t 30 0), ia g (Q_t 1) 240 (F_t 1)] H := hP
      have hD : va_D A [oX10 q_t Q_t (F_t 0 0) y_4 (F_t 3 0) (F_t 4 0) (F_t 5 0) (F_t 6 0) (F_t 7 0) (F_t 8 0) (F_t 9 0) (F_t 10 0) (F_t 11 0) (F_t 12 0) (F_t 15 0) (F_t 16 0) (F_t 17 0) (F_t 23 0) (F_t 27 0) (F_t 28 0) (F_t 30 0), ia g (Q_t 1) 240 (F_t 1)] := hD
      refine lv_goto (tgt := 0) hx hb dX10_nextToken_35 (by decide) ?_
      obtain rfl := Option.some.inj h
      exact hc _ rfl H locs ls hP hD hS hl
def x_X10_nextToken_b95_k161 (N : Nat) (F_t : St) (s1 : Int32) : Option ((Int32 × Int32 × Int32) ⊕ (Int32 × Int32 × Int32)) :=
  xl ((F_t 6 0) + (1 : Int32)) (fun y_13 => xl ((F_t 2 0) + (1 : Int32)) (fun y_14 => some (.inl (y_14, s1, y_13))))
set_option maxHeartbeats 4000000 in
set_option maxRecDepth 100000 in
theorem t_X10_nextToken_b95_k161 {p : Program} {l : Launch} {e : Env} {s : State} {m : MethodId} {args : Array Value} {below : List Frame} {meth : Method} {c : Code} {g : gG} {A : Nat → Prop} {Q : State → Prop} (E : En p s m args meth c g A cX10_nextToken 1 (.code yX10_nextToken cX10_nextToken 1 none :: gW) RX10 none) (q_t : Nat) (Q_t : Ad) (N : Nat) (F_t : St) (s1 : Int32) (o : (Int32 × Int32 × Int32) ⊕ (Int32 × Int32 × Int32)) (h : x_X10_nextToken_b95_k161 N F_t s1 = some o) (hc : ∀ z, o = .inl z → WA p l e (rM 1 22) s m args below meth c g A Q 1 95 [oX10 q_t Q_t (F_t 0 0) z.1 (F_t 3 0) (F_t 4 0) z.2.1 z.2.2 (F_t 7 0) (F_t 8 0) (F_t 9 0) (F_t 10 0) (F_t 11 0) (F_t 12 0) (F_t 15 0) (F_t 16 0) (F_t 17 0) (F_t 23 0) (F_t 27 0) (F_t 28 0) (F_t 30 0), ia g (Q_t 1) 240 (F_t 1)] [(0, .ref q_t)] []) (he : ∀ v, o = .inr v → WA p l e (rM 1 22) s m args below meth c g A Q 1 187 [oX10 q_t Q_t (F_t 0 0) v.1 (F_t 3 0) (F_t 4 0) v.2.1 v.2.2 (F_t 7 0) (F_t 8 0) (F_t 9 0) (F_t 10 0) (F_t 11 0) (F_t 12 0) (F_t 15 0) (F_t 16 0) (F_t 17 0) (F_t 23 0) (F_t 27 0) (F_t 28 0) (F_t 30 0), ia g (Q_t 1) 240 (F_t 1)] [(0, .ref q_t)] []) : WA p l e (rM 1 22) s m args below meth c g A Q 1 161 [oX10 q_t Q_t (F_t 0 0) (F_t 2 0) (F_t 3 0) (F_t 4 0) (F_t 5 0) (F_t 6 0) (F_t 7 0) (F_t 8 0) (F_t 9 0) (F_t 10 0) (F_t 11 0) (F_t 12 0) (F_t 15 0) (F_t 16 0) (F_t 17 0) (F_t 23 0) (F_t 27 0) (F_t 28 0) (F_t 30 0), ia g (Q_t 1) 240 (F_t 1)] [(0, .ref q_t)] [.int s1, .ref q_t] := by
  obtain ⟨⟨hx, hb, hml, hown, hts⟩, hr, hK, hA, hlk⟩ := id E
  intro H locs ls hP hD hS hl
  refine va_put (ci := 10) (v := .int s1) (ty := .int) (C := RX10) (T := TX10) (N := 38) hx hb hts (fun w h => .tail _ (u_inX10 w h)) tyX10 tyX10_ok nmX10 hown hK.1 hP hD hS 0 rfl rfl 5 (by decide) (hts _ (.tail _ u_fl_X10_101)) (fun _ h9 => h9) rfl (tyX10_ok 5 (by decide)) rfl rfl (Nat.le_of_ble_eq_true rfl) dX10_nextToken_161 (fun H locs hP hD hS => ?_)
  have hP : va_P g.1 vwCl [oX10 q_t Q_t (F_t 0 0) (F_t 2 0) (F_t 3 0) (F_t 4 0) s1 (F_t 6 0) (F_t 7 0) (F_t 8 0) (F_t 9 0) (F_t 10 0) (F_t 11 0) (F_t 12 0) (F_t 15 0) (F_t 16 0) (F_t 17 0) (F_t 23 0) (F_t 27 0) (F_t 28 0) (F_t 30 0), ia g (Q_t 1) 240 (F_t 1)] H := hP
  have hD : va_D A [oX10 q_t Q_t (F_t 0 0) (F_t 2 0) (F_t 3 0) (F_t 4 0) s1 (F_t 6 0) (F_t 7 0) (F_t 8 0) (F_t 9 0) (F_t 10 0) (F_t 11 0) (F_t 12 0) (F_t 15 0) (F_t 16 0) (F_t 17 0) (F_t 23 0) (F_t 27 0) (F_t 28 0) (F_t 30 0), ia g (Q_t 1) 240 (F_t 1)] := hD
  refine lv_aload_n hx hb dX10_nextToken_164 rfl (lv_at hl 0 rfl) ?_
  refine lv_dup hx hb dX10_nextToken_165 rfl ?_
  refine va_get (ci := 10) (v := .int (F_t 6 0)) (C := RX10) (T := TX10) (N := 38) hx hb hts (fun w h => .tail _ (u_inX10 w h)) hown hK.1 hP 0 rfl rfl 6 (by decide) (hts _ (.tail _ u_fl_X10_104)) (fun _ h9 => h9) rfl dX10_nextToken_166 ?_
  refine lv_iconst (v := (1 : Int32)) hx hb dX10_nextToken_169 (by decide) ?_
  refine lv_iadd hx hb dX10_nextToken_170 ?_
  refine lv_topi (fun y_13 ey_13 => ?_)
  have h := xl_at ey_13 h
  refine va_put (ci := 10) (v := .int y_13) (ty := .int) (C := RX10) (T := TX10) (N := 38) hx hb hts (fun w h => .tail _ (u_inX10 w h)) tyX10 tyX10_ok nmX10 hown hK.1 hP hD hS 0 rfl rfl 6 (by decide) (hts _ (.tail _ u_fl_X10_104)) (fun _ h9 => h9) rfl (tyX10_ok 6 (by decide)) rfl rfl (Nat.le_of_ble_eq_true rfl) dX10_nextToken_171 (fun H locs hP hD hS => ?_)
  have hP : va_P g.1 vwCl [oX10 q_t Q_t (F_t 0 0) (F_t 2 0) (F_t 3 0) (F_t 4 0) s1 y_13 (F_t 7 0) (F_t 8 0) (F_t 9 0) (F_t 10 0) (F_t 11 0) (F_t 12 0) (F_t 15 0) (F_t 16 0) (F_t 17 0) (F_t 23 0) (F_t 27 0) (F_t 28 0) (F_t 30 0), ia g (Q_t 1) 240 (F_t 1)] H := hP
  have hD : va_D A [oX10 q_t Q_t (F_t 0 0) (F_t 2 0) (F_t 3 0) (F_t 4 0) s1 y_13 (F_t 7 0) (F_t 8 0) (F_t 9 0) (F_t 10 0) (F_t 11 0) (F_t 12 0) (F_t 15 0) (F_t 16 0) (F_t 17 0) (F_t 23 0) (F_t 27 0) (F_t 28 0) (F_t 30 0), ia g (Q_t 1) 240 (F_t 1)] := hD
  refine lv_aload_n hx hb dX10_nextToken_174 rfl (lv_at hl 0 rfl) ?_
  refine lv_dup hx hb dX10_nextToken_175 rfl ?_
  refine va_get (ci := 10) (v := .int (F_t 2 0)) (C := RX10) (T := TX10) (N := 38) hx hb hts (fun w h => .tail _ (u_inX10 w h)) hown hK.1 hP 0 rfl rfl 2 (by decide) (hts _ (.tail _ u_fl_X10_95)) (fun _ h9 => h9) rfl dX10_nextToken_176 ?_
  refine lv_iconst (v := (1 : Int32)) hx hb dX10_nextToken_179 (by decide) ?_
  refine lv_iadd hx hb dX10_nextToken_180 ?_
  refine lv_topi (fun y_14 ey_14 => ?_)
  have h := xl_at ey_14 h
  refine va_put (ci := 10) (v := .int y_14) (ty := .int) (C := RX10) (T := TX10) (N := 38) hx hb hts (fun w h => .tail _ (u_inX10 w h)) tyX10 tyX10_ok nmX10 hown hK.1 hP hD hS 0 rfl rfl 2 (by decide) (hts _ (.tail _ u_fl_X10_95)) (fun _ h9 => h9) rfl (tyX10_ok 2 (by decide)) rfl rfl (Nat.le_of_ble_eq_true rfl) dX10_nextToken_181 (fun H locs hP hD hS => ?_)
  have hP : va_P g.1 vwCl [oX10 q_t Q_t (F_t 0 0) y_14 (F_t 3 0) (F_t 4 0) s1 y_13 (F_t 7 0) (F_t 8 0) (F_t 9 0) (F_t 10 0) (F_t 11 0) (F_t 12 0) (F_t 15 0) (F_t 16 0) (F_t 17 0) (F_t 23 0) (F_t 27 0) (F_t 28 0) (F_t 30 0), ia g (Q_t 1) 240 (F_t 1)] H := hP
  have hD : va_D A [oX10 q_t Q_t (F_t 0 0) y_14 (F_t 3 0) (F_t 4 0) s1 y_13 (F_t 7 0) (F_t 8 0) (F_t 9 0) (F_t 10 0) (F_t 11 0) (F_t 12 0) (F_t 15 0) (F_t 16 0) (F_t 17 0) (F_t 23 0) (F_t 27 0) (F_t 28 0) (F_t 30 0), ia g (Q_t 1) 240 (F_t 1)] := hD
  refine lv_goto (tgt := 95) hx hb dX10_nextToken_184 (by decide) ?_
  obtain rfl := Option.some.inj h
  exact hc _ rfl H locs ls hP hD hS hl
def x_X10_nextToken_b95 (N : Nat) (F_t : St) : Option ((Int32 × Int32 × Int32) ⊕ (Int32 × Int32 × Int32)) :=
  if (F_t 0 0) ≤ (F_t 2 0) then (some (.inr ((F_t 2 0), (F_t 5 0), (F_t 6 0)))) else (if (F_t 2 0) < 0 ∨ 240 ≤ (F_t 2 0).toNatClampNeg then none else Option.bind (x_X10_in ((F_t 1) (F_t 2 0).toNatClampNeg) (48 : Int32) (57 : Int32)) (fun v_17 => if v_17 = 0 then (some (.inr ((F_t 2 0), (F_t 5 0), (F_t 6 0)))) else (if (3 : Int32) ≤ (F_t 6 0) then (x_X10_nextToken_b95_k161 N F_t (F_t 5 0)) else (if (F_t 2 0) < 0 ∨ 240 ≤ (F_t 2 0).toNatClampNeg then none else x_X10_nextToken_b95_k161 N F_t ((((10 : Int32) * (F_t 5 0)) + ((F_t 1) (F_t 2 0).toNatClampNeg)) - (48 : Int32))))))
set_option maxHeartbeats 4000000 in
set_option maxRecDepth 100000 in
theorem t_X10_nextToken_b95 {p : Program} {l : Launch} {e : Env} {s : State} {m : MethodId} {args : Array Value} {below : List Frame} {meth : Method} {c : Code} {g : gG} {A : Nat → Prop} {Q : State → Prop} (E : En p s m args meth c g A cX10_nextToken 1 (.code yX10_nextToken cX10_nextToken 1 none :: gW) RX10 none) (q_t : Nat) (Q_t : Ad) (N : Nat) (F_t : St) (o : (Int32 × Int32 × Int32) ⊕ (Int32 × Int32 × Int32)) (h : x_X10_nextToken_b95 N F_t = some o) (hc : ∀ z, o = .inl z → WA p l e (rM 1 22) s m args below meth c g A Q 1 95 [oX10 q_t Q_t (F_t 0 0) z.1 (F_t 3 0) (F_t 4 0) z.2.1 z.2.2 (F_t 7 0) (F_t 8 0) (F_t 9 0) (F_t 10 0) (F_t 11 0) (F_t 12 0) (F_t 15 0) (F_t 16 0) (F_t 17 0) (F_t 23 0) (F_t 27 0) (F_t 28 0) (F_t 30 0), ia g (Q_t 1) 240 (F_t 1)] [(0, .ref q_t)] []) (he : ∀ v, o = .inr v → WA p l e (rM 1 22) s m args below meth c g A Q 1 187 [oX10 q_t Q_t (F_t 0 0) v.1 (F_t 3 0) (F_t 4 0) v.2.1 v.2.2 (F_t 7 0) (F_t 8 0) (F_t 9 0) (F_t 10 0) (F_t 11 0) (F_t 12 0) (F_t 15 0) (F_t 16 0) (F_t 17 0) (F_t 23 0) (F_t 27 0) (F_t 28 0) (F_t 30 0), ia g (Q_t 1) 240 (F_t 1)] [(0, .ref q_t)] []) : WA p l e (rM 1 22) s m args below meth c g A Q 1 95 [oX10 q_t Q_t (F_t 0 0) (F_t 2 0) (F_t 3 0) (F_t 4 0) (F_t 5 0) (F_t 6 0) (F_t 7 0) (F_t 8 0) (F_t 9 0) (F_t 10 0) (F_t 11 0) (F_t 12 0) (F_t 15 0) (F_t 16 0) (F_t 17 0) (F_t 23 0) (F_t 27 0) (F_t 28 0) (F_t 30 0), ia g (Q_t 1) 240 (F_t 1)] [(0, .ref q_t)] [] := by
  obtain ⟨⟨hx, hb, hml, hown, hts⟩, hr, hK, hA, hlk⟩ := id E
  intro H locs ls hP hD hS hl
  refine lv_aload_n hx hb dX10_nextToken_95 rfl (lv_at hl 0 rfl) ?_
  refine va_get (ci := 10) (v := .int (F_t 2 0)) (C := RX10) (T := TX10) (N := 38) hx hb hts (fun w h => .tail _ (u_inX10 w h)) hown hK.1 hP 0 rfl rfl 2 (by decide) (hts _ (.tail _ u_fl_X10_95)) (fun _ h9 => h9) rfl dX10_nextToken_96 ?_
  refine lv_aload_n hx hb dX10_nextToken_99 rfl (lv_at hl 0 rfl) ?_
  refine va_get (ci := 10) (v := .int (F_t 0 0)) (C := RX10) (T := TX10) (N := 38) hx hb hts (fun w h => .tail _ (u_inX10 w h)) hown hK.1 hP 0 rfl rfl 0 (by decide) (hts _ (.tail _ u_fl_X10_91)) (fun _ h9 => h9) rfl dX10_nextToken_100 ?_
  refine lv_icmp_ge (tgt := 187) hx hb dX10_nextToken_103 (by decide) (fun c_15 => ?_) (fun c_15 => ?_)
  · have h := ox_t c_15 h
    obtain rfl := Option.some.inj h
    exact he _ rfl H locs ls hP hD hS hl
  · have h := ox_f c_15 h
    refine lv_aload_n hx hb dX10_nextToken_106 rfl (lv_at hl 0 rfl) ?_
    refine va_get (ci := 10) (v := .ref (Q_t 1)) (C := RX10) (T := TX10) (N := 38) hx hb hts (fun w h => .tail _ (u_inX10 w h)) hown hK.1 hP 0 rfl rfl 1 (by decide) (hts _ (.tail _ u_fl_X10_7)) (fun _ h9 => h9) rfl dX10_nextToken_107 ?_
    refine lv_aload_n hx hb dX10_nextToken_110 rfl (lv_at hl 0 rfl) ?_
    refine va_get (ci := 10) (v := .int (F_t 2 0)) (C := RX10) (T := TX10) (N := 38) hx hb hts (fun w h => .tail _ (u_inX10 w h)) hown hK.1 hP 0 rfl rfl 2 (by decide) (hts _ (.tail _ u_fl_X10_95)) (fun _ h9 => h9) rfl dX10_nextToken_111 ?_
    obtain ⟨hi_16, h⟩ := ox_chk h
    refine va_iald hx hb hK.1 hP 1 0 rfl rfl hi_16 dX10_nextToken_114 ?_
    refine lv_bipush (v := (48 : Int32)) hx hb dX10_nextToken_115 (by decide) ?_
    refine lv_bipush (v := (57 : Int32)) hx hb dX10_nextToken_117 (by decide) ?_
    obtain ⟨v_17, hv_17, h⟩ := ox_bind h
    refine kSi ⟨hx, hb, hml, hown, hts⟩ (c_X10_in l g ((F_t 1) (F_t 2 0).toNatClampNeg) (48 : Int32) (57 : Int32) v_17 hv_17 H.size) (gS u_ml_X10_83 u_st_X10_in u_ini_X10 u_co_X10_in) hd_X10_in ⟨rfl, rfl⟩ hK hP hD hS hA [] [0, 1] rfl rfl 0 rfl (w2 := [oX10 q_t Q_t (F_t 0 0) (F_t 2 0) (F_t 3 0) (F_t 4 0) (F_t 5 0) (F_t 6 0) (F_t 7 0) (F_t 8 0) (F_t 9 0) (F_t 10 0) (F_t 11 0) (F_t 12 0) (F_t 15 0) (F_t 16 0) (F_t 17 0) (F_t 23 0) (F_t 27 0) (F_t 28 0) (F_t 30 0), ia g (Q_t 1) 240 (F_t 1)]) rfl rfl (As := [.int ((F_t 1) (F_t 2 0).toNatClampNeg), .int (48 : Int32), .int (57 : Int32)]) (rest := []) rfl hl.1 rfl rfl dX10_nextToken_119 (fun H locs hP hD hS => ?_)
    refine lv_if_eq (tgt := 187) hx hb dX10_nextToken_122 (by decide) (fun c_18 => ?_) (fun c_18 => ?_)
    · have h := ox_t c_18 h
      obtain rfl := Option.some.inj h
      exact he _ rfl H locs ls hP hD hS hl
    · have h := ox_f c_18 h
      refine lv_aload_n hx hb dX10_nextToken_125 rfl (lv_at hl 0 rfl) ?_
      refine lv_aload_n hx hb dX10_nextToken_126 rfl (lv_at hl 0 rfl) ?_
      refine va_get (ci := 10) (v := .int (F_t 6 0)) (C := RX10) (T := TX10) (N := 38) hx hb hts (fun w h => .tail _ (u_inX10 w h)) hown hK.1 hP 0 rfl rfl 6 (by decide) (hts _ (.tail _ u_fl_X10_104)) (fun _ h9 => h9) rfl dX10_nextToken_127 ?_
      refine lv_iconst (v := (3 : Int32)) hx hb dX10_nextToken_130 (by decide) ?_
      refine lv_icmp_ge (tgt := 157) hx hb dX10_nextToken_131 (by decide) (fun c_19 => ?_) (fun c_19 => ?_)
      · have h := ox_t c_19 h
        refine lv_aload_n hx hb dX10_nextToken_157 rfl (lv_at hl 0 rfl) ?_
        refine va_get (ci := 10) (v := .int (F_t 5 0)) (C := RX10) (T := TX10) (N := 38) hx hb hts (fun w h => .tail _ (u_inX10 w h)) hown hK.1 hP 0 rfl rfl 5 (by decide) (hts _ (.tail _ u_fl_X10_101)) (fun _ h9 => h9) rfl dX10_nextToken_158 ?_
        exact t_X10_nextToken_b95_k161 E q_t Q_t N F_t (F_t 5 0) _ h hc he H locs ls hP hD hS hl
      · have h := ox_f c_19 h
        refine lv_bipush (v := (10 : Int32)) hx hb dX10_nextToken_134 (by decide) ?_
        refine lv_aload_n hx hb dX10_nextToken_136 rfl (lv_at hl 0 rfl) ?_
        refine va_get (ci := 10) (v := .int (F_t 5 0)) (C := RX10) (T := TX10) (N := 38) hx hb hts (fun w h => .tail _ (u_inX10 w h)) hown hK.1 hP 0 rfl rfl 5 (by decide) (hts _ (.tail _ u_fl_X10_101)) (fun _ h9 => h9) rfl dX10_nextToken_137 ?_
        refine lv_imul hx hb dX10_nextToken_140 ?_
        refine lv_aload_n hx hb dX10_nextToken_141 rfl (lv_at hl 0 rfl) ?_
        refine va_get (ci := 10) (v := .ref (Q_t 1)) (C := RX10) (T := TX10) (N := 38) hx hb hts (fun w h => .tail _ (u_inX10 w h)) hown hK.1 hP 0 rfl rfl 1 (by decide) (hts _ (.tail _ u_fl_X10_7)) (fun _ h9 => h9) rfl dX10_nextToken_142 ?_
        refine lv_aload_n hx hb dX10_nextToken_145 rfl (lv_at hl 0 rfl) ?_
        refine va_get (ci := 10) (v := .int (F_t 2 0)) (C := RX10) (T := TX10) (N := 38) hx hb hts (fun w h => .tail _ (u_inX10 w h)) hown hK.1 hP 0 rfl rfl 2 (by decide) (hts _ (.tail _ u_fl_X10_95)) (fun _ h9 => h9) rfl dX10_nextToken_146 ?_
        obtain ⟨hi_20, h⟩ := ox_chk h
        refine va_iald hx hb hK.1 hP 1 0 rfl rfl hi_20 dX10_nextToken_149 ?_
        refine lv_iadd hx hb dX10_nextToken_150 ?_
        refine lv_bipush (v := (48 : Int32)) hx hb dX10_nextToken_151 (by decide) ?_
        refine lv_isub hx hb dX10_nextToken_153 ?_
        refine lv_goto (tgt := 161) hx hb dX10_nextToken_154 (by decide) ?_
        exact t_X10_nextToken_b95_k161 E q_t Q_t N F_t ((((10 : Int32) * (F_t 5 0)) + ((F_t 1) (F_t 2 0).toNatClampNeg)) - (48 : Int32)) _ h hc he H locs ls hP hD hS hl
def x_X10_nextToken (N : Nat) (F_t : St) : Option (Int32 × Int32 × Int32 × Int32 × Int32) :=
  Option.bind (lpc (fun (z : Int32) => x_X10_nextToken_b0 N (va_up F_t 2 (fun _ => z))) N (F_t 2 0)) (fun v_5 => if v_5 = (F_t 0 0) then (some (v_5, v_5, (-2 : Int32), (0 : Int32), (0 : Int32))) else (if v_5 < 0 ∨ 240 ≤ v_5.toNatClampNeg then none else Option.bind (x_X10_in ((F_t 1) v_5.toNatClampNeg) (48 : Int32) (57 : Int32)) (fun v_8 => if v_8 = 0 then (if v_5 < 0 ∨ 240 ≤ v_5.toNatClampNeg then none else xl ((F_t 1) v_5.toNatClampNeg) (fun y_11 => xl (v_5 + (1 : Int32)) (fun y_12 => some (y_12, v_5, y_11, (0 : Int32), (0 : Int32))))) else (Option.bind (lpc (fun (z : Int32 × Int32 × Int32) => x_X10_nextToken_b95 N (va_up (va_up (va_up (va_up F_t 2 (fun _ => z.1)) 3 (fun _ => v_5)) 5 (fun _ => z.2.1)) 6 (fun _ => z.2.2))) N (v_5, (0 : Int32), (0 : Int32))) (fun v_21 => some (v_21.1, v_5, (-1 : Int32), v_21.2.1, v_21.2.2))))))
set_option maxHeartbeats 4000000 in
set_option maxRecDepth 100000 in
theorem t_X10_nextToken {p : Program} {l : Launch} {e : Env} {s : State} {m : MethodId} {args : Array Value} {below : List Frame} {meth : Method} {c : Code} {g : gG} {A : Nat → Prop} (E : En p s m args meth c g A cX10_nextToken 1 (.code yX10_nextToken cX10_nextToken 1 none :: gW) RX10 none) (q_t : Nat) (Q_t : Ad) (N : Nat) (F_t : St) (o : Int32 × Int32 × Int32 × Int32 × Int32) (h : x_X10_nextToken N F_t = some o) : WA p l e (rM 1 22) s m args below meth c g A (MQ below (QV g A [oX10 q_t Q_t (F_t 0 0) o.1 o.2.1 o.2.2.1 o.2.2.2.1 o.2.2.2.2 (F_t 7 0) (F_t 8 0) (F_t 9 0) (F_t 10 0) (F_t 11 0) (F_t 12 0) (F_t 15 0) (F_t 16 0) (F_t 17 0) (F_t 23 0) (F_t 27 0) (F_t 28 0) (F_t 30 0), ia g (Q_t 1) 240 (F_t 1)]) args s 0 0 A) 1 0 [oX10 q_t Q_t (F_t 0 0) (F_t 2 0) (F_t 3 0) (F_t 4 0) (F_t 5 0) (F_t 6 0) (F_t 7 0) (F_t 8 0) (F_t 9 0) (F_t 10 0) (F_t 11 0) (F_t 12 0) (F_t 15 0) (F_t 16 0) (F_t 17 0) (F_t 23 0) (F_t 27 0) (F_t 28 0) (F_t 30 0), ia g (Q_t 1) 240 (F_t 1)] [(0, .ref q_t)] [] := by
  obtain ⟨⟨hx, hb, hml, hown, hts⟩, hr, hK, hA, hlk⟩ := id E
  intro H locs ls hP hD hS hl
  obtain ⟨v_5, hv_5, h⟩ := ox_bind h
  refine lpc_W (Wh := fun (z : Int32) => WA p l e (rM 1 22) s m args below meth c g A (MQ below (QV g A [oX10 q_t Q_t (F_t 0 0) o.1 o.2.1 o.2.2.1 o.2.2.2.1 o.2.2.2.2 (F_t 7 0) (F_t 8 0) (F_t 9 0) (F_t 10 0) (F_t 11 0) (F_t 12 0) (F_t 15 0) (F_t 16 0) (F_t 17 0) (F_t 23 0) (F_t 27 0) (F_t 28 0) (F_t 30 0), ia g (Q_t 1) 240 (F_t 1)]) args s 0 0 A) 1 0 [oX10 q_t Q_t (F_t 0 0) z (F_t 3 0) (F_t 4 0) (F_t 5 0) (F_t 6 0) (F_t 7 0) (F_t 8 0) (F_t 9 0) (F_t 10 0) (F_t 11 0) (F_t 12 0) (F_t 15 0) (F_t 16 0) (F_t 17 0) (F_t 23 0) (F_t 27 0) (F_t 28 0) (F_t 30 0), ia g (Q_t 1) 240 (F_t 1)] [(0, .ref q_t)] []) (We := fun (v : Int32) => WA p l e (rM 1 22) s m args below meth c g A (MQ below (QV g A [oX10 q_t Q_t (F_t 0 0) o.1 o.2.1 o.2.2.1 o.2.2.2.1 o.2.2.2.2 (F_t 7 0) (F_t 8 0) (F_t 9 0) (F_t 10 0) (F_t 11 0) (F_t 12 0) (F_t 15 0) (F_t 16 0) (F_t 17 0) (F_t 23 0) (F_t 27 0) (F_t 28 0) (F_t 30 0), ia g (Q_t 1) 240 (F_t 1)]) args s 0 0 A) 1 38 [oX10 q_t Q_t (F_t 0 0) v (F_t 3 0) (F_t 4 0) (F_t 5 0) (F_t 6 0) (F_t 7 0) (F_t 8 0) (F_t 9 0) (F_t 10 0) (F_t 11 0) (F_t 12 0) (F_t 15 0) (F_t 16 0) (F_t 17 0) (F_t 23 0) (F_t 27 0) (F_t 28 0) (F_t 30 0), ia g (Q_t 1) 240 (F_t 1)] [(0, .ref q_t)] []) (fun z r hb hc he => t_X10_nextToken_b0 E q_t Q_t N (va_up F_t 2 (fun _ => z)) r hb hc he) N (F_t 2 0) v_5 hv_5 ?_ H locs ls hP hD hS hl
  intro H locs ls hP hD hS hl
  refine lv_aload_n hx hb dX10_nextToken_38 rfl (lv_at hl 0 rfl) ?_
  refine lv_aload_n hx hb dX10_nextToken_39 rfl (lv_at hl 0 rfl) ?_
  refine va_get (ci := 10) (v := .int v_5) (C := RX10) (T := TX10) (N := 38) hx hb hts (fun w h => .tail _ (u_inX10 w h)) hown hK.1 hP 0 rfl rfl 2 (by decide) (hts _ (.tail _ u_fl_X10_95)) (fun _ h9 => h9) rfl dX10_nextToken_40 ?_
  refine va_put (ci := 10) (v := .int v_5) (ty := .int) (C := RX10) (T := TX10) (N := 38) hx hb hts (fun w h => .tail _ (u_inX10 w h)) tyX10 tyX10_ok nmX10 hown hK.1 hP hD hS 0 rfl rfl 3 (by decide) (hts _ (.tail _ u_fl_X10_98)) (fun _ h9 => h9) rfl (tyX10_ok 3 (by decide)) rfl rfl (Nat.le_of_ble_eq_true rfl) dX10_nextToken_43 (fun H locs hP hD hS => ?_)
  have hP : va_P g.1 vwCl [oX10 q_t Q_t (F_t 0 0) v_5 v_5 (F_t 4 0) (F_t 5 0) (F_t 6 0) (F_t 7 0) (F_t 8 0) (F_t 9 0) (F_t 10 0) (F_t 11 0) (F_t 12 0) (F_t 15 0) (F_t 16 0) (F_t 17 0) (F_t 23 0) (F_t 27 0) (F_t 28 0) (F_t 30 0), ia g (Q_t 1) 240 (F_t 1)] H := hP
  have hD : va_D A [oX10 q_t Q_t (F_t 0 0) v_5 v_5 (F_t 4 0) (F_t 5 0) (F_t 6 0) (F_t 7 0) (F_t 8 0) (F_t 9 0) (F_t 10 0) (F_t 11 0) (F_t 12 0) (F_t 15 0) (F_t 16 0) (F_t 17 0) (F_t 23 0) (F_t 27 0) (F_t 28 0) (F_t 30 0), ia g (Q_t 1) 240 (F_t 1)] := hD
  refine lv_aload_n hx hb dX10_nextToken_46 rfl (lv_at hl 0 rfl) ?_
  refine lv_iconst (v := (0 : Int32)) hx hb dX10_nextToken_47 (by decide) ?_
  refine va_put (ci := 10) (v := .int (0 : Int32)) (ty := .int) (C := RX10) (T := TX10) (N := 38) hx hb hts (fun w h => .tail _ (u_inX10 w h)) tyX10 tyX10_ok nmX10 hown hK.1 hP hD hS 0 rfl rfl 5 (by decide) (hts _ (.tail _ u_fl_X10_101)) (fun _ h9 => h9) rfl (tyX10_ok 5 (by decide)) rfl rfl (Nat.le_of_ble_eq_true rfl) dX10_nextToken_48 (fun H locs hP hD hS => ?_)
  have hP : va_P g.1 vwCl [oX10 q_t Q_t (F_t 0 0) v_5 v_5 (F_t 4 0) (0 : Int32) (F_t 6 0) (F_t 7 0) (F_t 8 0) (F_t 9 0) (F_t 10 0) (F_t 11 0) (F_t 12 0) (F_t 15 0) (F_t 16 0) (F_t 17 0) (F_t 23 0) (F_t 27 0) (F_t 28 0) (F_t 30 0), ia g (Q_t 1) 240 (F_t 1)] H := hP
  have hD : va_D A [oX10 q_t Q_t (F_t 0 0) v_5 v_5 (F_t 4 0) (0 : Int32) (F_t 6 0) (F_t 7 0) (F_t 8 0) (F_t 9 0) (F_t 10 0) (F_t 11 0) (F_t 12 0) (F_t 15 0) (F_t 16 0) (F_t 17 0) (F_t 23 0) (F_t 27 0) (F_t 28 0) (F_t 30 0), ia g (Q_t 1) 240 (F_t 1)] := hD
  refine lv_aload_n hx hb dX10_nextToken_51 rfl (lv_at hl 0 rfl) ?_
  refine lv_iconst (v := (0 : Int32)) hx hb dX10_nextToken_52 (by decide) ?_
  refine va_put (ci := 10) (v := .int (0 : Int32)) (ty := .int) (C := RX10) (T := TX10) (N := 38) hx hb hts (fun w h => .tail _ (u_inX10 w h)) tyX10 tyX10_ok nmX10 hown hK.1 hP hD hS 0 rfl rfl 6 (by decide) (hts _ (.tail _ u_fl_X10_104)) (fun _ h9 => h9) rfl (tyX10_ok 6 (by decide)) rfl rfl (Nat.le_of_ble_eq_true rfl) dX10_nextToken_53 (fun H locs hP hD hS => ?_)
  have hP : va_P g.1 vwCl [oX10 q_t Q_t (F_t 0 0) v_5 v_5 (F_t 4 0) (0 : Int32) (0 : Int32) (F_t 7 0) (F_t 8 0) (F_t 9 0) (F_t 10 0) (F_t 11 0) (F_t 12 0) (F_t 15 0) (F_t 16 0) (F_t 17 0) (F_t 23 0) (F_t 27 0) (F_t 28 0) (F_t 30 0), ia g (Q_t 1) 240 (F_t 1)] H := hP
  have hD : va_D A [oX10 q_t Q_t (F_t 0 0) v_5 v_5 (F_t 4 0) (0 : Int32) (0 : Int32) (F_t 7 0) (F_t 8 0) (F_t 9 0) (F_t 10 0) (F_t 11 0) (F_t 12 0) (F_t 15 0) (F_t 16 0) (F_t 17 0) (F_t 23 0) (F_t 27 0) (F_t 28 0) (F_t 30 0), ia g (Q_t 1) 240 (F_t 1)] := hD
  refine lv_aload_n hx hb dX10_nextToken_56 rfl (lv_at hl 0 rfl) ?_
  refine va_get (ci := 10) (v := .int v_5) (C := RX10) (T := TX10) (N := 38) hx hb hts (fun w h => .tail _ (u_inX10 w h)) hown hK.1 hP 0 rfl rfl 2 (by decide) (hts _ (.tail _ u_fl_X10_95)) (fun _ h9 => h9) rfl dX10_nextToken_57 ?_
  refine lv_aload_n hx hb dX10_nextToken_60 rfl (lv_at hl 0 rfl) ?_
  refine va_get (ci := 10) (v := .int (F_t 0 0)) (C := RX10) (T := TX10) (N := 38) hx hb hts (fun w h => .tail _ (u_inX10 w h)) hown hK.1 hP 0 rfl rfl 0 (by decide) (hts _ (.tail _ u_fl_X10_91)) (fun _ h9 => h9) rfl dX10_nextToken_61 ?_
  refine lv_icmp_ne (tgt := 76) hx hb dX10_nextToken_64 (by decide) (fun c_6 => ?_) (fun c_6 => ?_)
  · have h := ox_f c_6 h
    refine lv_aload_n hx hb dX10_nextToken_76 rfl (lv_at hl 0 rfl) ?_
    refine va_get (ci := 10) (v := .ref (Q_t 1)) (C := RX10) (T := TX10) (N := 38) hx hb hts (fun w h => .tail _ (u_inX10 w h)) hown hK.1 hP 0 rfl rfl 1 (by decide) (hts _ (.tail _ u_fl_X10_7)) (fun _ h9 => h9) rfl dX10_nextToken_77 ?_
    refine lv_aload_n hx hb dX10_nextToken_80 rfl (lv_at hl 0 rfl) ?_
    refine va_get (ci := 10) (v := .int v_5) (C := RX10) (T := TX10) (N := 38) hx hb hts (fun w h => .tail _ (u_inX10 w h)) hown hK.1 hP 0 rfl rfl 2 (by decide) (hts _ (.tail _ u_fl_X10_95)) (fun _ h9 => h9) rfl dX10_nextToken_81 ?_
    obtain ⟨hi_7, h⟩ := ox_chk h
    refine va_iald hx hb hK.1 hP 1 0 rfl rfl hi_7 dX10_nextToken_84 ?_
    refine lv_bipush (v := (48 : Int32)) hx hb dX10_nextToken_85 (by decide) ?_
    refine lv_bipush (v := (57 : Int32)) hx hb dX10_nextToken_87 (by decide) ?_
    obtain ⟨v_8, hv_8, h⟩ := ox_bind h
    refine kSi ⟨hx, hb, hml, hown, hts⟩ (c_X10_in l g ((F_t 1) v_5.toNatClampNeg) (48 : Int32) (57 : Int32) v_8 hv_8 H.size) (gS u_ml_X10_83 u_st_X10_in u_ini_X10 u_co_X10_in) hd_X10_in ⟨rfl, rfl⟩ hK hP hD hS hA [] [0, 1] rfl rfl 0 rfl (w2 := [oX10 q_t Q_t (F_t 0 0) v_5 v_5 (F_t 4 0) (0 : Int32) (0 : Int32) (F_t 7 0) (F_t 8 0) (F_t 9 0) (F_t 10 0) (F_t 11 0) (F_t 12 0) (F_t 15 0) (F_t 16 0) (F_t 17 0) (F_t 23 0) (F_t 27 0) (F_t 28 0) (F_t 30 0), ia g (Q_t 1) 240 (F_t 1)]) rfl rfl (As := [.int ((F_t 1) v_5.toNatClampNeg), .int (48 : Int32), .int (57 : Int32)]) (rest := []) rfl hl.1 rfl rfl dX10_nextToken_89 (fun H locs hP hD hS => ?_)
    refine lv_if_eq (tgt := 195) hx hb dX10_nextToken_92 (by decide) (fun c_9 => ?_) (fun c_9 => ?_)
    · have h := ox_t c_9 h
      refine lv_aload_n hx hb dX10_nextToken_195 rfl (lv_at hl 0 rfl) ?_
      refine lv_aload_n hx hb dX10_nextToken_196 rfl (lv_at hl 0 rfl) ?_
      refine va_get (ci := 10) (v := .ref (Q_t 1)) (C := RX10) (T := TX10) (N := 38) hx hb hts (fun w h => .tail _ (u_inX10 w h)) hown hK.1 hP 0 rfl rfl 1 (by decide) (hts _ (.tail _ u_fl_X10_7)) (fun _ h9 => h9) rfl dX10_nextToken_197 ?_
      refine lv_aload_n hx hb dX10_nextToken_200 rfl (lv_at hl 0 rfl) ?_
      refine va_get (ci := 10) (v := .int v_5) (C := RX10) (T := TX10) (N := 38) hx hb hts (fun w h => .tail _ (u_inX10 w h)) hown hK.1 hP 0 rfl rfl 2 (by decide) (hts _ (.tail _ u_fl_X10_95)) (fun _ h9 => h9) rfl dX10_nextToken_201 ?_
      obtain ⟨hi_10, h⟩ := ox_chk h
      refine va_iald hx hb hK.1 hP 1 0 rfl rfl hi_10 dX10_nextToken_204 ?_
      refine lv_topi (fun y_11 ey_11 => ?_)
      have h := xl_at ey_11 h
      refine va_put (ci := 10) (v := .int y_11) (ty := .int) (C := RX10) (T := TX10) (N := 38) hx hb hts (fun w h => .tail _ (u_inX10 w h)) tyX10 tyX10_ok nmX10 hown hK.1 hP hD hS 0 rfl rfl 4 (by decide) (hts _ (.tail _ u_fl_X10_107)) (fun _ h9 => h9) rfl (tyX10_ok 4 (by decide)) rfl rfl (Nat.le_of_ble_eq_true rfl) dX10_nextToken_205 (fun H locs hP hD hS => ?_)
      have hP : va_P g.1 vwCl [oX10 q_t Q_t (F_t 0 0) v_5 v_5 y_11 (0 : Int32) (0 : Int32) (F_t 7 0) (F_t 8 0) (F_t 9 0) (F_t 10 0) (F_t 11 0) (F_t 12 0) (F_t 15 0) (F_t 16 0) (F_t 17 0) (F_t 23 0) (F_t 27 0) (F_t 28 0) (F_t 30 0), ia g (Q_t 1) 240 (F_t 1)] H := hP
      have hD : va_D A [oX10 q_t Q_t (F_t 0 0) v_5 v_5 y_11 (0 : Int32) (0 : Int32) (F_t 7 0) (F_t 8 0) (F_t 9 0) (F_t 10 0) (F_t 11 0) (F_t 12 0) (F_t 15 0) (F_t 16 0) (F_t 17 0) (F_t 23 0) (F_t 27 0) (F_t 28 0) (F_t 30 0), ia g (Q_t 1) 240 (F_t 1)] := hD
      refine lv_aload_n hx hb dX10_nextToken_208 rfl (lv_at hl 0 rfl) ?_
      refine lv_dup hx hb dX10_nextToken_209 rfl ?_
      refine va_get (ci := 10) (v := .int v_5) (C := RX10) (T := TX10) (N := 38) hx hb hts (fun w h => .tail _ (u_inX10 w h)) hown hK.1 hP 0 rfl rfl 2 (by decide) (hts _ (.tail _ u_fl_X10_95)) (fun _ h9 => h9) rfl dX10_nextToken_210 ?_
      refine lv_iconst (v := (1 : Int32)) hx hb dX10_nextToken_213 (by decide) ?_
      refine lv_iadd hx hb dX10_nextToken_214 ?_
      refine lv_topi (fun y_12 ey_12 => ?_)
      have h := xl_at ey_12 h
      refine va_put (ci := 10) (v := .int y_12) (ty := .int) (C := RX10) (T := TX10) (N := 38) hx hb hts (fun w h => .tail _ (u_inX10 w h)) tyX10 tyX10_ok nmX10 hown hK.1 hP hD hS 0 rfl rfl 2 (by decide) (hts _ (.tail _ u_fl_X10_95)) (fun _ h9 => h9) rfl (tyX10_ok 2 (by decide)) rfl rfl (Nat.le_of_ble_eq_true rfl) dX10_nextToken_215 (fun H locs hP hD hS => ?_)
      have hP : va_P g.1 vwCl [oX10 q_t Q_t (F_t 0 0) y_12 v_5 y_11 (0 : Int32) (0 : Int32) (F_t 7 0) (F_t 8 0) (F_t 9 0) (F_t 10 0) (F_t 11 0) (F_t 12 0) (F_t 15 0) (F_t 16 0) (F_t 17 0) (F_t 23 0) (F_t 27 0) (F_t 28 0) (F_t 30 0), ia g (Q_t 1) 240 (F_t 1)] H := hP
      have hD : va_D A [oX10 q_t Q_t (F_t 0 0) y_12 v_5 y_11 (0 : Int32) (0 : Int32) (F_t 7 0) (F_t 8 0) (F_t 9 0) (F_t 10 0) (F_t 11 0) (F_t 12 0) (F_t 15 0) (F_t 16 0) (F_t 17 0) (F_t 23 0) (F_t 27 0) (F_t 28 0) (F_t 30 0), ia g (Q_t 1) 240 (F_t 1)] := hD
      obtain rfl := Option.some.inj h
      exact k_vret hx hb hr hlk hP hD hS dX10_nextToken_218
    · have h := ox_f c_9 h
      obtain ⟨v_21, hv_21, h⟩ := ox_bind h
      refine lpc_W (Wh := fun (z : Int32 × Int32 × Int32) => WA p l e (rM 1 22) s m args below meth c g A (MQ below (QV g A [oX10 q_t Q_t (F_t 0 0) o.1 o.2.1 o.2.2.1 o.2.2.2.1 o.2.2.2.2 (F_t 7 0) (F_t 8 0) (F_t 9 0) (F_t 10 0) (F_t 11 0) (F_t 12 0) (F_t 15 0) (F_t 16 0) (F_t 17 0) (F_t 23 0) (F_t 27 0) (F_t 28 0) (F_t 30 0), ia g (Q_t 1) 240 (F_t 1)]) args s 0 0 A) 1 95 [oX10 q_t Q_t (F_t 0 0) z.1 v_5 (F_t 4 0) z.2.1 z.2.2 (F_t 7 0) (F_t 8 0) (F_t 9 0) (F_t 10 0) (F_t 11 0) (F_t 12 0) (F_t 15 0) (F_t 16 0) (F_t 17 0) (F_t 23 0) (F_t 27 0) (F_t 28 0) (F_t 30 0), ia g (Q_t 1) 240 (F_t 1)] [(0, .ref q_t)] []) (We := fun (v : Int32 × Int32 × Int32) => WA p l e (rM 1 22) s m args below meth c g A (MQ below (QV g A [oX10 q_t Q_t (F_t 0 0) o.1 o.2.1 o.2.2.1 o.2.2.2.1 o.2.2.2.2 (F_t 7 0) (F_t 8 0) (F_t 9 0) (F_t 10 0) (F_t 11 0) (F_t 12 0) (F_t 15 0) (F_t 16 0) (F_t 17 0) (F_t 23 0) (F_t 27 0) (F_t 28 0) (F_t 30 0), ia g (Q_t 1) 240 (F_t 1)]) args s 0 0 A) 1 187 [oX10 q_t Q_t (F_t 0 0) v.1 v_5 (F_t 4 0) v.2.1 v.2.2 (F_t 7 0) (F_t 8 0) (F_t 9 0) (F_t 10 0) (F_t 11 0) (F_t 12 0) (F_t 15 0) (F_t 16 0) (F_t 17 0) (F_t 23 0) (F_t 27 0) (F_t 28 0) (F_t 30 0), ia g (Q_t 1) 240 (F_t 1)] [(0, .ref q_t)] []) (fun z r hb hc he => t_X10_nextToken_b95 E q_t Q_t N (va_up (va_up (va_up (va_up F_t 2 (fun _ => z.1)) 3 (fun _ => v_5)) 5 (fun _ => z.2.1)) 6 (fun _ => z.2.2)) r hb hc he) N (v_5, (0 : Int32), (0 : Int32)) v_21 hv_21 ?_ H locs ls hP hD hS hl
      intro H locs ls hP hD hS hl
      refine lv_aload_n hx hb dX10_nextToken_187 rfl (lv_at hl 0 rfl) ?_
      refine lv_iconst (v := (-1 : Int32)) hx hb dX10_nextToken_188 (by decide) ?_
      refine va_put (ci := 10) (v := .int (-1 : Int32)) (ty := .int) (C := RX10) (T := TX10) (N := 38) hx hb hts (fun w h => .tail _ (u_inX10 w h)) tyX10 tyX10_ok nmX10 hown hK.1 hP hD hS 0 rfl rfl 4 (by decide) (hts _ (.tail _ u_fl_X10_107)) (fun _ h9 => h9) rfl (tyX10_ok 4 (by decide)) rfl rfl (Nat.le_of_ble_eq_true rfl) dX10_nextToken_189 (fun H locs hP hD hS => ?_)
      have hP : va_P g.1 vwCl [oX10 q_t Q_t (F_t 0 0) v_21.1 v_5 (-1 : Int32) v_21.2.1 v_21.2.2 (F_t 7 0) (F_t 8 0) (F_t 9 0) (F_t 10 0) (F_t 11 0) (F_t 12 0) (F_t 15 0) (F_t 16 0) (F_t 17 0) (F_t 23 0) (F_t 27 0) (F_t 28 0) (F_t 30 0), ia g (Q_t 1) 240 (F_t 1)] H := hP
      have hD : va_D A [oX10 q_t Q_t (F_t 0 0) v_21.1 v_5 (-1 : Int32) v_21.2.1 v_21.2.2 (F_t 7 0) (F_t 8 0) (F_t 9 0) (F_t 10 0) (F_t 11 0) (F_t 12 0) (F_t 15 0) (F_t 16 0) (F_t 17 0) (F_t 23 0) (F_t 27 0) (F_t 28 0) (F_t 30 0), ia g (Q_t 1) 240 (F_t 1)] := hD
      refine lv_goto (tgt := 218) hx hb dX10_nextToken_192 (by decide) ?_
      obtain rfl := Option.some.inj h
      exact k_vret hx hb hr hlk hP hD hS dX10_nextToken_218
  · have h := ox_t c_6 h
    refine lv_aload_n hx hb dX10_nextToken_67 rfl (lv_at hl 0 rfl) ?_
    refine lv_bipush (v := (-2 : Int32)) hx hb dX10_nextToken_68 (by decide) ?_
    refine va_put (ci := 10) (v := .int (-2 : Int32)) (ty := .int) (C := RX10) (T := TX10) (N := 38) hx hb hts (fun w h => .tail _ (u_inX10 w h)) tyX10 tyX10_ok nmX10 hown hK.1 hP hD hS 0 rfl rfl 4 (by decide) (hts _ (.tail _ u_fl_X10_107)) (fun _ h9 => h9) rfl (tyX10_ok 4 (by decide)) rfl rfl (Nat.le_of_ble_eq_true rfl) dX10_nextToken_70 (fun H locs hP hD hS => ?_)
    have hP : va_P g.1 vwCl [oX10 q_t Q_t (F_t 0 0) v_5 v_5 (-2 : Int32) (0 : Int32) (0 : Int32) (F_t 7 0) (F_t 8 0) (F_t 9 0) (F_t 10 0) (F_t 11 0) (F_t 12 0) (F_t 15 0) (F_t 16 0) (F_t 17 0) (F_t 23 0) (F_t 27 0) (F_t 28 0) (F_t 30 0), ia g (Q_t 1) 240 (F_t 1)] H := hP
    have hD : va_D A [oX10 q_t Q_t (F_t 0 0) v_5 v_5 (-2 : Int32) (0 : Int32) (0 : Int32) (F_t 7 0) (F_t 8 0) (F_t 9 0) (F_t 10 0) (F_t 11 0) (F_t 12 0) (F_t 15 0) (F_t 16 0) (F_t 17 0) (F_t 23 0) (F_t 27 0) (F_t 28 0) (F_t 30 0), ia g (Q_t 1) 240 (F_t 1)] := hD
    refine lv_goto (tgt := 218) hx hb dX10_nextToken_73 (by decide) ?_
    obtain rfl := Option.some.inj h
    exact k_vret hx hb hr hlk hP hD hS dX10_nextToken_218
set_option maxRecDepth 100000 in
theorem c_X10_nextToken (l : Launch) (g : gG) (q_t : Nat) (Q_t : Ad) (N : Nat) (F_t : St) (o : Int32 × Int32 × Int32 × Int32 × Int32) (h : x_X10_nextToken N F_t = some o) (sz : Nat) : MetV l yX10_nextToken (.code yX10_nextToken cX10_nextToken 1 none :: gW) 1 22 [.ref q_t] g [oX10 q_t Q_t (F_t 0 0) (F_t 2 0) (F_t 3 0) (F_t 4 0) (F_t 5 0) (F_t 6 0) (F_t 7 0) (F_t 8 0) (F_t 9 0) (F_t 10 0) (F_t 11 0) (F_t 12 0) (F_t 15 0) (F_t 16 0) (F_t 17 0) (F_t 23 0) (F_t 27 0) (F_t 28 0) (F_t 30 0), ia g (Q_t 1) 240 (F_t 1)] [oX10 q_t Q_t (F_t 0 0) o.1 o.2.1 o.2.2.1 o.2.2.2.1 o.2.2.2.2 (F_t 7 0) (F_t 8 0) (F_t 9 0) (F_t 10 0) (F_t 11 0) (F_t 12 0) (F_t 15 0) (F_t 16 0) (F_t 17 0) (F_t 23 0) (F_t 27 0) (F_t 28 0) (F_t 30 0), ia g (Q_t 1) 240 (F_t 1)] sz :=
  mkV (av := [.ref q_t]) (by decide +kernel) rfl (fun p e s m below meth c A E H locs ls hP hD hS hl => t_X10_nextToken E q_t Q_t N F_t o h H locs ls hP hD hS hl) sz
def x_X10_fails (F_t : St) (x1 : Int32) : Option (Int32 × Int32 × Int32) :=
  xl (F_t 3 0) (fun y_1 => some ((0 : Int32), y_1, x1))
set_option maxHeartbeats 4000000 in
set_option maxRecDepth 100000 in
theorem t_X10_fails {p : Program} {l : Launch} {e : Env} {s : State} {m : MethodId} {args : Array Value} {below : List Frame} {meth : Method} {c : Code} {g : gG} {A : Nat → Prop} (E : En p s m args meth c g A cX10_fails 2 (.code yX10_fails cX10_fails 2 (some .boolean) :: gW) RX10 (some .boolean)) (q_t : Nat) (Q_t : Ad) (F_t : St) (x1 : Int32) (o : Int32 × Int32 × Int32) (h : x_X10_fails F_t x1 = some o) : WA p l e (rM 0 0) s m args below meth c g A (MQ below (QI g A o.1 [oX10 q_t Q_t (F_t 0 0) (F_t 2 0) (F_t 3 0) (F_t 4 0) (F_t 5 0) (F_t 6 0) o.2.1 o.2.2 (F_t 9 0) (F_t 10 0) (F_t 11 0) (F_t 12 0) (F_t 15 0) (F_t 16 0) (F_t 17 0) (F_t 23 0) (F_t 27 0) (F_t 28 0) (F_t 30 0)]) args s 0 0 A) 2 0 [oX10 q_t Q_t (F_t 0 0) (F_t 2 0) (F_t 3 0) (F_t 4 0) (F_t 5 0) (F_t 6 0) (F_t 7 0) (F_t 8 0) (F_t 9 0) (F_t 10 0) (F_t 11 0) (F_t 12 0) (F_t 15 0) (F_t 16 0) (F_t 17 0) (F_t 23 0) (F_t 27 0) (F_t 28 0) (F_t 30 0)] [(0, .ref q_t), (1, .int x1)] [] := by
  obtain ⟨⟨hx, hb, hml, hown, hts⟩, hr, hK, hA, hlk⟩ := id E
  intro H locs ls hP hD hS hl
  refine lv_aload_n hx hb dX10_fails_0 rfl (lv_at hl 0 rfl) ?_
  refine lv_aload_n hx hb dX10_fails_1 rfl (lv_at hl 0 rfl) ?_
  refine va_get (ci := 10) (v := .int (F_t 3 0)) (C := RX10) (T := TX10) (N := 38) hx hb hts (fun w h => .tail _ (u_inX10 w h)) hown hK.1 hP 0 rfl rfl 3 (by decide) (hts _ (.tail _ u_fl_X10_98)) (fun _ h9 => h9) rfl dX10_fails_2 ?_
  refine lv_topi (fun y_1 ey_1 => ?_)
  have h := xl_at ey_1 h
  refine va_put (ci := 10) (v := .int y_1) (ty := .int) (C := RX10) (T := TX10) (N := 38) hx hb hts (fun w h => .tail _ (u_inX10 w h)) tyX10 tyX10_ok nmX10 hown hK.1 hP hD hS 0 rfl rfl 7 (by decide) (hts _ (.tail _ u_fl_X10_13)) (fun _ h9 => h9) rfl (tyX10_ok 7 (by decide)) rfl rfl (Nat.le_of_ble_eq_true rfl) dX10_fails_5 (fun H locs hP hD hS => ?_)
  have hP : va_P g.1 vwCl [oX10 q_t Q_t (F_t 0 0) (F_t 2 0) (F_t 3 0) (F_t 4 0) (F_t 5 0) (F_t 6 0) y_1 (F_t 8 0) (F_t 9 0) (F_t 10 0) (F_t 11 0) (F_t 12 0) (F_t 15 0) (F_t 16 0) (F_t 17 0) (F_t 23 0) (F_t 27 0) (F_t 28 0) (F_t 30 0)] H := hP
  have hD : va_D A [oX10 q_t Q_t (F_t 0 0) (F_t 2 0) (F_t 3 0) (F_t 4 0) (F_t 5 0) (F_t 6 0) y_1 (F_t 8 0) (F_t 9 0) (F_t 10 0) (F_t 11 0) (F_t 12 0) (F_t 15 0) (F_t 16 0) (F_t 17 0) (F_t 23 0) (F_t 27 0) (F_t 28 0) (F_t 30 0)] := hD
  refine lv_aload_n hx hb dX10_fails_8 rfl (lv_at hl 0 rfl) ?_
  refine lv_iload_n hx hb dX10_fails_9 rfl (lv_at hl 1 rfl) ?_
  refine va_put (ci := 10) (v := .int x1) (ty := .int) (C := RX10) (T := TX10) (N := 38) hx hb hts (fun w h => .tail _ (u_inX10 w h)) tyX10 tyX10_ok nmX10 hown hK.1 hP hD hS 0 rfl rfl 8 (by decide) (hts _ (.tail _ u_fl_X10_110)) (fun _ h9 => h9) rfl (tyX10_ok 8 (by decide)) rfl rfl (Nat.le_of_ble_eq_true rfl) dX10_fails_10 (fun H locs hP hD hS => ?_)
  have hP : va_P g.1 vwCl [oX10 q_t Q_t (F_t 0 0) (F_t 2 0) (F_t 3 0) (F_t 4 0) (F_t 5 0) (F_t 6 0) y_1 x1 (F_t 9 0) (F_t 10 0) (F_t 11 0) (F_t 12 0) (F_t 15 0) (F_t 16 0) (F_t 17 0) (F_t 23 0) (F_t 27 0) (F_t 28 0) (F_t 30 0)] H := hP
  have hD : va_D A [oX10 q_t Q_t (F_t 0 0) (F_t 2 0) (F_t 3 0) (F_t 4 0) (F_t 5 0) (F_t 6 0) y_1 x1 (F_t 9 0) (F_t 10 0) (F_t 11 0) (F_t 12 0) (F_t 15 0) (F_t 16 0) (F_t 17 0) (F_t 23 0) (F_t 27 0) (F_t 28 0) (F_t 30 0)] := hD
  refine lv_iconst (v := (0 : Int32)) hx hb dX10_fails_13 (by decide) ?_
  obtain rfl := Option.some.inj h
  exact k_zret hx hb hr hlk (.inl rfl) hP hD hS dX10_fails_14
set_option maxRecDepth 100000 in
theorem c_X10_fails (l : Launch) (g : gG) (q_t : Nat) (Q_t : Ad) (F_t : St) (x1 : Int32) (o : Int32 × Int32 × Int32) (h : x_X10_fails F_t x1 = some o) (sz : Nat) : MetI l yX10_fails (.code yX10_fails cX10_fails 2 (some .boolean) :: gW) 0 0 [.ref q_t, .int x1] o.1 g [oX10 q_t Q_t (F_t 0 0) (F_t 2 0) (F_t 3 0) (F_t 4 0) (F_t 5 0) (F_t 6 0) (F_t 7 0) (F_t 8 0) (F_t 9 0) (F_t 10 0) (F_t 11 0) (F_t 12 0) (F_t 15 0) (F_t 16 0) (F_t 17 0) (F_t 23 0) (F_t 27 0) (F_t 28 0) (F_t 30 0)] [oX10 q_t Q_t (F_t 0 0) (F_t 2 0) (F_t 3 0) (F_t 4 0) (F_t 5 0) (F_t 6 0) o.2.1 o.2.2 (F_t 9 0) (F_t 10 0) (F_t 11 0) (F_t 12 0) (F_t 15 0) (F_t 16 0) (F_t 17 0) (F_t 23 0) (F_t 27 0) (F_t 28 0) (F_t 30 0)] sz :=
  mkI (av := [.ref q_t, .int x1]) (by decide +kernel) rfl (fun p e s m below meth c A E H locs ls hP hD hS hl => t_X10_fails E q_t Q_t F_t x1 o h H locs ls hP hD hS hl) sz
def x_X10_isNumber_k38 (N : Nat) (F_t : St) : Option (Int32 × Int32 × Int32 × Int32 × Int32 × Int32 × Int32 × Int32) :=
  Option.bind (x_X10_fails F_t (2 : Int32)) (fun v_1 => if v_1.1 = 0 then (some ((0 : Int32), (F_t 2 0), (F_t 3 0), (F_t 4 0), (F_t 5 0), (F_t 6 0), v_1.2.1, v_1.2.2)) else (some ((1 : Int32), (F_t 2 0), (F_t 3 0), (F_t 4 0), (F_t 5 0), (F_t 6 0), v_1.2.1, v_1.2.2)))
set_option maxHeartbeats 4000000 in
set_option maxRecDepth 100000 in
theorem t_X10_isNumber_k38 {p : Program} {l : Launch} {e : Env} {s : State} {m : MethodId} {args : Array Value} {below : List Frame} {meth : Method} {c : Code} {g : gG} {A : Nat → Prop} (E : En p s m args meth c g A cX10_isNumber 3 (.code yX10_isNumber cX10_isNumber 3 (some .boolean) :: gW) RX10 (some .boolean)) (q_t : Nat) (Q_t : Ad) (N : Nat) (F_t : St) (o : Int32 × Int32 × Int32 × Int32 × Int32 × Int32 × Int32 × Int32) (h : x_X10_isNumber_k38 N F_t = some o) : WA p l e (rM 2 42) s m args below meth c g A (MQ below (QI g A o.1 [oX10 q_t Q_t (F_t 0 0) o.2.1 o.2.2.1 o.2.2.2.1 o.2.2.2.2.1 o.2.2.2.2.2.1 o.2.2.2.2.2.2.1 o.2.2.2.2.2.2.2 (F_t 9 0) (F_t 10 0) (F_t 11 0) (F_t 12 0) (F_t 15 0) (F_t 16 0) (F_t 17 0) (F_t 23 0) (F_t 27 0) (F_t 28 0) (F_t 30 0), ia g (Q_t 1) 240 (F_t 1)]) args s 0 0 A) 3 38 [oX10 q_t Q_t (F_t 0 0) (F_t 2 0) (F_t 3 0) (F_t 4 0) (F_t 5 0) (F_t 6 0) (F_t 7 0) (F_t 8 0) (F_t 9 0) (F_t 10 0) (F_t 11 0) (F_t 12 0) (F_t 15 0) (F_t 16 0) (F_t 17 0) (F_t 23 0) (F_t 27 0) (F_t 28 0) (F_t 30 0), ia g (Q_t 1) 240 (F_t 1)] [(0, .ref q_t)] [] := by
  obtain ⟨⟨hx, hb, hml, hown, hts⟩, hr, hK, hA, hlk⟩ := id E
  intro H locs ls hP hD hS hl
  refine lv_aload_n hx hb dX10_isNumber_38 rfl (lv_at hl 0 rfl) ?_
  refine lv_iconst (v := (2 : Int32)) hx hb dX10_isNumber_39 (by decide) ?_
  obtain ⟨v_1, hv_1, h⟩ := ox_bind h
  refine kVi ⟨hx, hb, hml, hown, hts⟩ (c_X10_fails l g q_t Q_t F_t (2 : Int32) v_1 hv_1 H.size) (gV u_ml_X10_116 u_im_X10_fails u_se_X10_fails u_ini_X10 u_co_X10_fails) hd_X10_fails ⟨rfl, rfl⟩ hK hP hD hS hA 0 10 rfl rfl [0] [0, 2] rfl rfl 1 rfl (w2 := [oX10 q_t Q_t (F_t 0 0) (F_t 2 0) (F_t 3 0) (F_t 4 0) (F_t 5 0) (F_t 6 0) v_1.2.1 v_1.2.2 (F_t 9 0) (F_t 10 0) (F_t 11 0) (F_t 12 0) (F_t 15 0) (F_t 16 0) (F_t 17 0) (F_t 23 0) (F_t 27 0) (F_t 28 0) (F_t 30 0), ia g (Q_t 1) 240 (F_t 1)]) rfl rfl (As := [.int (2 : Int32)]) (rest := []) rfl hl.1 rfl rfl dX10_isNumber_40 (fun H locs hP hD hS => ?_)
  refine lv_if_eq (tgt := 50) hx hb dX10_isNumber_43 (by decide) (fun c_2 => ?_) (fun c_2 => ?_)
  · have h := ox_t c_2 h
    refine lv_iconst (v := (0 : Int32)) hx hb dX10_isNumber_50 (by decide) ?_
    obtain rfl := Option.some.inj h
    exact k_zret hx hb hr hlk (.inl rfl) hP hD hS dX10_isNumber_51
  · have h := ox_f c_2 h
    refine lv_iconst (v := (1 : Int32)) hx hb dX10_isNumber_46 (by decide) ?_
    refine lv_goto (tgt := 51) hx hb dX10_isNumber_47 (by decide) ?_
    obtain rfl := Option.some.inj h
    exact k_zret hx hb hr hlk (.inr rfl) hP hD hS dX10_isNumber_51
def x_X10_isNumber (N : Nat) (F_t : St) (x1 : Int32) (x2 : Int32) : Option (Int32 × Int32 × Int32 × Int32 × Int32 × Int32 × Int32 × Int32) :=
  Option.bind (x_X10_nextToken N F_t) (fun v_3 => if v_3.2.2.1 = (-1 : Int32) then (if (4 : Int32) ≤ v_3.2.2.2.2 then (x_X10_isNumber_k38 N (va_up (va_up (va_up (va_up (va_up F_t 2 (fun _ => v_3.1)) 3 (fun _ => v_3.2.1)) 4 (fun _ => v_3.2.2.1)) 5 (fun _ => v_3.2.2.2.1)) 6 (fun _ => v_3.2.2.2.2))) else (Option.bind (x_X10_in v_3.2.2.2.1 x1 x2) (fun v_6 => if v_6 = 0 then (x_X10_isNumber_k38 N (va_up (va_up (va_up (va_up (va_up F_t 2 (fun _ => v_3.1)) 3 (fun _ => v_3.2.1)) 4 (fun _ => v_3.2.2.1)) 5 (fun _ => v_3.2.2.2.1)) 6 (fun _ => v_3.2.2.2.2))) else (some ((1 : Int32), v_3.1, v_3.2.1, v_3.2.2.1, v_3.2.2.2.1, v_3.2.2.2.2, (F_t 7 0), (F_t 8 0)))))) else (Option.bind (x_X10_fails (va_up (va_up (va_up (va_up (va_up F_t 2 (fun _ => v_3.1)) 3 (fun _ => v_3.2.1)) 4 (fun _ => v_3.2.2.1)) 5 (fun _ => v_3.2.2.2.1)) 6 (fun _ => v_3.2.2.2.2)) (1 : Int32)) (fun v_8 => if v_8.1 = 0 ∨ v_8.1 = 1 then some (v_8.1, v_3.1, v_3.2.1, v_3.2.2.1, v_3.2.2.2.1, v_3.2.2.2.2, v_8.2.1, v_8.2.2) else none)))
set_option maxHeartbeats 4000000 in
set_option maxRecDepth 100000 in
theorem t_X10_isNumber {p : Program} {l : Launch} {e : Env} {s : State} {m : MethodId} {args : Array Value} {below : List Frame} {meth : Method} {c : Code} {g : gG} {A : Nat → Prop} (E : En p s m args meth c g A cX10_isNumber 3 (.code yX10_isNumber cX10_isNumber 3 (some .boolean) :: gW) RX10 (some .boolean)) (q_t : Nat) (Q_t : Ad) (N : Nat) (F_t : St) (x1 : Int32) (x2 : Int32) (o : Int32 × Int32 × Int32 × Int32 × Int32 × Int32 × Int32 × Int32) (h : x_X10_isNumber N F_t x1 x2 = some o) : WA p l e (rM 2 42) s m args below meth c g A (MQ below (QI g A o.1 [oX10 q_t Q_t (F_t 0 0) o.2.1 o.2.2.1 o.2.2.2.1 o.2.2.2.2.1 o.2.2.2.2.2.1 o.2.2.2.2.2.2.1 o.2.2.2.2.2.2.2 (F_t 9 0) (F_t 10 0) (F_t 11 0) (F_t 12 0) (F_t 15 0) (F_t 16 0) (F_t 17 0) (F_t 23 0) (F_t 27 0) (F_t 28 0) (F_t 30 0), ia g (Q_t 1) 240 (F_t 1)]) args s 0 0 A) 3 0 [oX10 q_t Q_t (F_t 0 0) (F_t 2 0) (F_t 3 0) (F_t 4 0) (F_t 5 0) (F_t 6 0) (F_t 7 0) (F_t 8 0) (F_t 9 0) (F_t 10 0) (F_t 11 0) (F_t 12 0) (F_t 15 0) (F_t 16 0) (F_t 17 0) (F_t 23 0) (F_t 27 0) (F_t 28 0) (F_t 30 0), ia g (Q_t 1) 240 (F_t 1)] [(0, .ref q_t), (1, .int x1), (2, .int x2)] [] := by
  obtain ⟨⟨hx, hb, hml, hown, hts⟩, hr, hK, hA, hlk⟩ := id E
  intro H locs ls hP hD hS hl
  refine lv_aload_n hx hb dX10_isNumber_0 rfl (lv_at hl 0 rfl) ?_
  obtain ⟨v_3, hv_3, h⟩ := ox_bind h
  refine kVv ⟨hx, hb, hml, hown, hts⟩ (c_X10_nextToken l g q_t Q_t N F_t v_3 hv_3 H.size) (gV u_ml_X10_113 u_im_X10_nextToken u_se_X10_nextToken u_ini_X10 u_co_X10_nextToken) hd_X10_nextToken ⟨rfl, rfl⟩ hK hP hD hS hA 0 10 rfl rfl [0, 1] [0, 1] rfl rfl 2 rfl (w2 := [oX10 q_t Q_t (F_t 0 0) v_3.1 v_3.2.1 v_3.2.2.1 v_3.2.2.2.1 v_3.2.2.2.2 (F_t 7 0) (F_t 8 0) (F_t 9 0) (F_t 10 0) (F_t 11 0) (F_t 12 0) (F_t 15 0) (F_t 16 0) (F_t 17 0) (F_t 23 0) (F_t 27 0) (F_t 28 0) (F_t 30 0), ia g (Q_t 1) 240 (F_t 1)]) rfl rfl (As := []) (rest := []) rfl hl.1 rfl rfl dX10_isNumber_1 (fun H locs hP hD hS => ?_)
  refine lv_aload_n hx hb dX10_isNumber_4 rfl (lv_at hl 0 rfl) ?_
  refine va_get (ci := 10) (v := .int v_3.2.2.1) (C := RX10) (T := TX10) (N := 38) hx hb hts (fun w h => .tail _ (u_inX10 w h)) hown hK.1 hP 0 rfl rfl 4 (by decide) (hts _ (.tail _ u_fl_X10_107)) (fun _ h9 => h9) rfl dX10_isNumber_5 ?_
  refine lv_iconst (v := (-1 : Int32)) hx hb dX10_isNumber_8 (by decide) ?_
  refine lv_icmp_eq (tgt := 18) hx hb dX10_isNumber_9 (by decide) (fun c_4 => ?_) (fun c_4 => ?_)
  · have h := ox_t c_4 h
    refine lv_aload_n hx hb dX10_isNumber_18 rfl (lv_at hl 0 rfl) ?_
    refine va_get (ci := 10) (v := .int v_3.2.2.2.2) (C := RX10) (T := TX10) (N := 38) hx hb hts (fun w h => .tail _ (u_inX10 w h)) hown hK.1 hP 0 rfl rfl 6 (by decide) (hts _ (.tail _ u_fl_X10_104)) (fun _ h9 => h9) rfl dX10_isNumber_19 ?_
    refine lv_iconst (v := (4 : Int32)) hx hb dX10_isNumber_22 (by decide) ?_
    refine lv_icmp_ge (tgt := 38) hx hb dX10_isNumber_23 (by decide) (fun c_5 => ?_) (fun c_5 => ?_)
    · have h := ox_t c_5 h
      exact t_X10_isNumber_k38 E q_t Q_t N (va_up (va_up (va_up (va_up (va_up F_t 2 (fun _ => v_3.1)) 3 (fun _ => v_3.2.1)) 4 (fun _ => v_3.2.2.1)) 5 (fun _ => v_3.2.2.2.1)) 6 (fun _ => v_3.2.2.2.2)) _ h H locs ls hP hD hS (lv_sub hl [0] rfl)
    · have h := ox_f c_5 h
      refine lv_aload_n hx hb dX10_isNumber_26 rfl (lv_at hl 0 rfl) ?_
      refine va_get (ci := 10) (v := .int v_3.2.2.2.1) (C := RX10) (T := TX10) (N := 38) hx hb hts (fun w h => .tail _ (u_inX10 w h)) hown hK.1 hP 0 rfl rfl 5 (by decide) (hts _ (.tail _ u_fl_X10_101)) (fun _ h9 => h9) rfl dX10_isNumber_27 ?_
      refine lv_iload_n hx hb dX10_isNumber_30 rfl (lv_at hl 1 rfl) ?_
      refine lv_iload_n hx hb dX10_isNumber_31 rfl (lv_at hl 2 rfl) ?_
      obtain ⟨v_6, hv_6, h⟩ := ox_bind h
      refine kSi ⟨hx, hb, hml, hown, hts⟩ (c_X10_in l g v_3.2.2.2.1 x1 x2 v_6 hv_6 H.size) (gS u_ml_X10_83 u_st_X10_in u_ini_X10 u_co_X10_in) hd_X10_in ⟨rfl, rfl⟩ hK hP hD hS hA [] [0, 1] rfl rfl 0 rfl (w2 := [oX10 q_t Q_t (F_t 0 0) v_3.1 v_3.2.1 v_3.2.2.1 v_3.2.2.2.1 v_3.2.2.2.2 (F_t 7 0) (F_t 8 0) (F_t 9 0) (F_t 10 0) (F_t 11 0) (F_t 12 0) (F_t 15 0) (F_t 16 0) (F_t 17 0) (F_t 23 0) (F_t 27 0) (F_t 28 0) (F_t 30 0), ia g (Q_t 1) 240 (F_t 1)]) rfl rfl (As := [.int v_3.2.2.2.1, .int x1, .int x2]) (rest := []) rfl hl.1 rfl rfl dX10_isNumber_32 (fun H locs hP hD hS => ?_)
      refine lv_if_ne (tgt := 46) hx hb dX10_isNumber_35 (by decide) (fun c_7 => ?_) (fun c_7 => ?_)
      · have h := ox_f c_7 h
        refine lv_iconst (v := (1 : Int32)) hx hb dX10_isNumber_46 (by decide) ?_
        refine lv_goto (tgt := 51) hx hb dX10_isNumber_47 (by decide) ?_
        obtain rfl := Option.some.inj h
        exact k_zret hx hb hr hlk (.inr rfl) hP hD hS dX10_isNumber_51
      · have h := ox_t c_7 h
        exact t_X10_isNumber_k38 E q_t Q_t N (va_up (va_up (va_up (va_up (va_up F_t 2 (fun _ => v_3.1)) 3 (fun _ => v_3.2.1)) 4 (fun _ => v_3.2.2.1)) 5 (fun _ => v_3.2.2.2.1)) 6 (fun _ => v_3.2.2.2.2)) _ h H locs ls hP hD hS (lv_sub hl [0] rfl)
  · have h := ox_f c_4 h
    refine lv_aload_n hx hb dX10_isNumber_12 rfl (lv_at hl 0 rfl) ?_
    refine lv_iconst (v := (1 : Int32)) hx hb dX10_isNumber_13 (by decide) ?_
    obtain ⟨v_8, hv_8, h⟩ := ox_bind h
    refine kVi ⟨hx, hb, hml, hown, hts⟩ (c_X10_fails l g q_t Q_t (va_up (va_up (va_up (va_up (va_up F_t 2 (fun _ => v_3.1)) 3 (fun _ => v_3.2.1)) 4 (fun _ => v_3.2.2.1)) 5 (fun _ => v_3.2.2.2.1)) 6 (fun _ => v_3.2.2.2.2)) (1 : Int32) v_8 hv_8 H.size) (gV u_ml_X10_116 u_im_X10_fails u_se_X10_fails u_ini_X10 u_co_X10_fails) hd_X10_fails ⟨rfl, rfl⟩ hK hP hD hS hA 0 10 rfl rfl [0] [0, 2] rfl rfl 1 rfl (w2 := [oX10 q_t Q_t (F_t 0 0) v_3.1 v_3.2.1 v_3.2.2.1 v_3.2.2.2.1 v_3.2.2.2.2 v_8.2.1 v_8.2.2 (F_t 9 0) (F_t 10 0) (F_t 11 0) (F_t 12 0) (F_t 15 0) (F_t 16 0) (F_t 17 0) (F_t 23 0) (F_t 27 0) (F_t 28 0) (F_t 30 0), ia g (Q_t 1) 240 (F_t 1)]) rfl rfl (As := [.int (1 : Int32)]) (rest := []) rfl hl.1 rfl rfl dX10_isNumber_14 (fun H locs hP hD hS => ?_)
    obtain ⟨hz_9, h⟩ := ox_ok h
    obtain rfl := Option.some.inj h
    exact k_zret hx hb hr hlk hz_9 hP hD hS dX10_isNumber_17
set_option maxRecDepth 100000 in
theorem c_X10_isNumber (l : Launch) (g : gG) (q_t : Nat) (Q_t : Ad) (N : Nat) (F_t : St) (x1 : Int32) (x2 : Int32) (o : Int32 × Int32 × Int32 × Int32 × Int32 × Int32 × Int32 × Int32) (h : x_X10_isNumber N F_t x1 x2 = some o) (sz : Nat) : MetI l yX10_isNumber (.code yX10_isNumber cX10_isNumber 3 (some .boolean) :: gW) 2 42 [.ref q_t, .int x1, .int x2] o.1 g [oX10 q_t Q_t (F_t 0 0) (F_t 2 0) (F_t 3 0) (F_t 4 0) (F_t 5 0) (F_t 6 0) (F_t 7 0) (F_t 8 0) (F_t 9 0) (F_t 10 0) (F_t 11 0) (F_t 12 0) (F_t 15 0) (F_t 16 0) (F_t 17 0) (F_t 23 0) (F_t 27 0) (F_t 28 0) (F_t 30 0), ia g (Q_t 1) 240 (F_t 1)] [oX10 q_t Q_t (F_t 0 0) o.2.1 o.2.2.1 o.2.2.2.1 o.2.2.2.2.1 o.2.2.2.2.2.1 o.2.2.2.2.2.2.1 o.2.2.2.2.2.2.2 (F_t 9 0) (F_t 10 0) (F_t 11 0) (F_t 12 0) (F_t 15 0) (F_t 16 0) (F_t 17 0) (F_t 23 0) (F_t 27 0) (F_t 28 0) (F_t 30 0), ia g (Q_t 1) 240 (F_t 1)] sz :=
  mkI (av := [.ref q_t, .int x1, .int x2]) (by decide +kernel) rfl (fun p e s m below meth c A E H locs ls hP hD hS hl => t_X10_isNumber E q_t Q_t N F_t x1 x2 o h H locs ls hP hD hS hl) sz
def x_X10_isEnd (N : Nat) (F_t : St) : Option (Int32 × Int32 × Int32 × Int32 × Int32 × Int32 × Int32 × Int32) :=
  Option.bind (x_X10_nextToken N F_t) (fun v_1 => if v_1.2.2.1 = (59 : Int32) then (some ((1 : Int32), v_1.1, v_1.2.1, v_1.2.2.1, v_1.2.2.2.1, v_1.2.2.2.2, (F_t 7 0), (F_t 8 0))) else (Option.bind (x_X10_fails (va_up (va_up (va_up (va_up (va_up F_t 2 (fun _ => v_1.1)) 3 (fun _ => v_1.2.1)) 4 (fun _ => v_1.2.2.1)) 5 (fun _ => v_1.2.2.2.1)) 6 (fun _ => v_1.2.2.2.2)) (1 : Int32)) (fun v_3 => if v_3.1 = 0 then (some ((0 : Int32), v_1.1, v_1.2.1, v_1.2.2.1, v_1.2.2.2.1, v_1.2.2.2.2, v_3.2.1, v_3.2.2)) else (some ((1 : Int32), v_1.1, v_1.2.1, v_1.2.2.1, v_1.2.2.2.1, v_1.2.2.2.2, v_3.2.1, v_3.2.2)))))
set_option maxHeartbeats 4000000 in
set_option maxRecDepth 100000 in
theorem t_X10_isEnd {p : Program} {l : Launch} {e : Env} {s : State} {m : MethodId} {args : Array Value} {below : List Frame} {meth : Method} {c : Code} {g : gG} {A : Nat → Prop} (E : En p s m args meth c g A cX10_isEnd 1 (.code yX10_isEnd cX10_isEnd 1 (some .boolean) :: gW) RX10 (some .boolean)) (q_t : Nat) (Q_t : Ad) (N : Nat) (F_t : St) (o : Int32 × Int32 × Int32 × Int32 × Int32 × Int32 × Int32 × Int32) (h : x_X10_isEnd N F_t = some o) : WA p l e (rM 2 42) s m args below meth c g A (MQ below (QI g A o.1 [oX10 q_t Q_t (F_t 0 0) o.2.1 o.2.2.1 o.2.2.2.1 o.2.2.2.2.1 o.2.2.2.2.2.1 o.2.2.2.2.2.2.1 o.2.2.2.2.2.2.2 (F_t 9 0) (F_t 10 0) (F_t 11 0) (F_t 12 0) (F_t 15 0) (F_t 16 0) (F_t 17 0) (F_t 23 0) (F_t 27 0) (F_t 28 0) (F_t 30 0), ia g (Q_t 1) 240 (F_t 1)]) args s 0 0 A) 1 0 [oX10 q_t Q_t (F_t 0 0) (F_t 2 0) (F_t 3 0) (F_t 4 0) (F_t 5 0) (F_t 6 0) (F_t 7 0) (F_t 8 0) (F_t 9 0) (F_t 10 0) (F_t 11 0) (F_t 12 0) (F_t 15 0) (F_t 16 0) (F_t 17 0) (F_t 23 0) (F_t 27 0) (F_t 28 0) (F_t 30 0), ia g (Q_t 1) 240 (F_t 1)] [(0, .ref q_t)] [] := by
  obtain ⟨⟨hx, hb, hml, hown, hts⟩, hr, hK, hA, hlk⟩ := id E
  intro H locs ls hP hD hS hl
  refine lv_aload_n hx hb dX10_isEnd_0 rfl (lv_at hl 0 rfl) ?_
  obtain ⟨v_1, hv_1, h⟩ := ox_bind h
  refine kVv ⟨hx, hb, hml, hown, hts⟩ (c_X10_nextToken l g q_t Q_t N F_t v_1 hv_1 H.size) (gV u_ml_X10_113 u_im_X10_nextToken u_se_X10_nextToken u_ini_X10 u_co_X10_nextToken) hd_X10_nextToken ⟨rfl, rfl⟩ hK hP hD hS hA 0 10 rfl rfl [0, 1] [0, 1] rfl rfl 2 rfl (w2 := [oX10 q_t Q_t (F_t 0 0) v_1.1 v_1.2.1 v_1.2.2.1 v_1.2.2.2.1 v_1.2.2.2.2 (F_t 7 0) (F_t 8 0) (F_t 9 0) (F_t 10 0) (F_t 11 0) (F_t 12 0) (F_t 15 0) (F_t 16 0) (F_t 17 0) (F_t 23 0) (F_t 27 0) (F_t 28 0) (F_t 30 0), ia g (Q_t 1) 240 (F_t 1)]) rfl rfl (As := []) (rest := []) rfl hl.1 rfl rfl dX10_isEnd_1 (fun H locs hP hD hS => ?_)
  refine lv_aload_n hx hb dX10_isEnd_4 rfl (lv_at hl 0 rfl) ?_
  refine va_get (ci := 10) (v := .int v_1.2.2.1) (C := RX10) (T := TX10) (N := 38) hx hb hts (fun w h => .tail _ (u_inX10 w h)) hown hK.1 hP 0 rfl rfl 4 (by decide) (hts _ (.tail _ u_fl_X10_107)) (fun _ h9 => h9) rfl dX10_isEnd_5 ?_
  refine lv_bipush (v := (59 : Int32)) hx hb dX10_isEnd_8 (by decide) ?_
  refine lv_icmp_eq (tgt := 21) hx hb dX10_isEnd_10 (by decide) (fun c_2 => ?_) (fun c_2 => ?_)
  · have h := ox_t c_2 h
    refine lv_iconst (v := (1 : Int32)) hx hb dX10_isEnd_21 (by decide) ?_
    refine lv_goto (tgt := 26) hx hb dX10_isEnd_22 (by decide) ?_
    obtain rfl := Option.some.inj h
    exact k_zret hx hb hr hlk (.inr rfl) hP hD hS dX10_isEnd_26
  · have h := ox_f c_2 h
    refine lv_aload_n hx hb dX10_isEnd_13 rfl (lv_at hl 0 rfl) ?_
    refine lv_iconst (v := (1 : Int32)) hx hb dX10_isEnd_14 (by decide) ?_
    obtain ⟨v_3, hv_3, h⟩ := ox_bind h
    refine kVi ⟨hx, hb, hml, hown, hts⟩ (c_X10_fails l g q_t Q_t (va_up (va_up (va_up (va_up (va_up F_t 2 (fun _ => v_1.1)) 3 (fun _ => v_1.2.1)) 4 (fun _ => v_1.2.2.1)) 5 (fun _ => v_1.2.2.2.1)) 6 (fun _ => v_1.2.2.2.2)) (1 : Int32) v_3 hv_3 H.size) (gV u_ml_X10_116 u_im_X10_fails u_se_X10_fails u_ini_X10 u_co_X10_fails) hd_X10_fails ⟨rfl, rfl⟩ hK hP hD hS hA 0 10 rfl rfl [0] [0, 2] rfl rfl 1 rfl (w2 := [oX10 q_t Q_t (F_t 0 0) v_1.1 v_1.2.1 v_1.2.2.1 v_1.2.2.2.1 v_1.2.2.2.2 v_3.2.1 v_3.2.2 (F_t 9 0) (F_t 10 0) (F_t 11 0) (F_t 12 0) (F_t 15 0) (F_t 16 0) (F_t 17 0) (F_t 23 0) (F_t 27 0) (F_t 28 0) (F_t 30 0), ia g (Q_t 1) 240 (F_t 1)]) rfl rfl (As := [.int (1 : Int32)]) (rest := []) rfl hl.1 rfl rfl dX10_isEnd_15 (fun H locs hP hD hS => ?_)
    refine lv_if_eq (tgt := 25) hx hb dX10_isEnd_18 (by decide) (fun c_4 => ?_) (fun c_4 => ?_)
    · have h := ox_t c_4 h
      refine lv_iconst (v := (0 : Int32)) hx hb dX10_isEnd_25 (by decide) ?_
      obtain rfl := Option.some.inj h
      exact k_zret hx hb hr hlk (.inl rfl) hP hD hS dX10_isEnd_26
    · have h := ox_f c_4 h
      refine lv_iconst (v := (1 : Int32)) hx hb dX10_isEnd_21 (by decide) ?_
      refine lv_goto (tgt := 26) hx hb dX10_isEnd_22 (by decide) ?_
      obtain rfl := Option.some.inj h
      exact k_zret hx hb hr hlk (.inr rfl) hP hD hS dX10_isEnd_26
set_option maxRecDepth 100000 in
theorem c_X10_isEnd (l : Launch) (g : gG) (q_t : Nat) (Q_t : Ad) (N : Nat) (F_t : St) (o : Int32 × Int32 × Int32 × Int32 × Int32 × Int32 × Int32 × Int32) (h : x_X10_isEnd N F_t = some o) (sz : Nat) : MetI l yX10_isEnd (.code yX10_isEnd cX10_isEnd 1 (some .boolean) :: gW) 2 42 [.ref q_t] o.1 g [oX10 q_t Q_t (F_t 0 0) (F_t 2 0) (F_t 3 0) (F_t 4 0) (F_t 5 0) (F_t 6 0) (F_t 7 0) (F_t 8 0) (F_t 9 0) (F_t 10 0) (F_t 11 0) (F_t 12 0) (F_t 15 0) (F_t 16 0) (F_t 17 0) (F_t 23 0) (F_t 27 0) (F_t 28 0) (F_t 30 0), ia g (Q_t 1) 240 (F_t 1)] [oX10 q_t Q_t (F_t 0 0) o.2.1 o.2.2.1 o.2.2.2.1 o.2.2.2.2.1 o.2.2.2.2.2.1 o.2.2.2.2.2.2.1 o.2.2.2.2.2.2.2 (F_t 9 0) (F_t 10 0) (F_t 11 0) (F_t 12 0) (F_t 15 0) (F_t 16 0) (F_t 17 0) (F_t 23 0) (F_t 27 0) (F_t 28 0) (F_t 30 0), ia g (Q_t 1) 240 (F_t 1)] sz :=
  mkI (av := [.ref q_t]) (by decide +kernel) rfl (fun p e s m below meth c A E H locs ls hP hD hS hl => t_X10_isEnd E q_t Q_t N F_t o h H locs ls hP hD hS hl) sz
def x_X10_isMostItem (N : Nat) (F_t : St) : Option (Int32 × Int32 × Int32 × Int32 × Int32 × Int32 × Int32 × Int32 × Int32 × Int32) :=
  Option.bind (x_X10_isNumber N F_t (1 : Int32) (99 : Int32)) (fun v_1 => if v_1.1 = 0 then (some ((0 : Int32), v_1.2.1, v_1.2.2.1, v_1.2.2.2.1, v_1.2.2.2.2.1, v_1.2.2.2.2.2.1, v_1.2.2.2.2.2.2.1, v_1.2.2.2.2.2.2.2, (F_t 9 0), (F_t 10 0))) else (Option.bind (x_X10_isEnd N (va_up (va_up (va_up (va_up (va_up (va_up (va_up (va_up (va_up F_t 2 (fun _ => v_1.2.1)) 3 (fun _ => v_1.2.2.1)) 4 (fun _ => v_1.2.2.2.1)) 5 (fun _ => v_1.2.2.2.2.1)) 6 (fun _ => v_1.2.2.2.2.2.1)) 7 (fun _ => v_1.2.2.2.2.2.2.1)) 8 (fun _ => v_1.2.2.2.2.2.2.2)) 9 (fun _ => (1 : Int32))) 10 (fun _ => v_1.2.2.2.2.1))) (fun v_3 => if v_3.1 = 0 ∨ v_3.1 = 1 then some (v_3.1, v_3.2.1, v_3.2.2.1, v_3.2.2.2.1, v_3.2.2.2.2.1, v_3.2.2.2.2.2.1, v_3.2.2.2.2.2.2.1, v_3.2.2.2.2.2.2.2, (1 : Int32), v_1.2.2.2.2.1) else none)))
set_option maxHeartbeats 4000000 in
set_option maxRecDepth 100000 in
theorem t_X10_isMostItem {p : Program} {l : Launch} {e : Env} {s : State} {m : MethodId} {args : Array Value} {below : List Frame} {meth : Method} {c : Code} {g : gG} {A : Nat → Prop} (E : En p s m args meth c g A cX10_isMostItem 1 (.code yX10_isMostItem cX10_isMostItem 1 (some .boolean) :: gW) RX10 (some .boolean)) (q_t : Nat) (Q_t : Ad) (N : Nat) (F_t : St) (o : Int32 × Int32 × Int32 × Int32 × Int32 × Int32 × Int32 × Int32 × Int32 × Int32) (h : x_X10_isMostItem N F_t = some o) : WA p l e (rM 3 64) s m args below meth c g A (MQ below (QI g A o.1 [oX10 q_t Q_t (F_t 0 0) o.2.1 o.2.2.1 o.2.2.2.1 o.2.2.2.2.1 o.2.2.2.2.2.1 o.2.2.2.2.2.2.1 o.2.2.2.2.2.2.2.1 o.2.2.2.2.2.2.2.2.1 o.2.2.2.2.2.2.2.2.2 (F_t 11 0) (F_t 12 0) (F_t 15 0) (F_t 16 0) (F_t 17 0) (F_t 23 0) (F_t 27 0) (F_t 28 0) (F_t 30 0), ia g (Q_t 1) 240 (F_t 1)]) args s 0 0 A) 1 0 [oX10 q_t Q_t (F_t 0 0) (F_t 2 0) (F_t 3 0) (F_t 4 0) (F_t 5 0) (F_t 6 0) (F_t 7 0) (F_t 8 0) (F_t 9 0) (F_t 10 0) (F_t 11 0) (F_t 12 0) (F_t 15 0) (F_t 16 0) (F_t 17 0) (F_t 23 0) (F_t 27 0) (F_t 28 0) (F_t 30 0), ia g (Q_t 1) 240 (F_t 1)] [(0, .ref q_t)] [] := by
  obtain ⟨⟨hx, hb, hml, hown, hts⟩, hr, hK, hA, hlk⟩ := id E
  intro H locs ls hP hD hS hl
  refine lv_aload_n hx hb dX10_isMostItem_0 rfl (lv_at hl 0 rfl) ?_
  refine lv_iconst (v := (1 : Int32)) hx hb dX10_isMostItem_1 (by decide) ?_
  refine lv_bipush (v := (99 : Int32)) hx hb dX10_isMostItem_2 (by decide) ?_
  obtain ⟨v_1, hv_1, h⟩ := ox_bind h
  refine kVi ⟨hx, hb, hml, hown, hts⟩ (c_X10_isNumber l g q_t Q_t N F_t (1 : Int32) (99 : Int32) v_1 hv_1 H.size) (gV u_ml_X10_120 u_im_X10_isNumber u_se_X10_isNumber u_ini_X10 u_co_X10_isNumber) hd_X10_isNumber ⟨rfl, rfl⟩ hK hP hD hS hA 0 10 rfl rfl [0, 1] [0, 1] rfl rfl 2 rfl (w2 := [oX10 q_t Q_t (F_t 0 0) v_1.2.1 v_1.2.2.1 v_1.2.2.2.1 v_1.2.2.2.2.1 v_1.2.2.2.2.2.1 v_1.2.2.2.2.2.2.1 v_1.2.2.2.2.2.2.2 (F_t 9 0) (F_t 10 0) (F_t 11 0) (F_t 12 0) (F_t 15 0) (F_t 16 0) (F_t 17 0) (F_t 23 0) (F_t 27 0) (F_t 28 0) (F_t 30 0), ia g (Q_t 1) 240 (F_t 1)]) rfl rfl (As := [.int (1 : Int32), .int (99 : Int32)]) (rest := []) rfl hl.1 rfl rfl dX10_isMostItem_4 (fun H locs hP hD hS => ?_)
  refine lv_if_ne (tgt := 12) hx hb dX10_isMostItem_7 (by decide) (fun c_2 => ?_) (fun c_2 => ?_)
  · have h := ox_f c_2 h
    refine lv_aload_n hx hb dX10_isMostItem_12 rfl (lv_at hl 0 rfl) ?_
    refine lv_aload_n hx hb dX10_isMostItem_13 rfl (lv_at hl 0 rfl) ?_
    refine va_get (ci := 10) (v := .int v_1.2.2.2.2.1) (C := RX10) (T := TX10) (N := 38) hx hb hts (fun w h => .tail _ (u_inX10 w h)) hown hK.1 hP 0 rfl rfl 5 (by decide) (hts _ (.tail _ u_fl_X10_101)) (fun _ h9 => h9) rfl dX10_isMostItem_14 ?_
    refine va_put (ci := 10) (v := .int v_1.2.2.2.2.1) (ty := .int) (C := RX10) (T := TX10) (N := 38) hx hb hts (fun w h => .tail _ (u_inX10 w h)) tyX10 tyX10_ok nmX10 hown hK.1 hP hD hS 0 rfl rfl 10 (by decide) (hts _ (.tail _ u_fl_X10_124)) (fun _ h9 => h9) rfl (tyX10_ok 10 (by decide)) rfl rfl (Nat.le_of_ble_eq_true rfl) dX10_isMostItem_17 (fun H locs hP hD hS => ?_)
    have hP : va_P g.1 vwCl [oX10 q_t Q_t (F_t 0 0) v_1.2.1 v_1.2.2.1 v_1.2.2.2.1 v_1.2.2.2.2.1 v_1.2.2.2.2.2.1 v_1.2.2.2.2.2.2.1 v_1.2.2.2.2.2.2.2 (F_t 9 0) v_1.2.2.2.2.1 (F_t 11 0) (F_t 12 0) (F_t 15 0) (F_t 16 0) (F_t 17 0) (F_t 23 0) (F_t 27 0) (F_t 28 0) (F_t 30 0), ia g (Q_t 1) 240 (F_t 1)] H := hP
    have hD : va_D A [oX10 q_t Q_t (F_t 0 0) v_1.2.1 v_1.2.2.1 v_1.2.2.2.1 v_1.2.2.2.2.1 v_1.2.2.2.2.2.1 v_1.2.2.2.2.2.2.1 v_1.2.2.2.2.2.2.2 (F_t 9 0) v_1.2.2.2.2.1 (F_t 11 0) (F_t 12 0) (F_t 15 0) (F_t 16 0) (F_t 17 0) (F_t 23 0) (F_t 27 0) (F_t 28 0) (F_t 30 0), ia g (Q_t 1) 240 (F_t 1)] := hD
    refine lv_aload_n hx hb dX10_isMostItem_20 rfl (lv_at hl 0 rfl) ?_
    refine lv_iconst (v := (1 : Int32)) hx hb dX10_isMostItem_21 (by decide) ?_
    refine va_put (ci := 10) (v := .int (1 : Int32)) (ty := .boolean) (C := RX10) (T := TX10) (N := 38) hx hb hts (fun w h => .tail _ (u_inX10 w h)) tyX10 tyX10_ok nmX10 hown hK.1 hP hD hS 0 rfl rfl 9 (by decide) (hts _ (.tail _ u_fl_X10_127)) (fun _ h9 => h9) rfl (tyX10_ok 9 (by decide)) rfl rfl (Nat.le_of_ble_eq_true rfl) dX10_isMostItem_22 (fun H locs hP hD hS => ?_)
    have hP : va_P g.1 vwCl [oX10 q_t Q_t (F_t 0 0) v_1.2.1 v_1.2.2.1 v_1.2.2.2.1 v_1.2.2.2.2.1 v_1.2.2.2.2.2.1 v_1.2.2.2.2.2.2.1 v_1.2.2.2.2.2.2.2 (1 : Int32) v_1.2.2.2.2.1 (F_t 11 0) (F_t 12 0) (F_t 15 0) (F_t 16 0) (F_t 17 0) (F_t 23 0) (F_t 27 0) (F_t 28 0) (F_t 30 0), ia g (Q_t 1) 240 (F_t 1)] H := hP
    have hD : va_D A [oX10 q_t Q_t (F_t 0 0) v_1.2.1 v_1.2.2.1 v_1.2.2.2.1 v_1.2.2.2.2.1 v_1.2.2.2.2.2.1 v_1.2.2.2.2.2.2.1 v_1.2.2.2.2.2.2.2 (1 : Int32) v_1.2.2.2.2.1 (F_t 11 0) (F_t 12 0) (F_t 15 0) (F_t 16 0) (F_t 17 0) (F_t 23 0) (F_t 27 0) (F_t 28 0) (F_t 30 0), ia g (Q_t 1) 240 (F_t 1)] := hD
    refine lv_aload_n hx hb dX10_isMostItem_25 rfl (lv_at hl 0 rfl) ?_
    obtain ⟨v_3, hv_3, h⟩ := ox_bind h
    refine kVi ⟨hx, hb, hml, hown, hts⟩ (c_X10_isEnd l g q_t Q_t N (va_up (va_up (va_up (va_up (va_up (va_up (va_up (va_up (va_up F_t 2 (fun _ => v_1.2.1)) 3 (fun _ => v_1.2.2.1)) 4 (fun _ => v_1.2.2.2.1)) 5 (fun _ => v_1.2.2.2.2.1)) 6 (fun _ => v_1.2.2.2.2.2.1)) 7 (fun _ => v_1.2.2.2.2.2.2.1)) 8 (fun _ => v_1.2.2.2.2.2.2.2)) 9 (fun _ => (1 : Int32))) 10 (fun _ => v_1.2.2.2.2.1)) v_3 hv_3 H.size) (gV u_ml_X10_131 u_im_X10_isEnd u_se_X10_isEnd u_ini_X10 u_co_X10_isEnd) hd_X10_isEnd ⟨rfl, rfl⟩ hK hP hD hS hA 0 10 rfl rfl [0, 1] [0, 1] rfl rfl 2 rfl (w2 := [oX10 q_t Q_t (F_t 0 0) v_3.2.1 v_3.2.2.1 v_3.2.2.2.1 v_3.2.2.2.2.1 v_3.2.2.2.2.2.1 v_3.2.2.2.2.2.2.1 v_3.2.2.2.2.2.2.2 (1 : Int32) v_1.2.2.2.2.1 (F_t 11 0) (F_t 12 0) (F_t 15 0) (F_t 16 0) (F_t 17 0) (F_t 23 0) (F_t 27 0) (F_t 28 0) (F_t 30 0), ia g (Q_t 1) 240 (F_t 1)]) rfl rfl (As := []) (rest := []) rfl hl.1 rfl rfl dX10_isMostItem_26 (fun H locs hP hD hS => ?_)
    obtain ⟨hz_4, h⟩ := ox_ok h
    obtain rfl := Option.some.inj h
    exact k_zret hx hb hr hlk hz_4 hP hD hS dX10_isMostItem_29
  · have h := ox_t c_2 h
    refine lv_iconst (v := (0 : Int32)) hx hb dX10_isMostItem_10 (by decide) ?_
    obtain rfl := Option.some.inj h
    exact k_zret hx hb hr hlk (.inl rfl) hP hD hS dX10_isMostItem_11
set_option maxRecDepth 100000 in
theorem c_X10_isMostItem (l : Launch) (g : gG) (q_t : Nat) (Q_t : Ad) (N : Nat) (F_t : St) (o : Int32 × Int32 × Int32 × Int32 × Int32 × Int32 × Int32 × Int32 × Int32 × Int32) (h : x_X10_isMostItem N F_t = some o) (sz : Nat) : MetI l yX10_isMostItem (.code yX10_isMostItem cX10_isMostItem 1 (some .boolean) :: gW) 3 64 [.ref q_t] o.1 g [oX10 q_t Q_t (F_t 0 0) (F_t 2 0) (F_t 3 0) (F_t 4 0) (F_t 5 0) (F_t 6 0) (F_t 7 0) (F_t 8 0) (F_t 9 0) (F_t 10 0) (F_t 11 0) (F_t 12 0) (F_t 15 0) (F_t 16 0) (F_t 17 0) (F_t 23 0) (F_t 27 0) (F_t 28 0) (F_t 30 0), ia g (Q_t 1) 240 (F_t 1)] [oX10 q_t Q_t (F_t 0 0) o.2.1 o.2.2.1 o.2.2.2.1 o.2.2.2.2.1 o.2.2.2.2.2.1 o.2.2.2.2.2.2.1 o.2.2.2.2.2.2.2.1 o.2.2.2.2.2.2.2.2.1 o.2.2.2.2.2.2.2.2.2 (F_t 11 0) (F_t 12 0) (F_t 15 0) (F_t 16 0) (F_t 17 0) (F_t 23 0) (F_t 27 0) (F_t 28 0) (F_t 30 0), ia g (Q_t 1) 240 (F_t 1)] sz :=
  mkI (av := [.ref q_t]) (by decide +kernel) rfl (fun p e s m below meth c A E H locs ls hP hD hS hl => t_X10_isMostItem E q_t Q_t N F_t o h H locs ls hP hD hS hl) sz
def x_X10_isPlaceItem_b17_k34 (N : Nat) (F_t : St) (x1 : Int32) (s1 : Int32) (s2 : Int32) : Option ((Int32 × Int32 × Int32 × Int32 × Int32 × Int32 × Int32 × Int32 × (Nat → Int32)) ⊕ ((Int32 × Int32 × Int32 × Int32 × Int32 × Int32 × Int32 × (Nat → Int32)) ⊕ (Int32 × Int32 × Int32 × Int32 × Int32 × Int32 × Int32 × (Nat → Int32)))) :=
  Option.bind (x_X10_isNumber N F_t s1 s2) (fun v_2 => if v_2.1 = 0 then (some (.inr (.inl (v_2.2.1, v_2.2.2.1, v_2.2.2.2.1, v_2.2.2.2.2.1, v_2.2.2.2.2.2.1, v_2.2.2.2.2.2.2.1, v_2.2.2.2.2.2.2.2, (F_t 13))))) else (if (((2 : Int32) * (F_t 11 0)) + x1) < 0 ∨ 16 ≤ (((2 : Int32) * (F_t 11 0)) + x1).toNatClampNeg then none else some (.inl ((x1 + (1 : Int32)), v_2.2.1, v_2.2.2.1, v_2.2.2.2.1, v_2.2.2.2.2.1, v_2.2.2.2.2.2.1, v_2.2.2.2.2.2.2.1, v_2.2.2.2.2.2.2.2, (upd (F_t 13) (((2 : Int32) * (F_t 11 0)) + x1).toNatClampNeg v_2.2.2.2.2.1)))))
set_option maxHeartbeats 4000000 in
set_option maxRecDepth 100000 in
theorem t_X10_isPlaceItem_b17_k34 {p : Program} {l : Launch} {e : Env} {s : State} {m : MethodId} {args : Array Value} {below : List Frame} {meth : Method} {c : Code} {g : gG} {A : Nat → Prop} {Q : State → Prop} (E : En p s m args meth c g A cX10_isPlaceItem 2 (.code yX10_isPlaceItem cX10_isPlaceItem 2 (some .boolean) :: gW) RX10 (some .boolean)) (q_t : Nat) (Q_t : Ad) (N : Nat) (F_t : St) (x1 : Int32) (s1 : Int32) (s2 : Int32) (o : (Int32 × Int32 × Int32 × Int32 × Int32 × Int32 × Int32 × Int32 × (Nat → Int32)) ⊕ ((Int32 × Int32 × Int32 × Int32 × Int32 × Int32 × Int32 × (Nat → Int32)) ⊕ (Int32 × Int32 × Int32 × Int32 × Int32 × Int32 × Int32 × (Nat → Int32)))) (h : x_X10_isPlaceItem_b17_k34 N F_t x1 s1 s2 = some o) (hc : ∀ z, o = .inl z → WA p l e (rM 3 64) s m args below meth c g A Q 2 17 [oX10 q_t Q_t (F_t 0 0) z.2.1 z.2.2.1 z.2.2.2.1 z.2.2.2.2.1 z.2.2.2.2.2.1 z.2.2.2.2.2.2.1 z.2.2.2.2.2.2.2.1 (F_t 9 0) (F_t 10 0) (F_t 11 0) (F_t 12 0) (F_t 15 0) (F_t 16 0) (F_t 17 0) (F_t 23 0) (F_t 27 0) (F_t 28 0) (F_t 30 0), ia g (Q_t 1) 240 (F_t 1), ia g (Q_t 13) 16 z.2.2.2.2.2.2.2.2] [(0, .ref q_t), (1, .int z.1)] []) (he0 : ∀ v, o = .inr (.inl v) → WA p l e (rM 3 64) s m args below meth c g A Q 2 40 [oX10 q_t Q_t (F_t 0 0) v.1 v.2.1 v.2.2.1 v.2.2.2.1 v.2.2.2.2.1 v.2.2.2.2.2.1 v.2.2.2.2.2.2.1 (F_t 9 0) (F_t 10 0) (F_t 11 0) (F_t 12 0) (F_t 15 0) (F_t 16 0) (F_t 17 0) (F_t 23 0) (F_t 27 0) (F_t 28 0) (F_t 30 0), ia g (Q_t 1) 240 (F_t 1), ia g (Q_t 13) 16 v.2.2.2.2.2.2.2] [] []) (he1 : ∀ v, o = .inr (.inr v) → WA p l e (rM 3 64) s m args below meth c g A Q 2 65 [oX10 q_t Q_t (F_t 0 0) v.1 v.2.1 v.2.2.1 v.2.2.2.1 v.2.2.2.2.1 v.2.2.2.2.2.1 v.2.2.2.2.2.2.1 (F_t 9 0) (F_t 10 0) (F_t 11 0) (F_t 12 0) (F_t 15 0) (F_t 16 0) (F_t 17 0) (F_t 23 0) (F_t 27 0) (F_t 28 0) (F_t 30 0), ia g (Q_t 1) 240 (F_t 1), ia g (Q_t 13) 16 v.2.2.2.2.2.2.2] [(0, .ref q_t)] []) : WA p l e (rM 3 64) s m args below meth c g A Q 2 34 [oX10 q_t Q_t (F_t 0 0) (F_t 2 0) (F_t 3 0) (F_t 4 0) (F_t 5 0) (F_t 6 0) (F_t 7 0) (F_t 8 0) (F_t 9 0) (F_t 10 0) (F_t 11 0) (F_t 12 0) (F_t 15 0) (F_t 16 0) (F_t 17 0) (F_t 23 0) (F_t 27 0) (F_t 28 0) (F_t 30 0), ia g (Q_t 1) 240 (F_t 1), ia g (Q_t 13) 16 (F_t 13)] [(0, .ref q_t), (1, .int x1)] [.int s2, .int s1, .ref q_t] := by
  obtain ⟨⟨hx, hb, hml, hown, hts⟩, hr, hK, hA, hlk⟩ := id E
  intro H locs ls hP hD hS hl
  obtain ⟨v_2, hv_2, h⟩ := ox_bind h
  refine kVi ⟨hx, hb, hml, hown, hts⟩ (c_X10_isNumber l g q_t Q_t N F_t s1 s2 v_2 hv_2 H.size) (gV u_ml_X10_120 u_im_X10_isNumber u_se_X10_isNumber u_ini_X10 u_co_X10_isNumber) hd_X10_isNumber ⟨rfl, rfl⟩ hK hP hD hS hA 0 10 rfl rfl [0, 1] [0, 1, 4] rfl rfl 2 rfl (w2 := [oX10 q_t Q_t (F_t 0 0) v_2.2.1 v_2.2.2.1 v_2.2.2.2.1 v_2.2.2.2.2.1 v_2.2.2.2.2.2.1 v_2.2.2.2.2.2.2.1 v_2.2.2.2.2.2.2.2 (F_t 9 0) (F_t 10 0) (F_t 11 0) (F_t 12 0) (F_t 15 0) (F_t 16 0) (F_t 17 0) (F_t 23 0) (F_t 27 0) (F_t 28 0) (F_t 30 0), ia g (Q_t 1) 240 (F_t 1), ia g (Q_t 13) 16 (F_t 13)]) rfl rfl (As := [.int s1, .int s2]) (rest := []) rfl hl.1 rfl rfl dX10_isPlaceItem_34 (fun H locs hP hD hS => ?_)
  refine lv_if_ne (tgt := 42) hx hb dX10_isPlaceItem_37 (by decide) (fun c_3 => ?_) (fun c_3 => ?_)
  · have h := ox_f c_3 h
    refine lv_aload_n hx hb dX10_isPlaceItem_42 rfl (lv_at hl 0 rfl) ?_
    refine va_get (ci := 10) (v := .ref (Q_t 13)) (C := RX10) (T := TX10) (N := 38) hx hb hts (fun w h => .tail _ (u_inX10 w h)) hown hK.1 hP 0 rfl rfl 13 (by decide) (hts _ (.tail _ u_fl_X10_17)) (fun _ h9 => h9) rfl dX10_isPlaceItem_43 ?_
    refine lv_iconst (v := (2 : Int32)) hx hb dX10_isPlaceItem_46 (by decide) ?_
    refine lv_aload_n hx hb dX10_isPlaceItem_47 rfl (lv_at hl 0 rfl) ?_
    refine va_get (ci := 10) (v := .int (F_t 11 0)) (C := RX10) (T := TX10) (N := 38) hx hb hts (fun w h => .tail _ (u_inX10 w h)) hown hK.1 hP 0 rfl rfl 11 (by decide) (hts _ (.tail _ u_fl_X10_135)) (fun _ h9 => h9) rfl dX10_isPlaceItem_48 ?_
    refine lv_imul hx hb dX10_isPlaceItem_51 ?_
    refine lv_iload_n hx hb dX10_isPlaceItem_52 rfl (lv_at hl 1 rfl) ?_
    refine lv_iadd hx hb dX10_isPlaceItem_53 ?_
    refine lv_aload_n hx hb dX10_isPlaceItem_54 rfl (lv_at hl 0 rfl) ?_
    refine va_get (ci := 10) (v := .int v_2.2.2.2.2.1) (C := RX10) (T := TX10) (N := 38) hx hb hts (fun w h => .tail _ (u_inX10 w h)) hown hK.1 hP 0 rfl rfl 5 (by decide) (hts _ (.tail _ u_fl_X10_101)) (fun _ h9 => h9) rfl dX10_isPlaceItem_55 ?_
    obtain ⟨hi_4, h⟩ := ox_chk h
    refine va_iast hx hb hK.1 hP hD hS 2 0 rfl rfl hi_4 dX10_isPlaceItem_58 (fun H locs hP hD hS => ?_)
    have hP : va_P g.1 vwCl [oX10 q_t Q_t (F_t 0 0) v_2.2.1 v_2.2.2.1 v_2.2.2.2.1 v_2.2.2.2.2.1 v_2.2.2.2.2.2.1 v_2.2.2.2.2.2.2.1 v_2.2.2.2.2.2.2.2 (F_t 9 0) (F_t 10 0) (F_t 11 0) (F_t 12 0) (F_t 15 0) (F_t 16 0) (F_t 17 0) (F_t 23 0) (F_t 27 0) (F_t 28 0) (F_t 30 0), ia g (Q_t 1) 240 (F_t 1), ia g (Q_t 13) 16 (upd (F_t 13) (((2 : Int32) * (F_t 11 0)) + x1).toNatClampNeg v_2.2.2.2.2.1)] H := hP
    have hD : va_D A [oX10 q_t Q_t (F_t 0 0) v_2.2.1 v_2.2.2.1 v_2.2.2.2.1 v_2.2.2.2.2.1 v_2.2.2.2.2.2.1 v_2.2.2.2.2.2.2.1 v_2.2.2.2.2.2.2.2 (F_t 9 0) (F_t 10 0) (F_t 11 0) (F_t 12 0) (F_t 15 0) (F_t 16 0) (F_t 17 0) (F_t 23 0) (F_t 27 0) (F_t 28 0) (F_t 30 0), ia g (Q_t 1) 240 (F_t 1), ia g (Q_t 13) 16 (upd (F_t 13) (((2 : Int32) * (F_t 11 0)) + x1).toNatClampNeg v_2.2.2.2.2.1)] := hD
    refine lv_iinc (v := (x1 + (1 : Int32))) (lv' := [(1, .int (x1 + (1 : Int32))), (0, .ref q_t)]) hx hb dX10_isPlaceItem_59 hl (k := 1) rfl rfl (by decide) rfl (fun ls hl => ?_)
    refine lv_goto (tgt := 17) hx hb dX10_isPlaceItem_62 (by decide) ?_
    obtain rfl := Option.some.inj h
    exact hc _ rfl H locs ls hP hD hS (lv_sub hl [1, 0] rfl)
  · have h := ox_t c_3 h
    obtain rfl := Option.some.inj h
    exact he0 _ rfl H locs ls hP hD hS (lv_sub hl [] rfl)
def x_X10_isPlaceItem_b17 (N : Nat) (F_t : St) (x1 : Int32) : Option ((Int32 × Int32 × Int32 × Int32 × Int32 × Int32 × Int32 × Int32 × (Nat → Int32)) ⊕ ((Int32 × Int32 × Int32 × Int32 × Int32 × Int32 × Int32 × (Nat → Int32)) ⊕ (Int32 × Int32 × Int32 × Int32 × Int32 × Int32 × Int32 × (Nat → Int32)))) :=
  if (2 : Int32) ≤ x1 then (some (.inr (.inr ((F_t 2 0), (F_t 3 0), (F_t 4 0), (F_t 5 0), (F_t 6 0), (F_t 7 0), (F_t 8 0), (F_t 13))))) else (if x1 = 0 then (x_X10_isPlaceItem_b17_k34 N F_t x1 (0 : Int32) (3 : Int32)) else (x_X10_isPlaceItem_b17_k34 N F_t x1 (0 : Int32) (99 : Int32)))
set_option maxHeartbeats 4000000 in
set_option maxRecDepth 100000 in
theorem t_X10_isPlaceItem_b17 {p : Program} {l : Launch} {e : Env} {s : State} {m : MethodId} {args : Array Value} {below : List Frame} {meth : Method} {c : Code} {g : gG} {A : Nat → Prop} {Q : State → Prop} (E : En p s m args meth c g A cX10_isPlaceItem 2 (.code yX10_isPlaceItem cX10_isPlaceItem 2 (some .boolean) :: gW) RX10 (some .boolean)) (q_t : Nat) (Q_t : Ad) (N : Nat) (F_t : St) (x1 : Int32) (o : (Int32 × Int32 × Int32 × Int32 × Int32 × Int32 × Int32 × Int32 × (Nat → Int32)) ⊕ ((Int32 × Int32 × Int32 × Int32 × Int32 × Int32 × Int32 × (Nat → Int32)) ⊕ (Int32 × Int32 × Int32 × Int32 × Int32 × Int32 × Int32 × (Nat → Int32)))) (h : x_X10_isPlaceItem_b17 N F_t x1 = some o) (hc : ∀ z, o = .inl z → WA p l e (rM 3 64) s m args below meth c g A Q 2 17 [oX10 q_t Q_t (F_t 0 0) z.2.1 z.2.2.1 z.2.2.2.1 z.2.2.2.2.1 z.2.2.2.2.2.1 z.2.2.2.2.2.2.1 z.2.2.2.2.2.2.2.1 (F_t 9 0) (F_t 10 0) (F_t 11 0) (F_t 12 0) (F_t 15 0) (F_t 16 0) (F_t 17 0) (F_t 23 0) (F_t 27 0) (F_t 28 0) (F_t 30 0), ia g (Q_t 1) 240 (F_t 1), ia g (Q_t 13) 16 z.2.2.2.2.2.2.2.2] [(0, .ref q_t), (1, .int z.1)] []) (he0 : ∀ v, o = .inr (.inl v) → WA p l e (rM 3 64) s m args below meth c g A Q 2 40 [oX10 q_t Q_t (F_t 0 0) v.1 v.2.1 v.2.2.1 v.2.2.2.1 v.2.2.2.2.1 v.2.2.2.2.2.1 v.2.2.2.2.2.2.1 (F_t 9 0) (F_t 10 0) (F_t 11 0) (F_t 12 0) (F_t 15 0) (F_t 16 0) (F_t 17 0) (F_t 23 0) (F_t 27 0) (F_t 28 0) (F_t 30 0), ia g (Q_t 1) 240 (F_t 1), ia g (Q_t 13) 16 v.2.2.2.2.2.2.2] [] []) (he1 : ∀ v, o = .inr (.inr v) → WA p l e (rM 3 64) s m args below meth c g A Q 2 65 [oX10 q_t Q_t (F_t 0 0) v.1 v.2.1 v.2.2.1 v.2.2.2.1 v.2.2.2.2.1 v.2.2.2.2.2.1 v.2.2.2.2.2.2.1 (F_t 9 0) (F_t 10 0) (F_t 11 0) (F_t 12 0) (F_t 15 0) (F_t 16 0) (F_t 17 0) (F_t 23 0) (F_t 27 0) (F_t 28 0) (F_t 30 0), ia g (Q_t 1) 240 (F_t 1), ia g (Q_t 13) 16 v.2.2.2.2.2.2.2] [(0, .ref q_t)] []) : WA p l e (rM 3 64) s m args below meth c g A Q 2 17 [oX10 q_t Q_t (F_t 0 0) (F_t 2 0) (F_t 3 0) (F_t 4 0) (F_t 5 0) (F_t 6 0) (F_t 7 0) (F_t 8 0) (F_t 9 0) (F_t 10 0) (F_t 11 0) (F_t 12 0) (F_t 15 0) (F_t 16 0) (F_t 17 0) (F_t 23 0) (F_t 27 0) (F_t 28 0) (F_t 30 0), ia g (Q_t 1) 240 (F_t 1), ia g (Q_t 13) 16 (F_t 13)] [(0, .ref q_t), (1, .int x1)] [] := by
  obtain ⟨⟨hx, hb, hml, hown, hts⟩, hr, hK, hA, hlk⟩ := id E
  intro H locs ls hP hD hS hl
  refine lv_iload_n hx hb dX10_isPlaceItem_17 rfl (lv_at hl 1 rfl) ?_
  refine lv_iconst (v := (2 : Int32)) hx hb dX10_isPlaceItem_18 (by decide) ?_
  refine lv_icmp_ge (tgt := 65) hx hb dX10_isPlaceItem_19 (by decide) (fun c_5 => ?_) (fun c_5 => ?_)
  · have h := ox_t c_5 h
    obtain rfl := Option.some.inj h
    exact he1 _ rfl H locs ls hP hD hS (lv_sub hl [0] rfl)
  · have h := ox_f c_5 h
    refine lv_aload_n hx hb dX10_isPlaceItem_22 rfl (lv_at hl 0 rfl) ?_
    refine lv_iconst (v := (0 : Int32)) hx hb dX10_isPlaceItem_23 (by decide) ?_
    refine lv_iload_n hx hb dX10_isPlaceItem_24 rfl (lv_at hl 1 rfl) ?_
    refine lv_if_ne (tgt := 32) hx hb dX10_isPlaceItem_25 (by decide) (fun c_6 => ?_) (fun c_6 => ?_)
    · have h := ox_f c_6 h
      refine lv_bipush (v := (99 : Int32)) hx hb dX10_isPlaceItem_32 (by decide) ?_
      exact t_X10_isPlaceItem_b17_k34 E q_t Q_t N F_t x1 (0 : Int32) (99 : Int32) _ h hc he0 he1 H locs ls hP hD hS hl
    · have h := ox_t c_6 h
      refine lv_iconst (v := (3 : Int32)) hx hb dX10_isPlaceItem_28 (by decide) ?_
      refine lv_goto (tgt := 34) hx hb dX10_isPlaceItem_29 (by decide) ?_
      exact t_X10_isPlaceItem_b17_k34 E q_t Q_t N F_t x1 (0 : Int32) (3 : Int32) _ h hc he0 he1 H locs ls hP hD hS hl
def x_X10_isPlaceItem (N : Nat) (F_t : St) : Option (Int32 × Int32 × Int32 × Int32 × Int32 × Int32 × Int32 × Int32 × Int32 × (Nat → Int32)) :=
  if (F_t 11 0) = (8 : Int32) then (Option.bind (x_X10_fails F_t (3 : Int32)) (fun v_11 => if v_11.1 = 0 ∨ v_11.1 = 1 then some (v_11.1, (F_t 2 0), (F_t 3 0), (F_t 4 0), (F_t 5 0), (F_t 6 0), v_11.2.1, v_11.2.2, (F_t 11 0), (F_t 13)) else none)) else (Option.bind (lpc (fun (z : Int32 × Int32 × Int32 × Int32 × Int32 × Int32 × Int32 × Int32 × (Nat → Int32)) => x_X10_isPlaceItem_b17 N (va_up (va_up (va_up (va_up (va_up (va_up (va_up (va_up F_t 2 (fun _ => z.2.1)) 3 (fun _ => z.2.2.1)) 4 (fun _ => z.2.2.2.1)) 5 (fun _ => z.2.2.2.2.1)) 6 (fun _ => z.2.2.2.2.2.1)) 7 (fun _ => z.2.2.2.2.2.2.1)) 8 (fun _ => z.2.2.2.2.2.2.2.1)) 13 z.2.2.2.2.2.2.2.2) z.1) N ((0 : Int32), (F_t 2 0), (F_t 3 0), (F_t 4 0), (F_t 5 0), (F_t 6 0), (F_t 7 0), (F_t 8 0), (F_t 13))) (fun v_7 => Sum.elim (fun v_7 => some ((0 : Int32), v_7.1, v_7.2.1, v_7.2.2.1, v_7.2.2.2.1, v_7.2.2.2.2.1, v_7.2.2.2.2.2.1, v_7.2.2.2.2.2.2.1, (F_t 11 0), v_7.2.2.2.2.2.2.2)) (fun v_7 => xl ((F_t 11 0) + (1 : Int32)) (fun y_8 => Option.bind (x_X10_isEnd N (va_up (va_up (va_up (va_up (va_up (va_up (va_up (va_up (va_up F_t 2 (fun _ => v_7.1)) 3 (fun _ => v_7.2.1)) 4 (fun _ => v_7.2.2.1)) 5 (fun _ => v_7.2.2.2.1)) 6 (fun _ => v_7.2.2.2.2.1)) 7 (fun _ => v_7.2.2.2.2.2.1)) 8 (fun _ => v_7.2.2.2.2.2.2.1)) 11 (fun _ => y_8)) 13 v_7.2.2.2.2.2.2.2)) (fun v_9 => if v_9.1 = 0 ∨ v_9.1 = 1 then some (v_9.1, v_9.2.1, v_9.2.2.1, v_9.2.2.2.1, v_9.2.2.2.2.1, v_9.2.2.2.2.2.1, v_9.2.2.2.2.2.2.1, v_9.2.2.2.2.2.2.2, y_8, v_7.2.2.2.2.2.2.2) else none))) v_7))
set_option maxHeartbeats 4000000 in
set_option maxRecDepth 100000 in
theorem t_X10_isPlaceItem {p : Program} {l : Launch} {e : Env} {s : State} {m : MethodId} {args : Array Value} {below : List Frame} {meth : Method} {c : Code} {g : gG} {A : Nat → Prop} (E : En p s m args meth c g A cX10_isPlaceItem 2 (.code yX10_isPlaceItem cX10_isPlaceItem 2 (some .boolean) :: gW) RX10 (some .boolean)) (q_t : Nat) (Q_t : Ad) (N : Nat) (F_t : St) (o : Int32 × Int32 × Int32 × Int32 × Int32 × Int32 × Int32 × Int32 × Int32 × (Nat → Int32)) (h : x_X10_isPlaceItem N F_t = some o) : WA p l e (rM 3 64) s m args below meth c g A (MQ below (QI g A o.1 [oX10 q_t Q_t (F_t 0 0) o.2.1 o.2.2.1 o.2.2.2.1 o.2.2.2.2.1 o.2.2.2.2.2.1 o.2.2.2.2.2.2.1 o.2.2.2.2.2.2.2.1 (F_t 9 0) (F_t 10 0) o.2.2.2.2.2.2.2.2.1 (F_t 12 0) (F_t 15 0) (F_t 16 0) (F_t 17 0) (F_t 23 0) (F_t 27 0) (F_t 28 0) (F_t 30 0), ia g (Q_t 1) 240 (F_t 1), ia g (Q_t 13) 16 o.2.2.2.2.2.2.2.2.2]) args s 0 0 A) 2 0 [oX10 q_t Q_t (F_t 0 0) (F_t 2 0) (F_t 3 0) (F_t 4 0) (F_t 5 0) (F_t 6 0) (F_t 7 0) (F_t 8 0) (F_t 9 0) (F_t 10 0) (F_t 11 0) (F_t 12 0) (F_t 15 0) (F_t 16 0) (F_t 17 0) (F_t 23 0) (F_t 27 0) (F_t 28 0) (F_t 30 0), ia g (Q_t 1) 240 (F_t 1), ia g (Q_t 13) 16 (F_t 13)] [(0, .ref q_t)] [] := by
  obtain ⟨⟨hx, hb, hml, hown, hts⟩, hr, hK, hA, hlk⟩ := id E
  intro H locs ls hP hD hS hl
  refine lv_aload_n hx hb dX10_isPlaceItem_0 rfl (lv_at hl 0 rfl) ?_
  refine va_get (ci := 10) (v := .int (F_t 11 0)) (C := RX10) (T := TX10) (N := 38) hx hb hts (fun w h => .tail _ (u_inX10 w h)) hown hK.1 hP 0 rfl rfl 11 (by decide) (hts _ (.tail _ u_fl_X10_135)) (fun _ h9 => h9) rfl dX10_isPlaceItem_1 ?_
  refine lv_bipush (v := (8 : Int32)) hx hb dX10_isPlaceItem_4 (by decide) ?_
  refine lv_icmp_ne (tgt := 15) hx hb dX10_isPlaceItem_6 (by decide) (fun c_1 => ?_) (fun c_1 => ?_)
  · have h := ox_f c_1 h
    refine lv_iconst (v := (0 : Int32)) hx hb dX10_isPlaceItem_15 (by decide) ?_
    refine lv_istore_n (lv' := [(1, .int (0 : Int32)), (0, .ref q_t)]) hx hb dX10_isPlaceItem_16 rfl hl (by decide) rfl (fun ls hl => ?_)
    obtain ⟨v_7, hv_7, h⟩ := ox_bind h
    refine lpc_W (Wh := fun (z : Int32 × Int32 × Int32 × Int32 × Int32 × Int32 × Int32 × Int32 × (Nat → Int32)) => WA p l e (rM 3 64) s m args below meth c g A (MQ below (QI g A o.1 [oX10 q_t Q_t (F_t 0 0) o.2.1 o.2.2.1 o.2.2.2.1 o.2.2.2.2.1 o.2.2.2.2.2.1 o.2.2.2.2.2.2.1 o.2.2.2.2.2.2.2.1 (F_t 9 0) (F_t 10 0) o.2.2.2.2.2.2.2.2.1 (F_t 12 0) (F_t 15 0) (F_t 16 0) (F_t 17 0) (F_t 23 0) (F_t 27 0) (F_t 28 0) (F_t 30 0), ia g (Q_t 1) 240 (F_t 1), ia g (Q_t 13) 16 o.2.2.2.2.2.2.2.2.2]) args s 0 0 A) 2 17 [oX10 q_t Q_t (F_t 0 0) z.2.1 z.2.2.1 z.2.2.2.1 z.2.2.2.2.1 z.2.2.2.2.2.1 z.2.2.2.2.2.2.1 z.2.2.2.2.2.2.2.1 (F_t 9 0) (F_t 10 0) (F_t 11 0) (F_t 12 0) (F_t 15 0) (F_t 16 0) (F_t 17 0) (F_t 23 0) (F_t 27 0) (F_t 28 0) (F_t 30 0), ia g (Q_t 1) 240 (F_t 1), ia g (Q_t 13) 16 z.2.2.2.2.2.2.2.2] [(0, .ref q_t), (1, .int z.1)] []) (We := Sum.elim (fun (v : Int32 × Int32 × Int32 × Int32 × Int32 × Int32 × Int32 × (Nat → Int32)) => WA p l e (rM 3 64) s m args below meth c g A (MQ below (QI g A o.1 [oX10 q_t Q_t (F_t 0 0) o.2.1 o.2.2.1 o.2.2.2.1 o.2.2.2.2.1 o.2.2.2.2.2.1 o.2.2.2.2.2.2.1 o.2.2.2.2.2.2.2.1 (F_t 9 0) (F_t 10 0) o.2.2.2.2.2.2.2.2.1 (F_t 12 0) (F_t 15 0) (F_t 16 0) (F_t 17 0) (F_t 23 0) (F_t 27 0) (F_t 28 0) (F_t 30 0), ia g (Q_t 1) 240 (F_t 1), ia g (Q_t 13) 16 o.2.2.2.2.2.2.2.2.2]) args s 0 0 A) 2 40 [oX10 q_t Q_t (F_t 0 0) v.1 v.2.1 v.2.2.1 v.2.2.2.1 v.2.2.2.2.1 v.2.2.2.2.2.1 v.2.2.2.2.2.2.1 (F_t 9 0) (F_t 10 0) (F_t 11 0) (F_t 12 0) (F_t 15 0) (F_t 16 0) (F_t 17 0) (F_t 23 0) (F_t 27 0) (F_t 28 0) (F_t 30 0), ia g (Q_t 1) 240 (F_t 1), ia g (Q_t 13) 16 v.2.2.2.2.2.2.2] [] []) (fun (v : Int32 × Int32 × Int32 × Int32 × Int32 × Int32 × Int32 × (Nat → Int32)) => WA p l e (rM 3 64) s m args below meth c g A (MQ below (QI g A o.1 [oX10 q_t Q_t (F_t 0 0) o.2.1 o.2.2.1 o.2.2.2.1 o.2.2.2.2.1 o.2.2.2.2.2.1 o.2.2.2.2.2.2.1 o.2.2.2.2.2.2.2.1 (F_t 9 0) (F_t 10 0) o.2.2.2.2.2.2.2.2.1 (F_t 12 0) (F_t 15 0) (F_t 16 0) (F_t 17 0) (F_t 23 0) (F_t 27 0) (F_t 28 0) (F_t 30 0), ia g (Q_t 1) 240 (F_t 1), ia g (Q_t 13) 16 o.2.2.2.2.2.2.2.2.2]) args s 0 0 A) 2 65 [oX10 q_t Q_t (F_t 0 0) v.1 v.2.1 v.2.2.1 v.2.2.2.1 v.2.2.2.2.1 v.2.2.2.2.2.1 v.2.2.2.2.2.2.1 (F_t 9 0) (F_t 10 0) (F_t 11 0) (F_t 12 0) (F_t 15 0) (F_t 16 0) (F_t 17 0) (F_t 23 0) (F_t 27 0) (F_t 28 0) (F_t 30 0), ia g (Q_t 1) 240 (F_t 1), ia g (Q_t 13) 16 v.2.2.2.2.2.2.2] [(0, .ref q_t)] [])) (fun z r hb hc he => t_X10_isPlaceItem_b17 E q_t Q_t N (va_up (va_up (va_up (va_up (va_up (va_up (va_up (va_up F_t 2 (fun _ => z.2.1)) 3 (fun _ => z.2.2.1)) 4 (fun _ => z.2.2.2.1)) 5 (fun _ => z.2.2.2.2.1)) 6 (fun _ => z.2.2.2.2.2.1)) 7 (fun _ => z.2.2.2.2.2.2.1)) 8 (fun _ => z.2.2.2.2.2.2.2.1)) 13 z.2.2.2.2.2.2.2.2) z.1 r hb hc (fun v hv => he (.inl v) hv) (fun v hv => he (.inr v) hv)) N ((0 : Int32), (F_t 2 0), (F_t 3 0), (F_t 4 0), (F_t 5 0), (F_t 6 0), (F_t 7 0), (F_t 8 0), (F_t 13)) v_7 hv_7 ?_ H locs ls hP hD hS (lv_sub hl [1, 0] rfl)
    rcases v_7 with v_7 | v_7
    · have h := ox_inl h
      intro H locs ls hP hD hS hl
      refine lv_iconst (v := (0 : Int32)) hx hb dX10_isPlaceItem_40 (by decide) ?_
      obtain rfl := Option.some.inj h
      exact k_zret hx hb hr hlk (.inl rfl) hP hD hS dX10_isPlaceItem_41
    · have h := ox_inr h
      intro H locs ls hP hD hS hl
      refine lv_aload_n hx hb dX10_isPlaceItem_65 rfl (lv_at hl 0 rfl) ?_
      refine lv_dup hx hb dX10_isPlaceItem_66 rfl ?_
      refine va_get (ci := 10) (v := .int (F_t 11 0)) (C := RX10) (T := TX10) (N := 38) hx hb hts (fun w h => .tail _ (u_inX10 w h)) hown hK.1 hP 0 rfl rfl 11 (by decide) (hts _ (.tail _ u_fl_X10_135)) (fun _ h9 => h9) rfl dX10_isPlaceItem_67 ?_
      refine lv_iconst (v := (1 : Int32)) hx hb dX10_isPlaceItem_70 (by decide) ?_
      refine lv_iadd hx hb dX10_isPlaceItem_71 ?_
      refine lv_topi (fun y_8 ey_8 => ?_)
      have h := xl_at ey_8 h
      refine va_put (ci := 10) (v := .int y_8) (ty := .int) (C := RX10) (T := TX10) (N := 38) hx hb hts (fun w h => .tail _ (u_inX10 w h)) tyX10 tyX10_ok nmX10 hown hK.1 hP hD hS 0 rfl rfl 11 (by decide) (hts _ (.tail _ u_fl_X10_135)) (fun _ h9 => h9) rfl (tyX10_ok 11 (by decide)) rfl rfl (Nat.le_of_ble_eq_true rfl) dX10_isPlaceItem_72 (fun H locs hP hD hS => ?_)
      have hP : va_P g.1 vwCl [oX10 q_t Q_t (F_t 0 0) v_7.1 v_7.2.1 v_7.2.2.1 v_7.2.2.2.1 v_7.2.2.2.2.1 v_7.2.2.2.2.2.1 v_7.2.2.2.2.2.2.1 (F_t 9 0) (F_t 10 0) y_8 (F_t 12 0) (F_t 15 0) (F_t 16 0) (F_t 17 0) (F_t 23 0) (F_t 27 0) (F_t 28 0) (F_t 30 0), ia g (Q_t 1) 240 (F_t 1), ia g (Q_t 13) 16 v_7.2.2.2.2.2.2.2] H := hP
      have hD : va_D A [oX10 q_t Q_t (F_t 0 0) v_7.1 v_7.2.1 v_7.2.2.1 v_7.2.2.2.1 v_7.2.2.2.2.1 v_7.2.2.2.2.2.1 v_7.2.2.2.2.2.2.1 (F_t 9 0) (F_t 10 0) y_8 (F_t 12 0) (F_t 15 0) (F_t 16 0) (F_t 17 0) (F_t 23 0) (F_t 27 0) (F_t 28 0) (F_t 30 0), ia g (Q_t 1) 240 (F_t 1), ia g (Q_t 13) 16 v_7.2.2.2.2.2.2.2] := hD
      refine lv_aload_n hx hb dX10_isPlaceItem_75 rfl (lv_at hl 0 rfl) ?_
      obtain ⟨v_9, hv_9, h⟩ := ox_bind h
      refine kVi ⟨hx, hb, hml, hown, hts⟩ (c_X10_isEnd l g q_t Q_t N (va_up (va_up (va_up (va_up (va_up (va_up (va_up (va_up (va_up F_t 2 (fun _ => v_7.1)) 3 (fun _ => v_7.2.1)) 4 (fun _ => v_7.2.2.1)) 5 (fun _ => v_7.2.2.2.1)) 6 (fun _ => v_7.2.2.2.2.1)) 7 (fun _ => v_7.2.2.2.2.2.1)) 8 (fun _ => v_7.2.2.2.2.2.2.1)) 11 (fun _ => y_8)) 13 v_7.2.2.2.2.2.2.2) v_9 hv_9 H.size) (gV u_ml_X10_131 u_im_X10_isEnd u_se_X10_isEnd u_ini_X10 u_co_X10_isEnd) hd_X10_isEnd ⟨rfl, rfl⟩ hK hP hD hS hA 0 10 rfl rfl [0, 1] [0, 1, 4] rfl rfl 2 rfl (w2 := [oX10 q_t Q_t (F_t 0 0) v_9.2.1 v_9.2.2.1 v_9.2.2.2.1 v_9.2.2.2.2.1 v_9.2.2.2.2.2.1 v_9.2.2.2.2.2.2.1 v_9.2.2.2.2.2.2.2 (F_t 9 0) (F_t 10 0) y_8 (F_t 12 0) (F_t 15 0) (F_t 16 0) (F_t 17 0) (F_t 23 0) (F_t 27 0) (F_t 28 0) (F_t 30 0), ia g (Q_t 1) 240 (F_t 1), ia g (Q_t 13) 16 v_7.2.2.2.2.2.2.2]) rfl rfl (As := []) (rest := []) rfl hl.1 rfl rfl dX10_isPlaceItem_76 (fun H locs hP hD hS => ?_)
      obtain ⟨hz_10, h⟩ := ox_ok h
      obtain rfl := Option.some.inj h
      exact k_zret hx hb hr hlk hz_10 hP hD hS dX10_isPlaceItem_79
  · have h := ox_t c_1 h
    refine lv_aload_n hx hb dX10_isPlaceItem_9 rfl (lv_at hl 0 rfl) ?_
    refine lv_iconst (v := (3 : Int32)) hx hb dX10_isPlaceItem_10 (by decide) ?_
    obtain ⟨v_11, hv_11, h⟩ := ox_bind h
    refine kVi ⟨hx, hb, hml, hown, hts⟩ (c_X10_fails l g q_t Q_t F_t (3 : Int32) v_11 hv_11 H.size) (gV u_ml_X10_116 u_im_X10_fails u_se_X10_fails u_ini_X10 u_co_X10_fails) hd_X10_fails ⟨rfl, rfl⟩ hK hP hD hS hA 0 10 rfl rfl [0] [0, 2, 3] rfl rfl 1 rfl (w2 := [oX10 q_t Q_t (F_t 0 0) (F_t 2 0) (F_t 3 0) (F_t 4 0) (F_t 5 0) (F_t 6 0) v_11.2.1 v_11.2.2 (F_t 9 0) (F_t 10 0) (F_t 11 0) (F_t 12 0) (F_t 15 0) (F_t 16 0) (F_t 17 0) (F_t 23 0) (F_t 27 0) (F_t 28 0) (F_t 30 0), ia g (Q_t 1) 240 (F_t 1), ia g (Q_t 13) 16 (F_t 13)]) rfl rfl (As := [.int (3 : Int32)]) (rest := []) rfl hl.1 rfl rfl dX10_isPlaceItem_11 (fun H locs hP hD hS => ?_)
    obtain ⟨hz_12, h⟩ := ox_ok h
    obtain rfl := Option.some.inj h
    exact k_zret hx hb hr hlk hz_12 hP hD hS dX10_isPlaceItem_14
set_option maxRecDepth 100000 in
theorem c_X10_isPlaceItem (l : Launch) (g : gG) (q_t : Nat) (Q_t : Ad) (N : Nat) (F_t : St) (o : Int32 × Int32 × Int32 × Int32 × Int32 × Int32 × Int32 × Int32 × Int32 × (Nat → Int32)) (h : x_X10_isPlaceItem N F_t = some o) (sz : Nat) : MetI l yX10_isPlaceItem (.code yX10_isPlaceItem cX10_isPlaceItem 2 (some .boolean) :: gW) 3 64 [.ref q_t] o.1 g [oX10 q_t Q_t (F_t 0 0) (F_t 2 0) (F_t 3 0) (F_t 4 0) (F_t 5 0) (F_t 6 0) (F_t 7 0) (F_t 8 0) (F_t 9 0) (F_t 10 0) (F_t 11 0) (F_t 12 0) (F_t 15 0) (F_t 16 0) (F_t 17 0) (F_t 23 0) (F_t 27 0) (F_t 28 0) (F_t 30 0), ia g (Q_t 1) 240 (F_t 1), ia g (Q_t 13) 16 (F_t 13)] [oX10 q_t Q_t (F_t 0 0) o.2.1 o.2.2.1 o.2.2.2.1 o.2.2.2.2.1 o.2.2.2.2.2.1 o.2.2.2.2.2.2.1 o.2.2.2.2.2.2.2.1 (F_t 9 0) (F_t 10 0) o.2.2.2.2.2.2.2.2.1 (F_t 12 0) (F_t 15 0) (F_t 16 0) (F_t 17 0) (F_t 23 0) (F_t 27 0) (F_t 28 0) (F_t 30 0), ia g (Q_t 1) 240 (F_t 1), ia g (Q_t 13) 16 o.2.2.2.2.2.2.2.2.2] sz :=
  mkI (av := [.ref q_t]) (by decide +kernel) rfl (fun p e s m below meth c A E H locs ls hP hD hS hl => t_X10_isPlaceItem E q_t Q_t N F_t o h H locs ls hP hD hS hl) sz
def x_X10_isChannelItem_b105_k154 (N : Nat) (F_t : St) (x1 : Int32) (x2 : Int32) (x4 : Int32) (s0 : Int32) : Option ((Int32 × Int32) ⊕ (Int32)) :=
  some (.inl (s0, (x4 + (1 : Int32))))
set_option maxHeartbeats 4000000 in
set_option maxRecDepth 100000 in
theorem t_X10_isChannelItem_b105_k154 {p : Program} {l : Launch} {e : Env} {s : State} {m : MethodId} {args : Array Value} {below : List Frame} {meth : Method} {c : Code} {g : gG} {A : Nat → Prop} {Q : State → Prop} (E : En p s m args meth c g A cX10_isChannelItem 5 (.code yX10_isChannelItem cX10_isChannelItem 5 (some .boolean) :: gW) RX10 (some .boolean)) (q_t : Nat) (Q_t : Ad) (N : Nat) (F_t : St) (x1 : Int32) (x2 : Int32) (x4 : Int32) (s0 : Int32) (o : (Int32 × Int32) ⊕ (Int32)) (h : x_X10_isChannelItem_b105_k154 N F_t x1 x2 x4 s0 = some o) (hc : ∀ z, o = .inl z → WA p l e (rM 3 64) s m args below meth c g A Q 5 105 [oX10 q_t Q_t (F_t 0 0) (F_t 2 0) (F_t 3 0) (F_t 4 0) (F_t 5 0) (F_t 6 0) (F_t 7 0) (F_t 8 0) (F_t 9 0) (F_t 10 0) (F_t 11 0) (F_t 12 0) (F_t 15 0) (F_t 16 0) (F_t 17 0) (F_t 23 0) (F_t 27 0) (F_t 28 0) (F_t 30 0), ia g (Q_t 1) 240 (F_t 1), ia g (Q_t 13) 16 (F_t 13), ia g (Q_t 14) 30 (F_t 14)] [(0, .ref q_t), (1, .int x1), (2, .int x2), (3, .int z.1), (4, .int z.2)] []) (he : ∀ v, o = .inr v → WA p l e (rM 3 64) s m args below meth c g A Q 5 161 [oX10 q_t Q_t (F_t 0 0) (F_t 2 0) (F_t 3 0) (F_t 4 0) (F_t 5 0) (F_t 6 0) (F_t 7 0) (F_t 8 0) (F_t 9 0) (F_t 10 0) (F_t 11 0) (F_t 12 0) (F_t 15 0) (F_t 16 0) (F_t 17 0) (F_t 23 0) (F_t 27 0) (F_t 28 0) (F_t 30 0), ia g (Q_t 1) 240 (F_t 1), ia g (Q_t 13) 16 (F_t 13), ia g (Q_t 14) 30 (F_t 14)] [(0, .ref q_t), (1, .int x1), (3, .int v)] []) : WA p l e (rM 3 64) s m args below meth c g A Q 5 154 [oX10 q_t Q_t (F_t 0 0) (F_t 2 0) (F_t 3 0) (F_t 4 0) (F_t 5 0) (F_t 6 0) (F_t 7 0) (F_t 8 0) (F_t 9 0) (F_t 10 0) (F_t 11 0) (F_t 12 0) (F_t 15 0) (F_t 16 0) (F_t 17 0) (F_t 23 0) (F_t 27 0) (F_t 28 0) (F_t 30 0), ia g (Q_t 1) 240 (F_t 1), ia g (Q_t 13) 16 (F_t 13), ia g (Q_t 14) 30 (F_t 14)] [(0, .ref q_t), (1, .int x1), (2, .int x2), (4, .int x4)] [.int s0] := by
  obtain ⟨⟨hx, hb, hml, hown, hts⟩, hr, hK, hA, hlk⟩ := id E
  intro H locs ls hP hD hS hl
  refine lv_istore_n (lv' := [(3, .int s0), (0, .ref q_t), (1, .int x1), (2, .int x2), (4, .int x4)]) hx hb dX10_isChannelItem_154 rfl hl (by decide) rfl (fun ls hl => ?_)
  refine lv_iinc (v := (x4 + (1 : Int32))) (lv' := [(4, .int (x4 + (1 : Int32))), (3, .int s0), (0, .ref q_t), (1, .int x1), (2, .int x2)]) hx hb dX10_isChannelItem_155 hl (k := 4) rfl rfl (by decide) rfl (fun ls hl => ?_)
  refine lv_goto (tgt := 105) hx hb dX10_isChannelItem_158 (by decide) ?_
  obtain rfl := Option.some.inj h
  exact hc _ rfl H locs ls hP hD hS (lv_sub hl [2, 3, 4, 1, 0] rfl)
def x_X10_isChannelItem_b105_k153 (N : Nat) (F_t : St) (x1 : Int32) (x2 : Int32) (x4 : Int32) : Option ((Int32 × Int32) ⊕ (Int32)) :=
  x_X10_isChannelItem_b105_k154 N F_t x1 x2 x4 (0 : Int32)
set_option maxHeartbeats 4000000 in
set_option maxRecDepth 100000 in
theorem t_X10_isChannelItem_b105_k153 {p : Program} {l : Launch} {e : Env} {s : State} {m : MethodId} {args : Array Value} {below : List Frame} {meth : Method} {c : Code} {g : gG} {A : Nat → Prop} {Q : State → Prop} (E : En p s m args meth c g A cX10_isChannelItem 5 (.code yX10_isChannelItem cX10_isChannelItem 5 (some .boolean) :: gW) RX10 (some .boolean)) (q_t : Nat) (Q_t : Ad) (N : Nat) (F_t : St) (x1 : Int32) (x2 : Int32) (x4 : Int32) (o : (Int32 × Int32) ⊕ (Int32)) (h : x_X10_isChannelItem_b105_k153 N F_t x1 x2 x4 = some o) (hc : ∀ z, o = .inl z → WA p l e (rM 3 64) s m args below meth c g A Q 5 105 [oX10 q_t Q_t (F_t 0 0) (F_t 2 0) (F_t 3 0) (F_t 4 0) (F_t 5 0) (F_t 6 0) (F_t 7 0) (F_t 8 0) (F_t 9 0) (F_t 10 0) (F_t 11 0) (F_t 12 0) (F_t 15 0) (F_t 16 0) (F_t 17 0) (F_t 23 0) (F_t 27 0) (F_t 28 0) (F_t 30 0), ia g (Q_t 1) 240 (F_t 1), ia g (Q_t 13) 16 (F_t 13), ia g (Q_t 14) 30 (F_t 14)] [(0, .ref q_t), (1, .int x1), (2, .int x2), (3, .int z.1), (4, .int z.2)] []) (he : ∀ v, o = .inr v → WA p l e (rM 3 64) s m args below meth c g A Q 5 161 [oX10 q_t Q_t (F_t 0 0) (F_t 2 0) (F_t 3 0) (F_t 4 0) (F_t 5 0) (F_t 6 0) (F_t 7 0) (F_t 8 0) (F_t 9 0) (F_t 10 0) (F_t 11 0) (F_t 12 0) (F_t 15 0) (F_t 16 0) (F_t 17 0) (F_t 23 0) (F_t 27 0) (F_t 28 0) (F_t 30 0), ia g (Q_t 1) 240 (F_t 1), ia g (Q_t 13) 16 (F_t 13), ia g (Q_t 14) 30 (F_t 14)] [(0, .ref q_t), (1, .int x1), (3, .int v)] []) : WA p l e (rM 3 64) s m args below meth c g A Q 5 153 [oX10 q_t Q_t (F_t 0 0) (F_t 2 0) (F_t 3 0) (F_t 4 0) (F_t 5 0) (F_t 6 0) (F_t 7 0) (F_t 8 0) (F_t 9 0) (F_t 10 0) (F_t 11 0) (F_t 12 0) (F_t 15 0) (F_t 16 0) (F_t 17 0) (F_t 23 0) (F_t 27 0) (F_t 28 0) (F_t 30 0), ia g (Q_t 1) 240 (F_t 1), ia g (Q_t 13) 16 (F_t 13), ia g (Q_t 14) 30 (F_t 14)] [(0, .ref q_t), (1, .int x1), (2, .int x2), (4, .int x4)] [] := by
  obtain ⟨⟨hx, hb, hml, hown, hts⟩, hr, hK, hA, hlk⟩ := id E
  intro H locs ls hP hD hS hl
  refine lv_iconst (v := (0 : Int32)) hx hb dX10_isChannelItem_153 (by decide) ?_
  exact t_X10_isChannelItem_b105_k154 E q_t Q_t N F_t x1 x2 x4 (0 : Int32) _ h hc he H locs ls hP hD hS hl
def x_X10_isChannelItem_b105_k149 (N : Nat) (F_t : St) (x1 : Int32) (x2 : Int32) (x4 : Int32) : Option ((Int32 × Int32) ⊕ (Int32)) :=
  x_X10_isChannelItem_b105_k154 N F_t x1 x2 x4 (1 : Int32)
set_option maxHeartbeats 4000000 in
set_option maxRecDepth 100000 in
theorem t_X10_isChannelItem_b105_k149 {p : Program} {l : Launch} {e : Env} {s : State} {m : MethodId} {args : Array Value} {below : List Frame} {meth : Method} {c : Code} {g : gG} {A : Nat → Prop} {Q : State → Prop} (E : En p s m args meth c g A cX10_isChannelItem 5 (.code yX10_isChannelItem cX10_isChannelItem 5 (some .boolean) :: gW) RX10 (some .boolean)) (q_t : Nat) (Q_t : Ad) (N : Nat) (F_t : St) (x1 : Int32) (x2 : Int32) (x4 : Int32) (o : (Int32 × Int32) ⊕ (Int32)) (h : x_X10_isChannelItem_b105_k149 N F_t x1 x2 x4 = some o) (hc : ∀ z, o = .inl z → WA p l e (rM 3 64) s m args below meth c g A Q 5 105 [oX10 q_t Q_t (F_t 0 0) (F_t 2 0) (F_t 3 0) (F_t 4 0) (F_t 5 0) (F_t 6 0) (F_t 7 0) (F_t 8 0) (F_t 9 0) (F_t 10 0) (F_t 11 0) (F_t 12 0) (F_t 15 0) (F_t 16 0) (F_t 17 0) (F_t 23 0) (F_t 27 0) (F_t 28 0) (F_t 30 0), ia g (Q_t 1) 240 (F_t 1), ia g (Q_t 13) 16 (F_t 13), ia g (Q_t 14) 30 (F_t 14)] [(0, .ref q_t), (1, .int x1), (2, .int x2), (3, .int z.1), (4, .int z.2)] []) (he : ∀ v, o = .inr v → WA p l e (rM 3 64) s m args below meth c g A Q 5 161 [oX10 q_t Q_t (F_t 0 0) (F_t 2 0) (F_t 3 0) (F_t 4 0) (F_t 5 0) (F_t 6 0) (F_t 7 0) (F_t 8 0) (F_t 9 0) (F_t 10 0) (F_t 11 0) (F_t 12 0) (F_t 15 0) (F_t 16 0) (F_t 17 0) (F_t 23 0) (F_t 27 0) (F_t 28 0) (F_t 30 0), ia g (Q_t 1) 240 (F_t 1), ia g (Q_t 13) 16 (F_t 13), ia g (Q_t 14) 30 (F_t 14)] [(0, .ref q_t), (1, .int x1), (3, .int v)] []) : WA p l e (rM 3 64) s m args below meth c g A Q 5 149 [oX10 q_t Q_t (F_t 0 0) (F_t 2 0) (F_t 3 0) (F_t 4 0) (F_t 5 0) (F_t 6 0) (F_t 7 0) (F_t 8 0) (F_t 9 0) (F_t 10 0) (F_t 11 0) (F_t 12 0) (F_t 15 0) (F_t 16 0) (F_t 17 0) (F_t 23 0) (F_t 27 0) (F_t 28 0) (F_t 30 0), ia g (Q_t 1) 240 (F_t 1), ia g (Q_t 13) 16 (F_t 13), ia g (Q_t 14) 30 (F_t 14)] [(0, .ref q_t), (1, .int x1), (2, .int x2), (4, .int x4)] [] := by
  obtain ⟨⟨hx, hb, hml, hown, hts⟩, hr, hK, hA, hlk⟩ := id E
  intro H locs ls hP hD hS hl
  refine lv_iconst (v := (1 : Int32)) hx hb dX10_isChannelItem_149 (by decide) ?_
  refine lv_goto (tgt := 154) hx hb dX10_isChannelItem_150 (by decide) ?_
  exact t_X10_isChannelItem_b105_k154 E q_t Q_t N F_t x1 x2 x4 (1 : Int32) _ h hc he H locs ls hP hD hS hl
def x_X10_isChannelItem_b105 (N : Nat) (F_t : St) (x1 : Int32) (x2 : Int32) (x3 : Int32) (x4 : Int32) : Option ((Int32 × Int32) ⊕ (Int32)) :=
  if (F_t 12 0) ≤ x4 then (some (.inr x3)) else (if x3 = 0 then (x_X10_isChannelItem_b105_k153 N F_t x1 x2 x4) else (if ((3 : Int32) * x4) < 0 ∨ 30 ≤ ((3 : Int32) * x4).toNatClampNeg then none else if ((F_t 14) ((3 : Int32) * x4).toNatClampNeg) = x2 then (if (((3 : Int32) * x4) + (1 : Int32)) < 0 ∨ 30 ≤ (((3 : Int32) * x4) + (1 : Int32)).toNatClampNeg then none else if ((F_t 14) (((3 : Int32) * x4) + (1 : Int32)).toNatClampNeg) = (F_t 5 0) then (x_X10_isChannelItem_b105_k153 N F_t x1 x2 x4) else (x_X10_isChannelItem_b105_k149 N F_t x1 x2 x4)) else (x_X10_isChannelItem_b105_k149 N F_t x1 x2 x4)))
set_option maxHeartbeats 4000000 in
set_option maxRecDepth 100000 in
theorem t_X10_isChannelItem_b105 {p : Program} {l : Launch} {e : Env} {s : State} {m : MethodId} {args : Array Value} {below : List Frame} {meth : Method} {c : Code} {g : gG} {A : Nat → Prop} {Q : State → Prop} (E : En p s m args meth c g A cX10_isChannelItem 5 (.code yX10_isChannelItem cX10_isChannelItem 5 (some .boolean) :: gW) RX10 (some .boolean)) (q_t : Nat) (Q_t : Ad) (N : Nat) (F_t : St) (x1 : Int32) (x2 : Int32) (x3 : Int32) (x4 : Int32) (o : (Int32 × Int32) ⊕ (Int32)) (h : x_X10_isChannelItem_b105 N F_t x1 x2 x3 x4 = some o) (hc : ∀ z, o = .inl z → WA p l e (rM 3 64) s m args below meth c g A Q 5 105 [oX10 q_t Q_t (F_t 0 0) (F_t 2 0) (F_t 3 0) (F_t 4 0) (F_t 5 0) (F_t 6 0) (F_t 7 0) (F_t 8 0) (F_t 9 0) (F_t 10 0) (F_t 11 0) (F_t 12 0) (F_t 15 0) (F_t 16 0) (F_t 17 0) (F_t 23 0) (F_t 27 0) (F_t 28 0) (F_t 30 0), ia g (Q_t 1) 240 (F_t 1), ia g (Q_t 13) 16 (F_t 13), ia g (Q_t 14) 30 (F_t 14)] [(0, .ref q_t), (1, .int x1), (2, .int x2), (3, .int z.1), (4, .int z.2)] []) (he : ∀ v, o = .inr v → WA p l e (rM 3 64) s m args below meth c g A Q 5 161 [oX10 q_t Q_t (F_t 0 0) (F_t 2 0) (F_t 3 0) (F_t 4 0) (F_t 5 0) (F_t 6 0) (F_t 7 0) (F_t 8 0) (F_t 9 0) (F_t 10 0) (F_t 11 0) (F_t 12 0) (F_t 15 0) (F_t 16 0) (F_t 17 0) (F_t 23 0) (F_t 27 0) (F_t 28 0) (F_t 30 0), ia g (Q_t 1) 240 (F_t 1), ia g (Q_t 13) 16 (F_t 13), ia g (Q_t 14) 30 (F_t 14)] [(0, .ref q_t), (1, .int x1), (3, .int v)] []) : WA p l e (rM 3 64) s m args below meth c g A Q 5 105 [oX10 q_t Q_t (F_t 0 0) (F_t 2 0) (F_t 3 0) (F_t 4 0) (F_t 5 0) (F_t 6 0) (F_t 7 0) (F_t 8 0) (F_t 9 0) (F_t 10 0) (F_t 11 0) (F_t 12 0) (F_t 15 0) (F_t 16 0) (F_t 17 0) (F_t 23 0) (F_t 27 0) (F_t 28 0) (F_t 30 0), ia g (Q_t 1) 240 (F_t 1), ia g (Q_t 13) 16 (F_t 13), ia g (Q_t 14) 30 (F_t 14)] [(0, .ref q_t), (1, .int x1), (2, .int x2), (3, .int x3), (4, .int x4)] [] := by
  obtain ⟨⟨hx, hb, hml, hown, hts⟩, hr, hK, hA, hlk⟩ := id E
  intro H locs ls hP hD hS hl
  refine lv_iload hx hb dX10_isChannelItem_105 (lv_at hl 4 rfl) ?_
  refine lv_aload_n hx hb dX10_isChannelItem_107 rfl (lv_at hl 0 rfl) ?_
  refine va_get (ci := 10) (v := .int (F_t 12 0)) (C := RX10) (T := TX10) (N := 38) hx hb hts (fun w h => .tail _ (u_inX10 w h)) hown hK.1 hP 0 rfl rfl 12 (by decide) (hts _ (.tail _ u_fl_X10_138)) (fun _ h9 => h9) rfl dX10_isChannelItem_108 ?_
  refine lv_icmp_ge (tgt := 161) hx hb dX10_isChannelItem_111 (by decide) (fun c_1 => ?_) (fun c_1 => ?_)
  · have h := ox_t c_1 h
    obtain rfl := Option.some.inj h
    exact he _ rfl H locs ls hP hD hS (lv_sub hl [0, 1, 3] rfl)
  · have h := ox_f c_1 h
    refine lv_iload_n hx hb dX10_isChannelItem_114 rfl (lv_at hl 3 rfl) ?_
    refine lv_if_eq (tgt := 153) hx hb dX10_isChannelItem_115 (by decide) (fun c_2 => ?_) (fun c_2 => ?_)
    · have h := ox_t c_2 h
      exact t_X10_isChannelItem_b105_k153 E q_t Q_t N F_t x1 x2 x4 _ h hc he H locs ls hP hD hS (lv_sub hl [0, 1, 2, 4] rfl)
    · have h := ox_f c_2 h
      refine lv_aload_n hx hb dX10_isChannelItem_118 rfl (lv_at hl 0 rfl) ?_
      refine va_get (ci := 10) (v := .ref (Q_t 14)) (C := RX10) (T := TX10) (N := 38) hx hb hts (fun w h => .tail _ (u_inX10 w h)) hown hK.1 hP 0 rfl rfl 14 (by decide) (hts _ (.tail _ u_fl_X10_20)) (fun _ h9 => h9) rfl dX10_isChannelItem_119 ?_
      refine lv_iconst (v := (3 : Int32)) hx hb dX10_isChannelItem_122 (by decide) ?_
      refine lv_iload hx hb dX10_isChannelItem_123 (lv_at hl 4 rfl) ?_
      refine lv_imul hx hb dX10_isChannelItem_125 ?_
      obtain ⟨hi_3, h⟩ := ox_chk h
      refine va_iald hx hb hK.1 hP 3 0 rfl rfl hi_3 dX10_isChannelItem_126 ?_
      refine lv_iload_n hx hb dX10_isChannelItem_127 rfl (lv_at hl 2 rfl) ?_
      refine lv_icmp_ne (tgt := 149) hx hb dX10_isChannelItem_128 (by decide) (fun c_4 => ?_) (fun c_4 => ?_)
      · have h := ox_f c_4 h
        exact t_X10_isChannelItem_b105_k149 E q_t Q_t N F_t x1 x2 x4 _ h hc he H locs ls hP hD hS (lv_sub hl [0, 1, 2, 4] rfl)
      · have h := ox_t c_4 h
        refine lv_aload_n hx hb dX10_isChannelItem_131 rfl (lv_at hl 0 rfl) ?_
        refine va_get (ci := 10) (v := .ref (Q_t 14)) (C := RX10) (T := TX10) (N := 38) hx hb hts (fun w h => .tail _ (u_inX10 w h)) hown hK.1 hP 0 rfl rfl 14 (by decide) (hts _ (.tail _ u_fl_X10_20)) (fun _ h9 => h9) rfl dX10_isChannelItem_132 ?_
        refine lv_iconst (v := (3 : Int32)) hx hb dX10_isChannelItem_135 (by decide) ?_
        refine lv_iload hx hb dX10_isChannelItem_136 (lv_at hl 4 rfl) ?_
        refine lv_imul hx hb dX10_isChannelItem_138 ?_
        refine lv_iconst (v := (1 : Int32)) hx hb dX10_isChannelItem_139 (by decide) ?_
        refine lv_iadd hx hb dX10_isChannelItem_140 ?_
        obtain ⟨hi_5, h⟩ := ox_chk h
        refine va_iald hx hb hK.1 hP 3 0 rfl rfl hi_5 dX10_isChannelItem_141 ?_
        refine lv_aload_n hx hb dX10_isChannelItem_142 rfl (lv_at hl 0 rfl) ?_
        refine va_get (ci := 10) (v := .int (F_t 5 0)) (C := RX10) (T := TX10) (N := 38) hx hb hts (fun w h => .tail _ (u_inX10 w h)) hown hK.1 hP 0 rfl rfl 5 (by decide) (hts _ (.tail _ u_fl_X10_101)) (fun _ h9 => h9) rfl dX10_isChannelItem_143 ?_
        refine lv_icmp_eq (tgt := 153) hx hb dX10_isChannelItem_146 (by decide) (fun c_6 => ?_) (fun c_6 => ?_)
        · have h := ox_t c_6 h
          exact t_X10_isChannelItem_b105_k153 E q_t Q_t N F_t x1 x2 x4 _ h hc he H locs ls hP hD hS (lv_sub hl [0, 1, 2, 4] rfl)
        · have h := ox_f c_6 h
          exact t_X10_isChannelItem_b105_k149 E q_t Q_t N F_t x1 x2 x4 _ h hc he H locs ls hP hD hS (lv_sub hl [0, 1, 2, 4] rfl)
def x_X10_isChannelItem_k101 (N : Nat) (F_t : St) (x1 : Int32) (x2 : Int32) (s0 : Int32) : Option (Int32 × Int32 × Int32 × Int32 × Int32 × Int32 × Int32 × Int32 × Int32 × (Nat → Int32)) :=
  Option.bind (lpc (fun (z : Int32 × Int32) => x_X10_isChannelItem_b105 N F_t x1 x2 z.1 z.2) N (s0, (0 : Int32))) (fun v_7 => if v_7 = 0 then (Option.bind (x_X10_fails F_t (4 : Int32)) (fun v_15 => if v_15.1 = 0 ∨ v_15.1 = 1 then some (v_15.1, (F_t 2 0), (F_t 3 0), (F_t 4 0), (F_t 5 0), (F_t 6 0), v_15.2.1, v_15.2.2, (F_t 12 0), (F_t 14)) else none)) else (Option.bind (x_X10_isNumber N F_t (1 : Int32) (9 : Int32)) (fun v_9 => if v_9.1 = 0 then (some ((0 : Int32), v_9.2.1, v_9.2.2.1, v_9.2.2.2.1, v_9.2.2.2.2.1, v_9.2.2.2.2.2.1, v_9.2.2.2.2.2.2.1, v_9.2.2.2.2.2.2.2, (F_t 12 0), (F_t 14))) else (if (x1 + (2 : Int32)) < 0 ∨ 30 ≤ (x1 + (2 : Int32)).toNatClampNeg then none else xl ((F_t 12 0) + (1 : Int32)) (fun y_12 => Option.bind (x_X10_isEnd N (va_up (va_up (va_up (va_up (va_up (va_up (va_up (va_up (va_up F_t 2 (fun _ => v_9.2.1)) 3 (fun _ => v_9.2.2.1)) 4 (fun _ => v_9.2.2.2.1)) 5 (fun _ => v_9.2.2.2.2.1)) 6 (fun _ => v_9.2.2.2.2.2.1)) 7 (fun _ => v_9.2.2.2.2.2.2.1)) 8 (fun _ => v_9.2.2.2.2.2.2.2)) 12 (fun _ => y_12)) 14 (upd (F_t 14) (x1 + (2 : Int32)).toNatClampNeg v_9.2.2.2.2.1))) (fun v_13 => if v_13.1 = 0 ∨ v_13.1 = 1 then some (v_13.1, v_13.2.1, v_13.2.2.1, v_13.2.2.2.1, v_13.2.2.2.2.1, v_13.2.2.2.2.2.1, v_13.2.2.2.2.2.2.1, v_13.2.2.2.2.2.2.2, y_12, (upd (F_t 14) (x1 + (2 : Int32)).toNatClampNeg v_9.2.2.2.2.1)) else none))))))
set_option maxHeartbeats 4000000 in
set_option maxRecDepth 100000 in
theorem t_X10_isChannelItem_k101 {p : Program} {l : Launch} {e : Env} {s : State} {m : MethodId} {args : Array Value} {below : List Frame} {meth : Method} {c : Code} {g : gG} {A : Nat → Prop} (E : En p s m args meth c g A cX10_isChannelItem 5 (.code yX10_isChannelItem cX10_isChannelItem 5 (some .boolean) :: gW) RX10 (some .boolean)) (q_t : Nat) (Q_t : Ad) (N : Nat) (F_t : St) (x1 : Int32) (x2 : Int32) (s0 : Int32) (o : Int32 × Int32 × Int32 × Int32 × Int32 × Int32 × Int32 × Int32 × Int32 × (Nat → Int32)) (h : x_X10_isChannelItem_k101 N F_t x1 x2 s0 = some o) : WA p l e (rM 3 64) s m args below meth c g A (MQ below (QI g A o.1 [oX10 q_t Q_t (F_t 0 0) o.2.1 o.2.2.1 o.2.2.2.1 o.2.2.2.2.1 o.2.2.2.2.2.1 o.2.2.2.2.2.2.1 o.2.2.2.2.2.2.2.1 (F_t 9 0) (F_t 10 0) (F_t 11 0) o.2.2.2.2.2.2.2.2.1 (F_t 15 0) (F_t 16 0) (F_t 17 0) (F_t 23 0) (F_t 27 0) (F_t 28 0) (F_t 30 0), ia g (Q_t 1) 240 (F_t 1), ia g (Q_t 13) 16 (F_t 13), ia g (Q_t 14) 30 o.2.2.2.2.2.2.2.2.2]) args s 0 0 A) 5 101 [oX10 q_t Q_t (F_t 0 0) (F_t 2 0) (F_t 3 0) (F_t 4 0) (F_t 5 0) (F_t 6 0) (F_t 7 0) (F_t 8 0) (F_t 9 0) (F_t 10 0) (F_t 11 0) (F_t 12 0) (F_t 15 0) (F_t 16 0) (F_t 17 0) (F_t 23 0) (F_t 27 0) (F_t 28 0) (F_t 30 0), ia g (Q_t 1) 240 (F_t 1), ia g (Q_t 13) 16 (F_t 13), ia g (Q_t 14) 30 (F_t 14)] [(0, .ref q_t), (1, .int x1), (2, .int x2)] [.int s0] := by
  obtain ⟨⟨hx, hb, hml, hown, hts⟩, hr, hK, hA, hlk⟩ := id E
  intro H locs ls hP hD hS hl
  refine lv_istore_n (lv' := [(3, .int s0), (0, .ref q_t), (1, .int x1), (2, .int x2)]) hx hb dX10_isChannelItem_101 rfl hl (by decide) rfl (fun ls hl => ?_)
  refine lv_iconst (v := (0 : Int32)) hx hb dX10_isChannelItem_102 (by decide) ?_
  refine lv_istore (lv' := [(4, .int (0 : Int32)), (3, .int s0), (0, .ref q_t), (1, .int x1), (2, .int x2)]) hx hb dX10_isChannelItem_103 hl (by decide) rfl (fun ls hl => ?_)
  obtain ⟨v_7, hv_7, h⟩ := ox_bind h
  refine lpc_W (Wh := fun (z : Int32 × Int32) => WA p l e (rM 3 64) s m args below meth c g A (MQ below (QI g A o.1 [oX10 q_t Q_t (F_t 0 0) o.2.1 o.2.2.1 o.2.2.2.1 o.2.2.2.2.1 o.2.2.2.2.2.1 o.2.2.2.2.2.2.1 o.2.2.2.2.2.2.2.1 (F_t 9 0) (F_t 10 0) (F_t 11 0) o.2.2.2.2.2.2.2.2.1 (F_t 15 0) (F_t 16 0) (F_t 17 0) (F_t 23 0) (F_t 27 0) (F_t 28 0) (F_t 30 0), ia g (Q_t 1) 240 (F_t 1), ia g (Q_t 13) 16 (F_t 13), ia g (Q_t 14) 30 o.2.2.2.2.2.2.2.2.2]) args s 0 0 A) 5 105 [oX10 q_t Q_t (F_t 0 0) (F_t 2 0) (F_t 3 0) (F_t 4 0) (F_t 5 0) (F_t 6 0) (F_t 7 0) (F_t 8 0) (F_t 9 0) (F_t 10 0) (F_t 11 0) (F_t 12 0) (F_t 15 0) (F_t 16 0) (F_t 17 0) (F_t 23 0) (F_t 27 0) (F_t 28 0) (F_t 30 0), ia g (Q_t 1) 240 (F_t 1), ia g (Q_t 13) 16 (F_t 13), ia g (Q_t 14) 30 (F_t 14)] [(0, .ref q_t), (1, .int x1), (2, .int x2), (3, .int z.1), (4, .int z.2)] []) (We := fun (v : Int32) => WA p l e (rM 3 64) s m args below meth c g A (MQ below (QI g A o.1 [oX10 q_t Q_t (F_t 0 0) o.2.1 o.2.2.1 o.2.2.2.1 o.2.2.2.2.1 o.2.2.2.2.2.1 o.2.2.2.2.2.2.1 o.2.2.2.2.2.2.2.1 (F_t 9 0) (F_t 10 0) (F_t 11 0) o.2.2.2.2.2.2.2.2.1 (F_t 15 0) (F_t 16 0) (F_t 17 0) (F_t 23 0) (F_t 27 0) (F_t 28 0) (F_t 30 0), ia g (Q_t 1) 240 (F_t 1), ia g (Q_t 13) 16 (F_t 13), ia g (Q_t 14) 30 o.2.2.2.2.2.2.2.2.2]) args s 0 0 A) 5 161 [oX10 q_t Q_t (F_t 0 0) (F_t 2 0) (F_t 3 0) (F_t 4 0) (F_t 5 0) (F_t 6 0) (F_t 7 0) (F_t 8 0) (F_t 9 0) (F_t 10 0) (F_t 11 0) (F_t 12 0) (F_t 15 0) (F_t 16 0) (F_t 17 0) (F_t 23 0) (F_t 27 0) (F_t 28 0) (F_t 30 0), ia g (Q_t 1) 240 (F_t 1), ia g (Q_t 13) 16 (F_t 13), ia g (Q_t 14) 30 (F_t 14)] [(0, .ref q_t), (1, .int x1), (3, .int v)] []) (fun z r hb hc he => t_X10_isChannelItem_b105 E q_t Q_t N F_t x1 x2 z.1 z.2 r hb hc he) N (s0, (0 : Int32)) v_7 hv_7 ?_ H locs ls hP hD hS (lv_sub hl [2, 3, 4, 1, 0] rfl)
  intro H locs ls hP hD hS hl
  refine lv_iload_n hx hb dX10_isChannelItem_161 rfl (lv_at hl 2 rfl) ?_
  refine lv_if_ne (tgt := 171) hx hb dX10_isChannelItem_162 (by decide) (fun c_8 => ?_) (fun c_8 => ?_)
  · have h := ox_f c_8 h
    refine lv_aload_n hx hb dX10_isChannelItem_171 rfl (lv_at hl 0 rfl) ?_
    refine lv_iconst (v := (1 : Int32)) hx hb dX10_isChannelItem_172 (by decide) ?_
    refine lv_bipush (v := (9 : Int32)) hx hb dX10_isChannelItem_173 (by decide) ?_
    obtain ⟨v_9, hv_9, h⟩ := ox_bind h
    refine kVi ⟨hx, hb, hml, hown, hts⟩ (c_X10_isNumber l g q_t Q_t N F_t (1 : Int32) (9 : Int32) v_9 hv_9 H.size) (gV u_ml_X10_120 u_im_X10_isNumber u_se_X10_isNumber u_ini_X10 u_co_X10_isNumber) hd_X10_isNumber ⟨rfl, rfl⟩ hK hP hD hS hA 0 10 rfl rfl [0, 1] [0, 1, 4, 5] rfl rfl 2 rfl (w2 := [oX10 q_t Q_t (F_t 0 0) v_9.2.1 v_9.2.2.1 v_9.2.2.2.1 v_9.2.2.2.2.1 v_9.2.2.2.2.2.1 v_9.2.2.2.2.2.2.1 v_9.2.2.2.2.2.2.2 (F_t 9 0) (F_t 10 0) (F_t 11 0) (F_t 12 0) (F_t 15 0) (F_t 16 0) (F_t 17 0) (F_t 23 0) (F_t 27 0) (F_t 28 0) (F_t 30 0), ia g (Q_t 1) 240 (F_t 1), ia g (Q_t 13) 16 (F_t 13), ia g (Q_t 14) 30 (F_t 14)]) rfl rfl (As := [.int (1 : Int32), .int (9 : Int32)]) (rest := []) rfl hl.1 rfl rfl dX10_isChannelItem_175 (fun H locs hP hD hS => ?_)
    refine lv_if_ne (tgt := 183) hx hb dX10_isChannelItem_178 (by decide) (fun c_10 => ?_) (fun c_10 => ?_)
    · have h := ox_f c_10 h
      refine lv_aload_n hx hb dX10_isChannelItem_183 rfl (lv_at hl 0 rfl) ?_
      refine va_get (ci := 10) (v := .ref (Q_t 14)) (C := RX10) (T := TX10) (N := 38) hx hb hts (fun w h => .tail _ (u_inX10 w h)) hown hK.1 hP 0 rfl rfl 14 (by decide) (hts _ (.tail _ u_fl_X10_20)) (fun _ h9 => h9) rfl dX10_isChannelItem_184 ?_
      refine lv_iload_n hx hb dX10_isChannelItem_187 rfl (lv_at hl 1 rfl) ?_
      refine lv_iconst (v := (2 : Int32)) hx hb dX10_isChannelItem_188 (by decide) ?_
      refine lv_iadd hx hb dX10_isChannelItem_189 ?_
      refine lv_aload_n hx hb dX10_isChannelItem_190 rfl (lv_at hl 0 rfl) ?_
      refine va_get (ci := 10) (v := .int v_9.2.2.2.2.1) (C := RX10) (T := TX10) (N := 38) hx hb hts (fun w h => .tail _ (u_inX10 w h)) hown hK.1 hP 0 rfl rfl 5 (by decide) (hts _ (.tail _ u_fl_X10_101)) (fun _ h9 => h9) rfl dX10_isChannelItem_191 ?_
      obtain ⟨hi_11, h⟩ := ox_chk h
      refine va_iast hx hb hK.1 hP hD hS 3 0 rfl rfl hi_11 dX10_isChannelItem_194 (fun H locs hP hD hS => ?_)
      have hP : va_P g.1 vwCl [oX10 q_t Q_t (F_t 0 0) v_9.2.1 v_9.2.2.1 v_9.2.2.2.1 v_9.2.2.2.2.1 v_9.2.2.2.2.2.1 v_9.2.2.2.2.2.2.1 v_9.2.2.2.2.2.2.2 (F_t 9 0) (F_t 10 0) (F_t 11 0) (F_t 12 0) (F_t 15 0) (F_t 16 0) (F_t 17 0) (F_t 23 0) (F_t 27 0) (F_t 28 0) (F_t 30 0), ia g (Q_t 1) 240 (F_t 1), ia g (Q_t 13) 16 (F_t 13), ia g (Q_t 14) 30 (upd (F_t 14) (x1 + (2 : Int32)).toNatClampNeg v_9.2.2.2.2.1)] H := hP
      have hD : va_D A [oX10 q_t Q_t (F_t 0 0) v_9.2.1 v_9.2.2.1 v_9.2.2.2.1 v_9.2.2.2.2.1 v_9.2.2.2.2.2.1 v_9.2.2.2.2.2.2.1 v_9.2.2.2.2.2.2.2 (F_t 9 0) (F_t 10 0) (F_t 11 0) (F_t 12 0) (F_t 15 0) (F_t 16 0) (F_t 17 0) (F_t 23 0) (F_t 27 0) (F_t 28 0) (F_t 30 0), ia g (Q_t 1) 240 (F_t 1), ia g (Q_t 13) 16 (F_t 13), ia g (Q_t 14) 30 (upd (F_t 14) (x1 + (2 : Int32)).toNatClampNeg v_9.2.2.2.2.1)] := hD
      refine lv_aload_n hx hb dX10_isChannelItem_195 rfl (lv_at hl 0 rfl) ?_
      refine lv_dup hx hb dX10_isChannelItem_196 rfl ?_
      refine va_get (ci := 10) (v := .int (F_t 12 0)) (C := RX10) (T := TX10) (N := 38) hx hb hts (fun w h => .tail _ (u_inX10 w h)) hown hK.1 hP 0 rfl rfl 12 (by decide) (hts _ (.tail _ u_fl_X10_138)) (fun _ h9 => h9) rfl dX10_isChannelItem_197 ?_
      refine lv_iconst (v := (1 : Int32)) hx hb dX10_isChannelItem_200 (by decide) ?_
      refine lv_iadd hx hb dX10_isChannelItem_201 ?_
      refine lv_topi (fun y_12 ey_12 => ?_)
      have h := xl_at ey_12 h
      refine va_put (ci := 10) (v := .int y_12) (ty := .int) (C := RX10) (T := TX10) (N := 38) hx hb hts (fun w h => .tail _ (u_inX10 w h)) tyX10 tyX10_ok nmX10 hown hK.1 hP hD hS 0 rfl rfl 12 (by decide) (hts _ (.tail _ u_fl_X10_138)) (fun _ h9 => h9) rfl (tyX10_ok 12 (by decide)) rfl rfl (Nat.le_of_ble_eq_true rfl) dX10_isChannelItem_202 (fun H locs hP hD hS => ?_)
      have hP : va_P g.1 vwCl [oX10 q_t Q_t (F_t 0 0) v_9.2.1 v_9.2.2.1 v_9.2.2.2.1 v_9.2.2.2.2.1 v_9.2.2.2.2.2.1 v_9.2.2.2.2.2.2.1 v_9.2.2.2.2.2.2.2 (F_t 9 0) (F_t 10 0) (F_t 11 0) y_12 (F_t 15 0) (F_t 16 0) (F_t 17 0) (F_t 23 0) (F_t 27 0) (F_t 28 0) (F_t 30 0), ia g (Q_t 1) 240 (F_t 1), ia g (Q_t 13) 16 (F_t 13), ia g (Q_t 14) 30 (upd (F_t 14) (x1 + (2 : Int32)).toNatClampNeg v_9.2.2.2.2.1)] H := hP
      have hD : va_D A [oX10 q_t Q_t (F_t 0 0) v_9.2.1 v_9.2.2.1 v_9.2.2.2.1 v_9.2.2.2.2.1 v_9.2.2.2.2.2.1 v_9.2.2.2.2.2.2.1 v_9.2.2.2.2.2.2.2 (F_t 9 0) (F_t 10 0) (F_t 11 0) y_12 (F_t 15 0) (F_t 16 0) (F_t 17 0) (F_t 23 0) (F_t 27 0) (F_t 28 0) (F_t 30 0), ia g (Q_t 1) 240 (F_t 1), ia g (Q_t 13) 16 (F_t 13), ia g (Q_t 14) 30 (upd (F_t 14) (x1 + (2 : Int32)).toNatClampNeg v_9.2.2.2.2.1)] := hD
      refine lv_aload_n hx hb dX10_isChannelItem_205 rfl (lv_at hl 0 rfl) ?_
      obtain ⟨v_13, hv_13, h⟩ := ox_bind h
      refine kVi ⟨hx, hb, hml, hown, hts⟩ (c_X10_isEnd l g q_t Q_t N (va_up (va_up (va_up (va_up (va_up (va_up (va_up (va_up (va_up F_t 2 (fun _ => v_9.2.1)) 3 (fun _ => v_9.2.2.1)) 4 (fun _ => v_9.2.2.2.1)) 5 (fun _ => v_9.2.2.2.2.1)) 6 (fun _ => v_9.2.2.2.2.2.1)) 7 (fun _ => v_9.2.2.2.2.2.2.1)) 8 (fun _ => v_9.2.2.2.2.2.2.2)) 12 (fun _ => y_12)) 14 (upd (F_t 14) (x1 + (2 : Int32)).toNatClampNeg v_9.2.2.2.2.1)) v_13 hv_13 H.size) (gV u_ml_X10_131 u_im_X10_isEnd u_se_X10_isEnd u_ini_X10 u_co_X10_isEnd) hd_X10_isEnd ⟨rfl, rfl⟩ hK hP hD hS hA 0 10 rfl rfl [0, 1] [0, 1, 4, 5] rfl rfl 2 rfl (w2 := [oX10 q_t Q_t (F_t 0 0) v_13.2.1 v_13.2.2.1 v_13.2.2.2.1 v_13.2.2.2.2.1 v_13.2.2.2.2.2.1 v_13.2.2.2.2.2.2.1 v_13.2.2.2.2.2.2.2 (F_t 9 0) (F_t 10 0) (F_t 11 0) y_12 (F_t 15 0) (F_t 16 0) (F_t 17 0) (F_t 23 0) (F_t 27 0) (F_t 28 0) (F_t 30 0), ia g (Q_t 1) 240 (F_t 1), ia g (Q_t 13) 16 (F_t 13), ia g (Q_t 14) 30 (upd (F_t 14) (x1 + (2 : Int32)).toNatClampNeg v_9.2.2.2.2.1)]) rfl rfl (As := []) (rest := []) rfl hl.1 rfl rfl dX10_isChannelItem_206 (fun H locs hP hD hS => ?_)
      obtain ⟨hz_14, h⟩ := ox_ok h
      obtain rfl := Option.some.inj h
      exact k_zret hx hb hr hlk hz_14 hP hD hS dX10_isChannelItem_209
    · have h := ox_t c_10 h
      refine lv_iconst (v := (0 : Int32)) hx hb dX10_isChannelItem_181 (by decide) ?_
      obtain rfl := Option.some.inj h
      exact k_zret hx hb hr hlk (.inl rfl) hP hD hS dX10_isChannelItem_182
  · have h := ox_t c_8 h
    refine lv_aload_n hx hb dX10_isChannelItem_165 rfl (lv_at hl 0 rfl) ?_
    refine lv_iconst (v := (4 : Int32)) hx hb dX10_isChannelItem_166 (by decide) ?_
    obtain ⟨v_15, hv_15, h⟩ := ox_bind h
    refine kVi ⟨hx, hb, hml, hown, hts⟩ (c_X10_fails l g q_t Q_t F_t (4 : Int32) v_15 hv_15 H.size) (gV u_ml_X10_116 u_im_X10_fails u_se_X10_fails u_ini_X10 u_co_X10_fails) hd_X10_fails ⟨rfl, rfl⟩ hK hP hD hS hA 0 10 rfl rfl [0] [0, 2, 3, 4] rfl rfl 1 rfl (w2 := [oX10 q_t Q_t (F_t 0 0) (F_t 2 0) (F_t 3 0) (F_t 4 0) (F_t 5 0) (F_t 6 0) v_15.2.1 v_15.2.2 (F_t 9 0) (F_t 10 0) (F_t 11 0) (F_t 12 0) (F_t 15 0) (F_t 16 0) (F_t 17 0) (F_t 23 0) (F_t 27 0) (F_t 28 0) (F_t 30 0), ia g (Q_t 1) 240 (F_t 1), ia g (Q_t 13) 16 (F_t 13), ia g (Q_t 14) 30 (F_t 14)]) rfl rfl (As := [.int (4 : Int32)]) (rest := []) rfl hl.1 rfl rfl dX10_isChannelItem_167 (fun H locs hP hD hS => ?_)
    obtain ⟨hz_16, h⟩ := ox_ok h
    obtain rfl := Option.some.inj h
    exact k_zret hx hb hr hlk hz_16 hP hD hS dX10_isChannelItem_170
def x_X10_isChannelItem_b24 (N : Nat) (F_t : St) (x1 : Int32) (x2 : Int32) : Option ((Int32 × Int32 × Int32 × Int32 × Int32 × Int32 × Int32 × Int32 × (Nat → Int32)) ⊕ ((Int32 × Int32 × Int32 × Int32 × Int32 × Int32 × Int32 × (Nat → Int32)) ⊕ (Int32 × Int32 × Int32 × Int32 × Int32 × Int32 × Int32 × (Nat → Int32)))) :=
  if (2 : Int32) ≤ x2 then (some (.inr (.inr ((F_t 2 0), (F_t 3 0), (F_t 4 0), (F_t 5 0), (F_t 6 0), (F_t 7 0), (F_t 8 0), (F_t 14))))) else (Option.bind (x_X10_isNumber N F_t (0 : Int32) ((F_t 11 0) - (1 : Int32))) (fun v_20 => if v_20.1 = 0 then (some (.inr (.inl (v_20.2.1, v_20.2.2.1, v_20.2.2.2.1, v_20.2.2.2.2.1, v_20.2.2.2.2.2.1, v_20.2.2.2.2.2.2.1, v_20.2.2.2.2.2.2.2, (F_t 14))))) else (if (x1 + x2) < 0 ∨ 30 ≤ (x1 + x2).toNatClampNeg then none else some (.inl ((x2 + (1 : Int32)), v_20.2.1, v_20.2.2.1, v_20.2.2.2.1, v_20.2.2.2.2.1, v_20.2.2.2.2.2.1, v_20.2.2.2.2.2.2.1, v_20.2.2.2.2.2.2.2, (upd (F_t 14) (x1 + x2).toNatClampNeg v_20.2.2.2.2.1))))))
set_option maxHeartbeats 4000000 in
set_option maxRecDepth 100000 in
theorem t_X10_isChannelItem_b24 {p : Program} {l : Launch} {e : Env} {s : State} {m : MethodId} {args : Array Value} {below : List Frame} {meth : Method} {c : Code} {g : gG} {A : Nat → Prop} {Q : State → Prop} (E : En p s m args meth c g A cX10_isChannelItem 5 (.code yX10_isChannelItem cX10_isChannelItem 5 (some .boolean) :: gW) RX10 (some .boolean)) (q_t : Nat) (Q_t : Ad) (N : Nat) (F_t : St) (x1 : Int32) (x2 : Int32) (o : (Int32 × Int32 × Int32 × Int32 × Int32 × Int32 × Int32 × Int32 × (Nat → Int32)) ⊕ ((Int32 × Int32 × Int32 × Int32 × Int32 × Int32 × Int32 × (Nat → Int32)) ⊕ (Int32 × Int32 × Int32 × Int32 × Int32 × Int32 × Int32 × (Nat → Int32)))) (h : x_X10_isChannelItem_b24 N F_t x1 x2 = some o) (hc : ∀ z, o = .inl z → WA p l e (rM 3 64) s m args below meth c g A Q 5 24 [oX10 q_t Q_t (F_t 0 0) z.2.1 z.2.2.1 z.2.2.2.1 z.2.2.2.2.1 z.2.2.2.2.2.1 z.2.2.2.2.2.2.1 z.2.2.2.2.2.2.2.1 (F_t 9 0) (F_t 10 0) (F_t 11 0) (F_t 12 0) (F_t 15 0) (F_t 16 0) (F_t 17 0) (F_t 23 0) (F_t 27 0) (F_t 28 0) (F_t 30 0), ia g (Q_t 1) 240 (F_t 1), ia g (Q_t 13) 16 (F_t 13), ia g (Q_t 14) 30 z.2.2.2.2.2.2.2.2] [(0, .ref q_t), (1, .int x1), (2, .int z.1)] []) (he0 : ∀ v, o = .inr (.inl v) → WA p l e (rM 3 64) s m args below meth c g A Q 5 43 [oX10 q_t Q_t (F_t 0 0) v.1 v.2.1 v.2.2.1 v.2.2.2.1 v.2.2.2.2.1 v.2.2.2.2.2.1 v.2.2.2.2.2.2.1 (F_t 9 0) (F_t 10 0) (F_t 11 0) (F_t 12 0) (F_t 15 0) (F_t 16 0) (F_t 17 0) (F_t 23 0) (F_t 27 0) (F_t 28 0) (F_t 30 0), ia g (Q_t 1) 240 (F_t 1), ia g (Q_t 13) 16 (F_t 13), ia g (Q_t 14) 30 v.2.2.2.2.2.2.2] [] []) (he1 : ∀ v, o = .inr (.inr v) → WA p l e (rM 3 64) s m args below meth c g A Q 5 63 [oX10 q_t Q_t (F_t 0 0) v.1 v.2.1 v.2.2.1 v.2.2.2.1 v.2.2.2.2.1 v.2.2.2.2.2.1 v.2.2.2.2.2.2.1 (F_t 9 0) (F_t 10 0) (F_t 11 0) (F_t 12 0) (F_t 15 0) (F_t 16 0) (F_t 17 0) (F_t 23 0) (F_t 27 0) (F_t 28 0) (F_t 30 0), ia g (Q_t 1) 240 (F_t 1), ia g (Q_t 13) 16 (F_t 13), ia g (Q_t 14) 30 v.2.2.2.2.2.2.2] [(0, .ref q_t), (1, .int x1)] []) : WA p l e (rM 3 64) s m args below meth c g A Q 5 24 [oX10 q_t Q_t (F_t 0 0) (F_t 2 0) (F_t 3 0) (F_t 4 0) (F_t 5 0) (F_t 6 0) (F_t 7 0) (F_t 8 0) (F_t 9 0) (F_t 10 0) (F_t 11 0) (F_t 12 0) (F_t 15 0) (F_t 16 0) (F_t 17 0) (F_t 23 0) (F_t 27 0) (F_t 28 0) (F_t 30 0), ia g (Q_t 1) 240 (F_t 1), ia g (Q_t 13) 16 (F_t 13), ia g (Q_t 14) 30 (F_t 14)] [(0, .ref q_t), (1, .int x1), (2, .int x2)] [] := by
  obtain ⟨⟨hx, hb, hml, hown, hts⟩, hr, hK, hA, hlk⟩ := id E
  intro H locs ls hP hD hS hl
  refine lv_iload_n hx hb dX10_isChannelItem_24 rfl (lv_at hl 2 rfl) ?_
  refine lv_iconst (v := (2 : Int32)) hx hb dX10_isChannelItem_25 (by decide) ?_
  refine lv_icmp_ge (tgt := 63) hx hb dX10_isChannelItem_26 (by decide) (fun c_19 => ?_) (fun c_19 => ?_)
  · have h := ox_t c_19 h
    obtain rfl := Option.some.inj h
    exact he1 _ rfl H locs ls hP hD hS (lv_sub hl [0, 1] rfl)
  · have h := ox_f c_19 h
    refine lv_aload_n hx hb dX10_isChannelItem_29 rfl (lv_at hl 0 rfl) ?_
    refine lv_iconst (v := (0 : Int32)) hx hb dX10_isChannelItem_30 (by decide) ?_
    refine lv_aload_n hx hb dX10_isChannelItem_31 rfl (lv_at hl 0 rfl) ?_
    refine va_get (ci := 10) (v := .int (F_t 11 0)) (C := RX10) (T := TX10) (N := 38) hx hb hts (fun w h => .tail _ (u_inX10 w h)) hown hK.1 hP 0 rfl rfl 11 (by decide) (hts _ (.tail _ u_fl_X10_135)) (fun _ h9 => h9) rfl dX10_isChannelItem_32 ?_
    refine lv_iconst (v := (1 : Int32)) hx hb dX10_isChannelItem_35 (by decide) ?_
    refine lv_isub hx hb dX10_isChannelItem_36 ?_
    obtain ⟨v_20, hv_20, h⟩ := ox_bind h
    refine kVi ⟨hx, hb, hml, hown, hts⟩ (c_X10_isNumber l g q_t Q_t N F_t (0 : Int32) ((F_t 11 0) - (1 : Int32)) v_20 hv_20 H.size) (gV u_ml_X10_120 u_im_X10_isNumber u_se_X10_isNumber u_ini_X10 u_co_X10_isNumber) hd_X10_isNumber ⟨rfl, rfl⟩ hK hP hD hS hA 0 10 rfl rfl [0, 1] [0, 1, 4, 5] rfl rfl 2 rfl (w2 := [oX10 q_t Q_t (F_t 0 0) v_20.2.1 v_20.2.2.1 v_20.2.2.2.1 v_20.2.2.2.2.1 v_20.2.2.2.2.2.1 v_20.2.2.2.2.2.2.1 v_20.2.2.2.2.2.2.2 (F_t 9 0) (F_t 10 0) (F_t 11 0) (F_t 12 0) (F_t 15 0) (F_t 16 0) (F_t 17 0) (F_t 23 0) (F_t 27 0) (F_t 28 0) (F_t 30 0), ia g (Q_t 1) 240 (F_t 1), ia g (Q_t 13) 16 (F_t 13), ia g (Q_t 14) 30 (F_t 14)]) rfl rfl (As := [.int (0 : Int32), .int ((F_t 11 0) - (1 : Int32))]) (rest := []) rfl hl.1 rfl rfl dX10_isChannelItem_37 (fun H locs hP hD hS => ?_)
    refine lv_if_ne (tgt := 45) hx hb dX10_isChannelItem_40 (by decide) (fun c_21 => ?_) (fun c_21 => ?_)
    · have h := ox_f c_21 h
      refine lv_aload_n hx hb dX10_isChannelItem_45 rfl (lv_at hl 0 rfl) ?_
      refine va_get (ci := 10) (v := .ref (Q_t 14)) (C := RX10) (T := TX10) (N := 38) hx hb hts (fun w h => .tail _ (u_inX10 w h)) hown hK.1 hP 0 rfl rfl 14 (by decide) (hts _ (.tail _ u_fl_X10_20)) (fun _ h9 => h9) rfl dX10_isChannelItem_46 ?_
      refine lv_iload_n hx hb dX10_isChannelItem_49 rfl (lv_at hl 1 rfl) ?_
      refine lv_iload_n hx hb dX10_isChannelItem_50 rfl (lv_at hl 2 rfl) ?_
      refine lv_iadd hx hb dX10_isChannelItem_51 ?_
      refine lv_aload_n hx hb dX10_isChannelItem_52 rfl (lv_at hl 0 rfl) ?_
      refine va_get (ci := 10) (v := .int v_20.2.2.2.2.1) (C := RX10) (T := TX10) (N := 38) hx hb hts (fun w h => .tail _ (u_inX10 w h)) hown hK.1 hP 0 rfl rfl 5 (by decide) (hts _ (.tail _ u_fl_X10_101)) (fun _ h9 => h9) rfl dX10_isChannelItem_53 ?_
      obtain ⟨hi_22, h⟩ := ox_chk h
      refine va_iast hx hb hK.1 hP hD hS 3 0 rfl rfl hi_22 dX10_isChannelItem_56 (fun H locs hP hD hS => ?_)
      have hP : va_P g.1 vwCl [oX10 q_t Q_t (F_t 0 0) v_20.2.1 v_20.2.2.1 v_20.2.2.2.1 v_20.2.2.2.2.1 v_20.2.2.2.2.2.1 v_20.2.2.2.2.2.2.1 v_20.2.2.2.2.2.2.2 (F_t 9 0) (F_t 10 0) (F_t 11 0) (F_t 12 0) (F_t 15 0) (F_t 16 0) (F_t 17 0) (F_t 23 0) (F_t 27 0) (F_t 28 0) (F_t 30 0), ia g (Q_t 1) 240 (F_t 1), ia g (Q_t 13) 16 (F_t 13), ia g (Q_t 14) 30 (upd (F_t 14) (x1 + x2).toNatClampNeg v_20.2.2.2.2.1)] H := hP
      have hD : va_D A [oX10 q_t Q_t (F_t 0 0) v_20.2.1 v_20.2.2.1 v_20.2.2.2.1 v_20.2.2.2.2.1 v_20.2.2.2.2.2.1 v_20.2.2.2.2.2.2.1 v_20.2.2.2.2.2.2.2 (F_t 9 0) (F_t 10 0) (F_t 11 0) (F_t 12 0) (F_t 15 0) (F_t 16 0) (F_t 17 0) (F_t 23 0) (F_t 27 0) (F_t 28 0) (F_t 30 0), ia g (Q_t 1) 240 (F_t 1), ia g (Q_t 13) 16 (F_t 13), ia g (Q_t 14) 30 (upd (F_t 14) (x1 + x2).toNatClampNeg v_20.2.2.2.2.1)] := hD
      refine lv_iinc (v := (x2 + (1 : Int32))) (lv' := [(2, .int (x2 + (1 : Int32))), (0, .ref q_t), (1, .int x1)]) hx hb dX10_isChannelItem_57 hl (k := 2) rfl rfl (by decide) rfl (fun ls hl => ?_)
      refine lv_goto (tgt := 24) hx hb dX10_isChannelItem_60 (by decide) ?_
      obtain rfl := Option.some.inj h
      exact hc _ rfl H locs ls hP hD hS (lv_sub hl [1, 2, 0] rfl)
    · have h := ox_t c_21 h
      obtain rfl := Option.some.inj h
      exact he0 _ rfl H locs ls hP hD hS (lv_sub hl [] rfl)
def x_X10_isChannelItem (N : Nat) (F_t : St) : Option (Int32 × Int32 × Int32 × Int32 × Int32 × Int32 × Int32 × Int32 × Int32 × (Nat → Int32)) :=
  if (F_t 12 0) = (10 : Int32) then (Option.bind (x_X10_fails F_t (3 : Int32)) (fun v_29 => if v_29.1 = 0 ∨ v_29.1 = 1 then some (v_29.1, (F_t 2 0), (F_t 3 0), (F_t 4 0), (F_t 5 0), (F_t 6 0), v_29.2.1, v_29.2.2, (F_t 12 0), (F_t 14)) else none)) else (xl ((3 : Int32) * (F_t 12 0)) (fun y_18 => Option.bind (lpc (fun (z : Int32 × Int32 × Int32 × Int32 × Int32 × Int32 × Int32 × Int32 × (Nat → Int32)) => x_X10_isChannelItem_b24 N (va_up (va_up (va_up (va_up (va_up (va_up (va_up (va_up F_t 2 (fun _ => z.2.1)) 3 (fun _ => z.2.2.1)) 4 (fun _ => z.2.2.2.1)) 5 (fun _ => z.2.2.2.2.1)) 6 (fun _ => z.2.2.2.2.2.1)) 7 (fun _ => z.2.2.2.2.2.2.1)) 8 (fun _ => z.2.2.2.2.2.2.2.1)) 14 z.2.2.2.2.2.2.2.2) y_18 z.1) N ((0 : Int32), (F_t 2 0), (F_t 3 0), (F_t 4 0), (F_t 5 0), (F_t 6 0), (F_t 7 0), (F_t 8 0), (F_t 14))) (fun v_23 => Sum.elim (fun v_23 => some ((0 : Int32), v_23.1, v_23.2.1, v_23.2.2.1, v_23.2.2.2.1, v_23.2.2.2.2.1, v_23.2.2.2.2.2.1, v_23.2.2.2.2.2.2.1, (F_t 12 0), v_23.2.2.2.2.2.2.2)) (fun v_23 => if y_18 < 0 ∨ 30 ≤ y_18.toNatClampNeg then none else xl (v_23.2.2.2.2.2.2.2 y_18.toNatClampNeg) (fun y_25 => if (((2 : Int32) * v_23.2.2.2.1) + (1 : Int32)) < 0 ∨ 16 ≤ (((2 : Int32) * v_23.2.2.2.1) + (1 : Int32)).toNatClampNeg then none else if (((2 : Int32) * y_25) + (1 : Int32)) < 0 ∨ 16 ≤ (((2 : Int32) * y_25) + (1 : Int32)).toNatClampNeg then none else if ((F_t 13) (((2 : Int32) * y_25) + (1 : Int32)).toNatClampNeg) ≤ ((F_t 13) (((2 : Int32) * v_23.2.2.2.1) + (1 : Int32)).toNatClampNeg) then (x_X10_isChannelItem_k101 N (va_up (va_up (va_up (va_up (va_up (va_up (va_up (va_up F_t 2 (fun _ => v_23.1)) 3 (fun _ => v_23.2.1)) 4 (fun _ => v_23.2.2.1)) 5 (fun _ => v_23.2.2.2.1)) 6 (fun _ => v_23.2.2.2.2.1)) 7 (fun _ => v_23.2.2.2.2.2.1)) 8 (fun _ => v_23.2.2.2.2.2.2.1)) 14 v_23.2.2.2.2.2.2.2) y_18 y_25 (0 : Int32)) else (x_X10_isChannelItem_k101 N (va_up (va_up (va_up (va_up (va_up (va_up (va_up (va_up F_t 2 (fun _ => v_23.1)) 3 (fun _ => v_23.2.1)) 4 (fun _ => v_23.2.2.1)) 5 (fun _ => v_23.2.2.2.1)) 6 (fun _ => v_23.2.2.2.2.1)) 7 (fun _ => v_23.2.2.2.2.2.1)) 8 (fun _ => v_23.2.2.2.2.2.2.1)) 14 v_23.2.2.2.2.2.2.2) y_18 y_25 (1 : Int32)))) v_23)))
set_option maxHeartbeats 4000000 in
set_option maxRecDepth 100000 in
theorem t_X10_isChannelItem {p : Program} {l : Launch} {e : Env} {s : State} {m : MethodId} {args : Array Value} {below : List Frame} {meth : Method} {c : Code} {g : gG} {A : Nat → Prop} (E : En p s m args meth c g A cX10_isChannelItem 5 (.code yX10_isChannelItem cX10_isChannelItem 5 (some .boolean) :: gW) RX10 (some .boolean)) (q_t : Nat) (Q_t : Ad) (N : Nat) (F_t : St) (o : Int32 × Int32 × Int32 × Int32 × Int32 × Int32 × Int32 × Int32 × Int32 × (Nat → Int32)) (h : x_X10_isChannelItem N F_t = some o) : WA p l e (rM 3 64) s m args below meth c g A (MQ below (QI g A o.1 [oX10 q_t Q_t (F_t 0 0) o.2.1 o.2.2.1 o.2.2.2.1 o.2.2.2.2.1 o.2.2.2.2.2.1 o.2.2.2.2.2.2.1 o.2.2.2.2.2.2.2.1 (F_t 9 0) (F_t 10 0) (F_t 11 0) o.2.2.2.2.2.2.2.2.1 (F_t 15 0) (F_t 16 0) (F_t 17 0) (F_t 23 0) (F_t 27 0) (F_t 28 0) (F_t 30 0), ia g (Q_t 1) 240 (F_t 1), ia g (Q_t 13) 16 (F_t 13), ia g (Q_t 14) 30 o.2.2.2.2.2.2.2.2.2]) args s 0 0 A) 5 0 [oX10 q_t Q_t (F_t 0 0) (F_t 2 0) (F_t 3 0) (F_t 4 0) (F_t 5 0) (F_t 6 0) (F_t 7 0) (F_t 8 0) (F_t 9 0) (F_t 10 0) (F_t 11 0) (F_t 12 0) (F_t 15 0) (F_t 16 0) (F_t 17 0) (F_t 23 0) (F_t 27 0) (F_t 28 0) (F_t 30 0), ia g (Q_t 1) 240 (F_t 1), ia g (Q_t 13) 16 (F_t 13), ia g (Q_t 14) 30 (F_t 14)] [(0, .ref q_t)] [] := by
  obtain ⟨⟨hx, hb, hml, hown, hts⟩, hr, hK, hA, hlk⟩ := id E
  intro H locs ls hP hD hS hl
  refine lv_aload_n hx hb dX10_isChannelItem_0 rfl (lv_at hl 0 rfl) ?_
  refine va_get (ci := 10) (v := .int (F_t 12 0)) (C := RX10) (T := TX10) (N := 38) hx hb hts (fun w h => .tail _ (u_inX10 w h)) hown hK.1 hP 0 rfl rfl 12 (by decide) (hts _ (.tail _ u_fl_X10_138)) (fun _ h9 => h9) rfl dX10_isChannelItem_1 ?_
  refine lv_bipush (v := (10 : Int32)) hx hb dX10_isChannelItem_4 (by decide) ?_
  refine lv_icmp_ne (tgt := 15) hx hb dX10_isChannelItem_6 (by decide) (fun c_17 => ?_) (fun c_17 => ?_)
  · have h := ox_f c_17 h
    refine lv_iconst (v := (3 : Int32)) hx hb dX10_isChannelItem_15 (by decide) ?_
    refine lv_aload_n hx hb dX10_isChannelItem_16 rfl (lv_at hl 0 rfl) ?_
    refine va_get (ci := 10) (v := .int (F_t 12 0)) (C := RX10) (T := TX10) (N := 38) hx hb hts (fun w h => .tail _ (u_inX10 w h)) hown hK.1 hP 0 rfl rfl 12 (by decide) (hts _ (.tail _ u_fl_X10_138)) (fun _ h9 => h9) rfl dX10_isChannelItem_17 ?_
    refine lv_imul hx hb dX10_isChannelItem_20 ?_
    refine lv_topi (fun y_18 ey_18 => ?_)
    have h := xl_at ey_18 h
    refine lv_istore_n (lv' := [(1, .int y_18), (0, .ref q_t)]) hx hb dX10_isChannelItem_21 rfl hl (by decide) rfl (fun ls hl => ?_)
    refine lv_iconst (v := (0 : Int32)) hx hb dX10_isChannelItem_22 (by decide) ?_
    refine lv_istore_n (lv' := [(2, .int (0 : Int32)), (1, .int y_18), (0, .ref q_t)]) hx hb dX10_isChannelItem_23 rfl hl (by decide) rfl (fun ls hl => ?_)
    obtain ⟨v_23, hv_23, h⟩ := ox_bind h
    refine lpc_W (Wh := fun (z : Int32 × Int32 × Int32 × Int32 × Int32 × Int32 × Int32 × Int32 × (Nat → Int32)) => WA p l e (rM 3 64) s m args below meth c g A (MQ below (QI g A o.1 [oX10 q_t Q_t (F_t 0 0) o.2.1 o.2.2.1 o.2.2.2.1 o.2.2.2.2.1 o.2.2.2.2.2.1 o.2.2.2.2.2.2.1 o.2.2.2.2.2.2.2.1 (F_t 9 0) (F_t 10 0) (F_t 11 0) o.2.2.2.2.2.2.2.2.1 (F_t 15 0) (F_t 16 0) (F_t 17 0) (F_t 23 0) (F_t 27 0) (F_t 28 0) (F_t 30 0), ia g (Q_t 1) 240 (F_t 1), ia g (Q_t 13) 16 (F_t 13), ia g (Q_t 14) 30 o.2.2.2.2.2.2.2.2.2]) args s 0 0 A) 5 24 [oX10 q_t Q_t (F_t 0 0) z.2.1 z.2.2.1 z.2.2.2.1 z.2.2.2.2.1 z.2.2.2.2.2.1 z.2.2.2.2.2.2.1 z.2.2.2.2.2.2.2.1 (F_t 9 0) (F_t 10 0) (F_t 11 0) (F_t 12 0) (F_t 15 0) (F_t 16 0) (F_t 17 0) (F_t 23 0) (F_t 27 0) (F_t 28 0) (F_t 30 0), ia g (Q_t 1) 240 (F_t 1), ia g (Q_t 13) 16 (F_t 13), ia g (Q_t 14) 30 z.2.2.2.2.2.2.2.2] [(0, .ref q_t), (1, .int y_18), (2, .int z.1)] []) (We := Sum.elim (fun (v : Int32 × Int32 × Int32 × Int32 × Int32 × Int32 × Int32 × (Nat → Int32)) => WA p l e (rM 3 64) s m args below meth c g A (MQ below (QI g A o.1 [oX10 q_t Q_t (F_t 0 0) o.2.1 o.2.2.1 o.2.2.2.1 o.2.2.2.2.1 o.2.2.2.2.2.1 o.2.2.2.2.2.2.1 o.2.2.2.2.2.2.2.1 (F_t 9 0) (F_t 10 0) (F_t 11 0) o.2.2.2.2.2.2.2.2.1 (F_t 15 0) (F_t 16 0) (F_t 17 0) (F_t 23 0) (F_t 27 0) (F_t 28 0) (F_t 30 0), ia g (Q_t 1) 240 (F_t 1), ia g (Q_t 13) 16 (F_t 13), ia g (Q_t 14) 30 o.2.2.2.2.2.2.2.2.2]) args s 0 0 A) 5 43 [oX10 q_t Q_t (F_t 0 0) v.1 v.2.1 v.2.2.1 v.2.2.2.1 v.2.2.2.2.1 v.2.2.2.2.2.1 v.2.2.2.2.2.2.1 (F_t 9 0) (F_t 10 0) (F_t 11 0) (F_t 12 0) (F_t 15 0) (F_t 16 0) (F_t 17 0) (F_t 23 0) (F_t 27 0) (F_t 28 0) (F_t 30 0), ia g (Q_t 1) 240 (F_t 1), ia g (Q_t 13) 16 (F_t 13), ia g (Q_t 14) 30 v.2.2.2.2.2.2.2] [] []) (fun (v : Int32 × Int32 × Int32 × Int32 × Int32 × Int32 × Int32 × (Nat → Int32)) => WA p l e (rM 3 64) s m args below meth c g A (MQ below (QI g A o.1 [oX10 q_t Q_t (F_t 0 0) o.2.1 o.2.2.1 o.2.2.2.1 o.2.2.2.2.1 o.2.2.2.2.2.1 o.2.2.2.2.2.2.1 o.2.2.2.2.2.2.2.1 (F_t 9 0) (F_t 10 0) (F_t 11 0) o.2.2.2.2.2.2.2.2.1 (F_t 15 0) (F_t 16 0) (F_t 17 0) (F_t 23 0) (F_t 27 0) (F_t 28 0) (F_t 30 0), ia g (Q_t 1) 240 (F_t 1), ia g (Q_t 13) 16 (F_t 13), ia g (Q_t 14) 30 o.2.2.2.2.2.2.2.2.2]) args s 0 0 A) 5 63 [oX10 q_t Q_t (F_t 0 0) v.1 v.2.1 v.2.2.1 v.2.2.2.1 v.2.2.2.2.1 v.2.2.2.2.2.1 v.2.2.2.2.2.2.1 (F_t 9 0) (F_t 10 0) (F_t 11 0) (F_t 12 0) (F_t 15 0) (F_t 16 0) (F_t 17 0) (F_t 23 0) (F_t 27 0) (F_t 28 0) (F_t 30 0), ia g (Q_t 1) 240 (F_t 1), ia g (Q_t 13) 16 (F_t 13), ia g (Q_t 14) 30 v.2.2.2.2.2.2.2] [(0, .ref q_t), (1, .int y_18)] [])) (fun z r hb hc he => t_X10_isChannelItem_b24 E q_t Q_t N (va_up (va_up (va_up (va_up (va_up (va_up (va_up (va_up F_t 2 (fun _ => z.2.1)) 3 (fun _ => z.2.2.1)) 4 (fun _ => z.2.2.2.1)) 5 (fun _ => z.2.2.2.2.1)) 6 (fun _ => z.2.2.2.2.2.1)) 7 (fun _ => z.2.2.2.2.2.2.1)) 8 (fun _ => z.2.2.2.2.2.2.2.1)) 14 z.2.2.2.2.2.2.2.2) y_18 z.1 r hb hc (fun v hv => he (.inl v) hv) (fun v hv => he (.inr v) hv)) N ((0 : Int32), (F_t 2 0), (F_t 3 0), (F_t 4 0), (F_t 5 0), (F_t 6 0), (F_t 7 0), (F_t 8 0), (F_t 14)) v_23 hv_23 ?_ H locs ls hP hD hS (lv_sub hl [2, 1, 0] rfl)
    rcases v_23 with v_23 | v_23
    · have h := ox_inl h
      intro H locs ls hP hD hS hl
      refine lv_iconst (v := (0 : Int32)) hx hb dX10_isChannelItem_43 (by decide) ?_
      obtain rfl := Option.some.inj h
      exact k_zret hx hb hr hlk (.inl rfl) hP hD hS dX10_isChannelItem_44
    · have h := ox_inr h
      intro H locs ls hP hD hS hl
      refine lv_aload_n hx hb dX10_isChannelItem_63 rfl (lv_at hl 0 rfl) ?_
      refine va_get (ci := 10) (v := .ref (Q_t 14)) (C := RX10) (T := TX10) (N := 38) hx hb hts (fun w h => .tail _ (u_inX10 w h)) hown hK.1 hP 0 rfl rfl 14 (by decide) (hts _ (.tail _ u_fl_X10_20)) (fun _ h9 => h9) rfl dX10_isChannelItem_64 ?_
      refine lv_iload_n hx hb dX10_isChannelItem_67 rfl (lv_at hl 1 rfl) ?_
      obtain ⟨hi_24, h⟩ := ox_chk h
      refine va_iald hx hb hK.1 hP 3 0 rfl rfl hi_24 dX10_isChannelItem_68 ?_
      refine lv_topi (fun y_25 ey_25 => ?_)
      have h := xl_at ey_25 h
      refine lv_istore_n (lv' := [(2, .int y_25), (0, .ref q_t), (1, .int y_18)]) hx hb dX10_isChannelItem_69 rfl hl (by decide) rfl (fun ls hl => ?_)
      refine lv_aload_n hx hb dX10_isChannelItem_70 rfl (lv_at hl 1 rfl) ?_
      refine va_get (ci := 10) (v := .ref (Q_t 13)) (C := RX10) (T := TX10) (N := 38) hx hb hts (fun w h => .tail _ (u_inX10 w h)) hown hK.1 hP 0 rfl rfl 13 (by decide) (hts _ (.tail _ u_fl_X10_17)) (fun _ h9 => h9) rfl dX10_isChannelItem_71 ?_
      refine lv_iconst (v := (2 : Int32)) hx hb dX10_isChannelItem_74 (by decide) ?_
      refine lv_aload_n hx hb dX10_isChannelItem_75 rfl (lv_at hl 1 rfl) ?_
      refine va_get (ci := 10) (v := .int v_23.2.2.2.1) (C := RX10) (T := TX10) (N := 38) hx hb hts (fun w h => .tail _ (u_inX10 w h)) hown hK.1 hP 0 rfl rfl 5 (by decide) (hts _ (.tail _ u_fl_X10_101)) (fun _ h9 => h9) rfl dX10_isChannelItem_76 ?_
      refine lv_imul hx hb dX10_isChannelItem_79 ?_
      refine lv_iconst (v := (1 : Int32)) hx hb dX10_isChannelItem_80 (by decide) ?_
      refine lv_iadd hx hb dX10_isChannelItem_81 ?_
      obtain ⟨hi_26, h⟩ := ox_chk h
      refine va_iald hx hb hK.1 hP 2 0 rfl rfl hi_26 dX10_isChannelItem_82 ?_
      refine lv_aload_n hx hb dX10_isChannelItem_83 rfl (lv_at hl 1 rfl) ?_
      refine va_get (ci := 10) (v := .ref (Q_t 13)) (C := RX10) (T := TX10) (N := 38) hx hb hts (fun w h => .tail _ (u_inX10 w h)) hown hK.1 hP 0 rfl rfl 13 (by decide) (hts _ (.tail _ u_fl_X10_17)) (fun _ h9 => h9) rfl dX10_isChannelItem_84 ?_
      refine lv_iconst (v := (2 : Int32)) hx hb dX10_isChannelItem_87 (by decide) ?_
      refine lv_iload_n hx hb dX10_isChannelItem_88 rfl (lv_at hl 0 rfl) ?_
      refine lv_imul hx hb dX10_isChannelItem_89 ?_
      refine lv_iconst (v := (1 : Int32)) hx hb dX10_isChannelItem_90 (by decide) ?_
      refine lv_iadd hx hb dX10_isChannelItem_91 ?_
      obtain ⟨hi_27, h⟩ := ox_chk h
      refine va_iald hx hb hK.1 hP 2 0 rfl rfl hi_27 dX10_isChannelItem_92 ?_
      refine lv_icmp_ge (tgt := 100) hx hb dX10_isChannelItem_93 (by decide) (fun c_28 => ?_) (fun c_28 => ?_)
      · have h := ox_t c_28 h
        refine lv_iconst (v := (0 : Int32)) hx hb dX10_isChannelItem_100 (by decide) ?_
        exact t_X10_isChannelItem_k101 E q_t Q_t N (va_up (va_up (va_up (va_up (va_up (va_up (va_up (va_up F_t 2 (fun _ => v_23.1)) 3 (fun _ => v_23.2.1)) 4 (fun _ => v_23.2.2.1)) 5 (fun _ => v_23.2.2.2.1)) 6 (fun _ => v_23.2.2.2.2.1)) 7 (fun _ => v_23.2.2.2.2.2.1)) 8 (fun _ => v_23.2.2.2.2.2.2.1)) 14 v_23.2.2.2.2.2.2.2) y_18 y_25 (0 : Int32) _ h H locs ls hP hD hS (lv_sub hl [1, 2, 0] rfl)
      · have h := ox_f c_28 h
        refine lv_iconst (v := (1 : Int32)) hx hb dX10_isChannelItem_96 (by decide) ?_
        refine lv_goto (tgt := 101) hx hb dX10_isChannelItem_97 (by decide) ?_
        exact t_X10_isChannelItem_k101 E q_t Q_t N (va_up (va_up (va_up (va_up (va_up (va_up (va_up (va_up F_t 2 (fun _ => v_23.1)) 3 (fun _ => v_23.2.1)) 4 (fun _ => v_23.2.2.1)) 5 (fun _ => v_23.2.2.2.1)) 6 (fun _ => v_23.2.2.2.2.1)) 7 (fun _ => v_23.2.2.2.2.2.1)) 8 (fun _ => v_23.2.2.2.2.2.2.1)) 14 v_23.2.2.2.2.2.2.2) y_18 y_25 (1 : Int32) _ h H locs ls hP hD hS (lv_sub hl [1, 2, 0] rfl)
  · have h := ox_t c_17 h
    refine lv_aload_n hx hb dX10_isChannelItem_9 rfl (lv_at hl 0 rfl) ?_
    refine lv_iconst (v := (3 : Int32)) hx hb dX10_isChannelItem_10 (by decide) ?_
    obtain ⟨v_29, hv_29, h⟩ := ox_bind h
    refine kVi ⟨hx, hb, hml, hown, hts⟩ (c_X10_fails l g q_t Q_t F_t (3 : Int32) v_29 hv_29 H.size) (gV u_ml_X10_116 u_im_X10_fails u_se_X10_fails u_ini_X10 u_co_X10_fails) hd_X10_fails ⟨rfl, rfl⟩ hK hP hD hS hA 0 10 rfl rfl [0] [0, 2, 3, 4] rfl rfl 1 rfl (w2 := [oX10 q_t Q_t (F_t 0 0) (F_t 2 0) (F_t 3 0) (F_t 4 0) (F_t 5 0) (F_t 6 0) v_29.2.1 v_29.2.2 (F_t 9 0) (F_t 10 0) (F_t 11 0) (F_t 12 0) (F_t 15 0) (F_t 16 0) (F_t 17 0) (F_t 23 0) (F_t 27 0) (F_t 28 0) (F_t 30 0), ia g (Q_t 1) 240 (F_t 1), ia g (Q_t 13) 16 (F_t 13), ia g (Q_t 14) 30 (F_t 14)]) rfl rfl (As := [.int (3 : Int32)]) (rest := []) rfl hl.1 rfl rfl dX10_isChannelItem_11 (fun H locs hP hD hS => ?_)
    obtain ⟨hz_30, h⟩ := ox_ok h
    obtain rfl := Option.some.inj h
    exact k_zret hx hb hr hlk hz_30 hP hD hS dX10_isChannelItem_14
set_option maxRecDepth 100000 in
theorem c_X10_isChannelItem (l : Launch) (g : gG) (q_t : Nat) (Q_t : Ad) (N : Nat) (F_t : St) (o : Int32 × Int32 × Int32 × Int32 × Int32 × Int32 × Int32 × Int32 × Int32 × (Nat → Int32)) (h : x_X10_isChannelItem N F_t = some o) (sz : Nat) : MetI l yX10_isChannelItem (.code yX10_isChannelItem cX10_isChannelItem 5 (some .boolean) :: gW) 3 64 [.ref q_t] o.1 g [oX10 q_t Q_t (F_t 0 0) (F_t 2 0) (F_t 3 0) (F_t 4 0) (F_t 5 0) (F_t 6 0) (F_t 7 0) (F_t 8 0) (F_t 9 0) (F_t 10 0) (F_t 11 0) (F_t 12 0) (F_t 15 0) (F_t 16 0) (F_t 17 0) (F_t 23 0) (F_t 27 0) (F_t 28 0) (F_t 30 0), ia g (Q_t 1) 240 (F_t 1), ia g (Q_t 13) 16 (F_t 13), ia g (Q_t 14) 30 (F_t 14)] [oX10 q_t Q_t (F_t 0 0) o.2.1 o.2.2.1 o.2.2.2.1 o.2.2.2.2.1 o.2.2.2.2.2.1 o.2.2.2.2.2.2.1 o.2.2.2.2.2.2.2.1 (F_t 9 0) (F_t 10 0) (F_t 11 0) o.2.2.2.2.2.2.2.2.1 (F_t 15 0) (F_t 16 0) (F_t 17 0) (F_t 23 0) (F_t 27 0) (F_t 28 0) (F_t 30 0), ia g (Q_t 1) 240 (F_t 1), ia g (Q_t 13) 16 (F_t 13), ia g (Q_t 14) 30 o.2.2.2.2.2.2.2.2.2] sz :=
  mkI (av := [.ref q_t]) (by decide +kernel) rfl (fun p e s m below meth c A E H locs ls hP hD hS hl => t_X10_isChannelItem E q_t Q_t N F_t o h H locs ls hP hD hS hl) sz
def x_X10_isClause (N : Nat) (F_t : St) : Option (Int32 × Int32 × Int32 × Int32 × Int32 × Int32 × Int32 × Int32 × Int32 × Int32 × Int32 × Int32 × (Nat → Int32) × (Nat → Int32)) :=
  if (F_t 4 0) = (115 : Int32) then (if (F_t 9 0) = 0 then (Option.bind (x_X10_isMostItem N F_t) (fun v_14 => if v_14.1 = 0 ∨ v_14.1 = 1 then some (v_14.1, v_14.2.1, v_14.2.2.1, v_14.2.2.2.1, v_14.2.2.2.2.1, v_14.2.2.2.2.2.1, v_14.2.2.2.2.2.2.1, v_14.2.2.2.2.2.2.2.1, v_14.2.2.2.2.2.2.2.2.1, v_14.2.2.2.2.2.2.2.2.2, (F_t 11 0), (F_t 12 0), (F_t 13), (F_t 14)) else none)) else (Option.bind (x_X10_fails F_t (3 : Int32)) (fun v_16 => if v_16.1 = 0 ∨ v_16.1 = 1 then some (v_16.1, (F_t 2 0), (F_t 3 0), (F_t 4 0), (F_t 5 0), (F_t 6 0), v_16.2.1, v_16.2.2, (F_t 9 0), (F_t 10 0), (F_t 11 0), (F_t 12 0), (F_t 13), (F_t 14)) else none))) else (if (F_t 9 0) = 0 then (Option.bind (x_X10_fails F_t (1 : Int32)) (fun v_11 => if v_11.1 = 0 ∨ v_11.1 = 1 then some (v_11.1, (F_t 2 0), (F_t 3 0), (F_t 4 0), (F_t 5 0), (F_t 6 0), v_11.2.1, v_11.2.2, (F_t 9 0), (F_t 10 0), (F_t 11 0), (F_t 12 0), (F_t 13), (F_t 14)) else none)) else (if (F_t 4 0) = (112 : Int32) then (Option.bind (x_X10_isPlaceItem N F_t) (fun v_9 => if v_9.1 = 0 ∨ v_9.1 = 1 then some (v_9.1, v_9.2.1, v_9.2.2.1, v_9.2.2.2.1, v_9.2.2.2.2.1, v_9.2.2.2.2.2.1, v_9.2.2.2.2.2.2.1, v_9.2.2.2.2.2.2.2.1, (F_t 9 0), (F_t 10 0), v_9.2.2.2.2.2.2.2.2.1, (F_t 12 0), v_9.2.2.2.2.2.2.2.2.2, (F_t 14)) else none)) else (if (F_t 4 0) = (99 : Int32) then (Option.bind (x_X10_isChannelItem N F_t) (fun v_7 => if v_7.1 = 0 ∨ v_7.1 = 1 then some (v_7.1, v_7.2.1, v_7.2.2.1, v_7.2.2.2.1, v_7.2.2.2.2.1, v_7.2.2.2.2.2.1, v_7.2.2.2.2.2.2.1, v_7.2.2.2.2.2.2.2.1, (F_t 9 0), (F_t 10 0), (F_t 11 0), v_7.2.2.2.2.2.2.2.2.1, (F_t 13), v_7.2.2.2.2.2.2.2.2.2) else none)) else (Option.bind (x_X10_fails F_t (1 : Int32)) (fun v_5 => if v_5.1 = 0 ∨ v_5.1 = 1 then some (v_5.1, (F_t 2 0), (F_t 3 0), (F_t 4 0), (F_t 5 0), (F_t 6 0), v_5.2.1, v_5.2.2, (F_t 9 0), (F_t 10 0), (F_t 11 0), (F_t 12 0), (F_t 13), (F_t 14)) else none)))))
set_option maxHeartbeats 4000000 in
set_option maxRecDepth 100000 in
theorem t_X10_isClause {p : Program} {l : Launch} {e : Env} {s : State} {m : MethodId} {args : Array Value} {below : List Frame} {meth : Method} {c : Code} {g : gG} {A : Nat → Prop} (E : En p s m args meth c g A cX10_isClause 1 (.code yX10_isClause cX10_isClause 1 (some .boolean) :: gW) RX10 (some .boolean)) (q_t : Nat) (Q_t : Ad) (N : Nat) (F_t : St) (o : Int32 × Int32 × Int32 × Int32 × Int32 × Int32 × Int32 × Int32 × Int32 × Int32 × Int32 × Int32 × (Nat → Int32) × (Nat → Int32)) (h : x_X10_isClause N F_t = some o) : WA p l e (rM 4 88) s m args below meth c g A (MQ below (QI g A o.1 [oX10 q_t Q_t (F_t 0 0) o.2.1 o.2.2.1 o.2.2.2.1 o.2.2.2.2.1 o.2.2.2.2.2.1 o.2.2.2.2.2.2.1 o.2.2.2.2.2.2.2.1 o.2.2.2.2.2.2.2.2.1 o.2.2.2.2.2.2.2.2.2.1 o.2.2.2.2.2.2.2.2.2.2.1 o.2.2.2.2.2.2.2.2.2.2.2.1 (F_t 15 0) (F_t 16 0) (F_t 17 0) (F_t 23 0) (F_t 27 0) (F_t 28 0) (F_t 30 0), ia g (Q_t 1) 240 (F_t 1), ia g (Q_t 13) 16 o.2.2.2.2.2.2.2.2.2.2.2.2.1, ia g (Q_t 14) 30 o.2.2.2.2.2.2.2.2.2.2.2.2.2]) args s 0 0 A) 1 0 [oX10 q_t Q_t (F_t 0 0) (F_t 2 0) (F_t 3 0) (F_t 4 0) (F_t 5 0) (F_t 6 0) (F_t 7 0) (F_t 8 0) (F_t 9 0) (F_t 10 0) (F_t 11 0) (F_t 12 0) (F_t 15 0) (F_t 16 0) (F_t 17 0) (F_t 23 0) (F_t 27 0) (F_t 28 0) (F_t 30 0), ia g (Q_t 1) 240 (F_t 1), ia g (Q_t 13) 16 (F_t 13), ia g (Q_t 14) 30 (F_t 14)] [(0, .ref q_t)] [] := by
  obtain ⟨⟨hx, hb, hml, hown, hts⟩, hr, hK, hA, hlk⟩ := id E
  intro H locs ls hP hD hS hl
  refine lv_aload_n hx hb dX10_isClause_0 rfl (lv_at hl 0 rfl) ?_
  refine va_get (ci := 10) (v := .int (F_t 4 0)) (C := RX10) (T := TX10) (N := 38) hx hb hts (fun w h => .tail _ (u_inX10 w h)) hown hK.1 hP 0 rfl rfl 4 (by decide) (hts _ (.tail _ u_fl_X10_107)) (fun _ h9 => h9) rfl dX10_isClause_1 ?_
  refine lv_bipush (v := (115 : Int32)) hx hb dX10_isClause_4 (by decide) ?_
  refine lv_icmp_ne (tgt := 29) hx hb dX10_isClause_6 (by decide) (fun c_1 => ?_) (fun c_1 => ?_)
  · have h := ox_f c_1 h
    refine lv_aload_n hx hb dX10_isClause_29 rfl (lv_at hl 0 rfl) ?_
    refine va_get (ci := 10) (v := .int (F_t 9 0)) (C := RX10) (T := TX10) (N := 38) hx hb hts (fun w h => .tail _ (u_inX10 w h)) hown hK.1 hP 0 rfl rfl 9 (by decide) (hts _ (.tail _ u_fl_X10_127)) (fun _ h9 => h9) rfl dX10_isClause_30 ?_
    refine lv_if_ne (tgt := 42) hx hb dX10_isClause_33 (by decide) (fun c_2 => ?_) (fun c_2 => ?_)
    · have h := ox_f c_2 h
      refine lv_aload_n hx hb dX10_isClause_42 rfl (lv_at hl 0 rfl) ?_
      refine va_get (ci := 10) (v := .int (F_t 4 0)) (C := RX10) (T := TX10) (N := 38) hx hb hts (fun w h => .tail _ (u_inX10 w h)) hown hK.1 hP 0 rfl rfl 4 (by decide) (hts _ (.tail _ u_fl_X10_107)) (fun _ h9 => h9) rfl dX10_isClause_43 ?_
      refine lv_bipush (v := (112 : Int32)) hx hb dX10_isClause_46 (by decide) ?_
      refine lv_icmp_ne (tgt := 58) hx hb dX10_isClause_48 (by decide) (fun c_3 => ?_) (fun c_3 => ?_)
      · have h := ox_f c_3 h
        refine lv_aload_n hx hb dX10_isClause_58 rfl (lv_at hl 0 rfl) ?_
        refine va_get (ci := 10) (v := .int (F_t 4 0)) (C := RX10) (T := TX10) (N := 38) hx hb hts (fun w h => .tail _ (u_inX10 w h)) hown hK.1 hP 0 rfl rfl 4 (by decide) (hts _ (.tail _ u_fl_X10_107)) (fun _ h9 => h9) rfl dX10_isClause_59 ?_
        refine lv_bipush (v := (99 : Int32)) hx hb dX10_isClause_62 (by decide) ?_
        refine lv_icmp_ne (tgt := 74) hx hb dX10_isClause_64 (by decide) (fun c_4 => ?_) (fun c_4 => ?_)
        · have h := ox_f c_4 h
          refine lv_aload_n hx hb dX10_isClause_74 rfl (lv_at hl 0 rfl) ?_
          refine lv_iconst (v := (1 : Int32)) hx hb dX10_isClause_75 (by decide) ?_
          obtain ⟨v_5, hv_5, h⟩ := ox_bind h
          refine kVi ⟨hx, hb, hml, hown, hts⟩ (c_X10_fails l g q_t Q_t F_t (1 : Int32) v_5 hv_5 H.size) (gV u_ml_X10_116 u_im_X10_fails u_se_X10_fails u_ini_X10 u_co_X10_fails) hd_X10_fails ⟨rfl, rfl⟩ hK hP hD hS hA 0 10 rfl rfl [0] [0, 2, 3, 4] rfl rfl 1 rfl (w2 := [oX10 q_t Q_t (F_t 0 0) (F_t 2 0) (F_t 3 0) (F_t 4 0) (F_t 5 0) (F_t 6 0) v_5.2.1 v_5.2.2 (F_t 9 0) (F_t 10 0) (F_t 11 0) (F_t 12 0) (F_t 15 0) (F_t 16 0) (F_t 17 0) (F_t 23 0) (F_t 27 0) (F_t 28 0) (F_t 30 0), ia g (Q_t 1) 240 (F_t 1), ia g (Q_t 13) 16 (F_t 13), ia g (Q_t 14) 30 (F_t 14)]) rfl rfl (As := [.int (1 : Int32)]) (rest := []) rfl hl.1 rfl rfl dX10_isClause_76 (fun H locs hP hD hS => ?_)
          obtain ⟨hz_6, h⟩ := ox_ok h
          obtain rfl := Option.some.inj h
          exact k_zret hx hb hr hlk hz_6 hP hD hS dX10_isClause_79
        · have h := ox_t c_4 h
          refine lv_aload_n hx hb dX10_isClause_67 rfl (lv_at hl 0 rfl) ?_
          obtain ⟨v_7, hv_7, h⟩ := ox_bind h
          refine kVi ⟨hx, hb, hml, hown, hts⟩ (c_X10_isChannelItem l g q_t Q_t N F_t v_7 hv_7 H.size) (gV u_ml_X10_147 u_im_X10_isChannelItem u_se_X10_isChannelItem u_ini_X10 u_co_X10_isChannelItem) hd_X10_isChannelItem ⟨rfl, rfl⟩ hK hP hD hS hA 0 10 rfl rfl [0, 1, 2, 3] [0, 1, 2, 3] rfl rfl 4 rfl (w2 := [oX10 q_t Q_t (F_t 0 0) v_7.2.1 v_7.2.2.1 v_7.2.2.2.1 v_7.2.2.2.2.1 v_7.2.2.2.2.2.1 v_7.2.2.2.2.2.2.1 v_7.2.2.2.2.2.2.2.1 (F_t 9 0) (F_t 10 0) (F_t 11 0) v_7.2.2.2.2.2.2.2.2.1 (F_t 15 0) (F_t 16 0) (F_t 17 0) (F_t 23 0) (F_t 27 0) (F_t 28 0) (F_t 30 0), ia g (Q_t 1) 240 (F_t 1), ia g (Q_t 13) 16 (F_t 13), ia g (Q_t 14) 30 v_7.2.2.2.2.2.2.2.2.2]) rfl rfl (As := []) (rest := []) rfl hl.1 rfl rfl dX10_isClause_68 (fun H locs hP hD hS => ?_)
          refine lv_goto (tgt := 79) hx hb dX10_isClause_71 (by decide) ?_
          obtain ⟨hz_8, h⟩ := ox_ok h
          obtain rfl := Option.some.inj h
          exact k_zret hx hb hr hlk hz_8 hP hD hS dX10_isClause_79
      · have h := ox_t c_3 h
        refine lv_aload_n hx hb dX10_isClause_51 rfl (lv_at hl 0 rfl) ?_
        obtain ⟨v_9, hv_9, h⟩ := ox_bind h
        refine kVi ⟨hx, hb, hml, hown, hts⟩ (c_X10_isPlaceItem l g q_t Q_t N F_t v_9 hv_9 H.size) (gV u_ml_X10_144 u_im_X10_isPlaceItem u_se_X10_isPlaceItem u_ini_X10 u_co_X10_isPlaceItem) hd_X10_isPlaceItem ⟨rfl, rfl⟩ hK hP hD hS hA 0 10 rfl rfl [0, 1, 2] [0, 1, 2, 6] rfl rfl 3 rfl (w2 := [oX10 q_t Q_t (F_t 0 0) v_9.2.1 v_9.2.2.1 v_9.2.2.2.1 v_9.2.2.2.2.1 v_9.2.2.2.2.2.1 v_9.2.2.2.2.2.2.1 v_9.2.2.2.2.2.2.2.1 (F_t 9 0) (F_t 10 0) v_9.2.2.2.2.2.2.2.2.1 (F_t 12 0) (F_t 15 0) (F_t 16 0) (F_t 17 0) (F_t 23 0) (F_t 27 0) (F_t 28 0) (F_t 30 0), ia g (Q_t 1) 240 (F_t 1), ia g (Q_t 13) 16 v_9.2.2.2.2.2.2.2.2.2, ia g (Q_t 14) 30 (F_t 14)]) rfl rfl (As := []) (rest := []) rfl hl.1 rfl rfl dX10_isClause_52 (fun H locs hP hD hS => ?_)
        refine lv_goto (tgt := 79) hx hb dX10_isClause_55 (by decide) ?_
        obtain ⟨hz_10, h⟩ := ox_ok h
        obtain rfl := Option.some.inj h
        exact k_zret hx hb hr hlk hz_10 hP hD hS dX10_isClause_79
    · have h := ox_t c_2 h
      refine lv_aload_n hx hb dX10_isClause_36 rfl (lv_at hl 0 rfl) ?_
      refine lv_iconst (v := (1 : Int32)) hx hb dX10_isClause_37 (by decide) ?_
      obtain ⟨v_11, hv_11, h⟩ := ox_bind h
      refine kVi ⟨hx, hb, hml, hown, hts⟩ (c_X10_fails l g q_t Q_t F_t (1 : Int32) v_11 hv_11 H.size) (gV u_ml_X10_116 u_im_X10_fails u_se_X10_fails u_ini_X10 u_co_X10_fails) hd_X10_fails ⟨rfl, rfl⟩ hK hP hD hS hA 0 10 rfl rfl [0] [0, 2, 3, 4] rfl rfl 1 rfl (w2 := [oX10 q_t Q_t (F_t 0 0) (F_t 2 0) (F_t 3 0) (F_t 4 0) (F_t 5 0) (F_t 6 0) v_11.2.1 v_11.2.2 (F_t 9 0) (F_t 10 0) (F_t 11 0) (F_t 12 0) (F_t 15 0) (F_t 16 0) (F_t 17 0) (F_t 23 0) (F_t 27 0) (F_t 28 0) (F_t 30 0), ia g (Q_t 1) 240 (F_t 1), ia g (Q_t 13) 16 (F_t 13), ia g (Q_t 14) 30 (F_t 14)]) rfl rfl (As := [.int (1 : Int32)]) (rest := []) rfl hl.1 rfl rfl dX10_isClause_38 (fun H locs hP hD hS => ?_)
      obtain ⟨hz_12, h⟩ := ox_ok h
      obtain rfl := Option.some.inj h
      exact k_zret hx hb hr hlk hz_12 hP hD hS dX10_isClause_41
  · have h := ox_t c_1 h
    refine lv_aload_n hx hb dX10_isClause_9 rfl (lv_at hl 0 rfl) ?_
    refine va_get (ci := 10) (v := .int (F_t 9 0)) (C := RX10) (T := TX10) (N := 38) hx hb hts (fun w h => .tail _ (u_inX10 w h)) hown hK.1 hP 0 rfl rfl 9 (by decide) (hts _ (.tail _ u_fl_X10_127)) (fun _ h9 => h9) rfl dX10_isClause_10 ?_
    refine lv_if_eq (tgt := 24) hx hb dX10_isClause_13 (by decide) (fun c_13 => ?_) (fun c_13 => ?_)
    · have h := ox_t c_13 h
      refine lv_aload_n hx hb dX10_isClause_24 rfl (lv_at hl 0 rfl) ?_
      obtain ⟨v_14, hv_14, h⟩ := ox_bind h
      refine kVi ⟨hx, hb, hml, hown, hts⟩ (c_X10_isMostItem l g q_t Q_t N F_t v_14 hv_14 H.size) (gV u_ml_X10_141 u_im_X10_isMostItem u_se_X10_isMostItem u_ini_X10 u_co_X10_isMostItem) hd_X10_isMostItem ⟨rfl, rfl⟩ hK hP hD hS hA 0 10 rfl rfl [0, 1] [0, 1, 4, 5] rfl rfl 2 rfl (w2 := [oX10 q_t Q_t (F_t 0 0) v_14.2.1 v_14.2.2.1 v_14.2.2.2.1 v_14.2.2.2.2.1 v_14.2.2.2.2.2.1 v_14.2.2.2.2.2.2.1 v_14.2.2.2.2.2.2.2.1 v_14.2.2.2.2.2.2.2.2.1 v_14.2.2.2.2.2.2.2.2.2 (F_t 11 0) (F_t 12 0) (F_t 15 0) (F_t 16 0) (F_t 17 0) (F_t 23 0) (F_t 27 0) (F_t 28 0) (F_t 30 0), ia g (Q_t 1) 240 (F_t 1), ia g (Q_t 13) 16 (F_t 13), ia g (Q_t 14) 30 (F_t 14)]) rfl rfl (As := []) (rest := []) rfl hl.1 rfl rfl dX10_isClause_25 (fun H locs hP hD hS => ?_)
      obtain ⟨hz_15, h⟩ := ox_ok h
      obtain rfl := Option.some.inj h
      exact k_zret hx hb hr hlk hz_15 hP hD hS dX10_isClause_28
    · have h := ox_f c_13 h
      refine lv_aload_n hx hb dX10_isClause_16 rfl (lv_at hl 0 rfl) ?_
      refine lv_iconst (v := (3 : Int32)) hx hb dX10_isClause_17 (by decide) ?_
      obtain ⟨v_16, hv_16, h⟩ := ox_bind h
      refine kVi ⟨hx, hb, hml, hown, hts⟩ (c_X10_fails l g q_t Q_t F_t (3 : Int32) v_16 hv_16 H.size) (gV u_ml_X10_116 u_im_X10_fails u_se_X10_fails u_ini_X10 u_co_X10_fails) hd_X10_fails ⟨rfl, rfl⟩ hK hP hD hS hA 0 10 rfl rfl [0] [0, 2, 3, 4] rfl rfl 1 rfl (w2 := [oX10 q_t Q_t (F_t 0 0) (F_t 2 0) (F_t 3 0) (F_t 4 0) (F_t 5 0) (F_t 6 0) v_16.2.1 v_16.2.2 (F_t 9 0) (F_t 10 0) (F_t 11 0) (F_t 12 0) (F_t 15 0) (F_t 16 0) (F_t 17 0) (F_t 23 0) (F_t 27 0) (F_t 28 0) (F_t 30 0), ia g (Q_t 1) 240 (F_t 1), ia g (Q_t 13) 16 (F_t 13), ia g (Q_t 14) 30 (F_t 14)]) rfl rfl (As := [.int (3 : Int32)]) (rest := []) rfl hl.1 rfl rfl dX10_isClause_18 (fun H locs hP hD hS => ?_)
      refine lv_goto (tgt := 28) hx hb dX10_isClause_21 (by decide) ?_
      obtain ⟨hz_17, h⟩ := ox_ok h
      obtain rfl := Option.some.inj h
      exact k_zret hx hb hr hlk hz_17 hP hD hS dX10_isClause_28
set_option maxRecDepth 100000 in
theorem c_X10_isClause (l : Launch) (g : gG) (q_t : Nat) (Q_t : Ad) (N : Nat) (F_t : St) (o : Int32 × Int32 × Int32 × Int32 × Int32 × Int32 × Int32 × Int32 × Int32 × Int32 × Int32 × Int32 × (Nat → Int32) × (Nat → Int32)) (h : x_X10_isClause N F_t = some o) (sz : Nat) : MetI l yX10_isClause (.code yX10_isClause cX10_isClause 1 (some .boolean) :: gW) 4 88 [.ref q_t] o.1 g [oX10 q_t Q_t (F_t 0 0) (F_t 2 0) (F_t 3 0) (F_t 4 0) (F_t 5 0) (F_t 6 0) (F_t 7 0) (F_t 8 0) (F_t 9 0) (F_t 10 0) (F_t 11 0) (F_t 12 0) (F_t 15 0) (F_t 16 0) (F_t 17 0) (F_t 23 0) (F_t 27 0) (F_t 28 0) (F_t 30 0), ia g (Q_t 1) 240 (F_t 1), ia g (Q_t 13) 16 (F_t 13), ia g (Q_t 14) 30 (F_t 14)] [oX10 q_t Q_t (F_t 0 0) o.2.1 o.2.2.1 o.2.2.2.1 o.2.2.2.2.1 o.2.2.2.2.2.1 o.2.2.2.2.2.2.1 o.2.2.2.2.2.2.2.1 o.2.2.2.2.2.2.2.2.1 o.2.2.2.2.2.2.2.2.2.1 o.2.2.2.2.2.2.2.2.2.2.1 o.2.2.2.2.2.2.2.2.2.2.2.1 (F_t 15 0) (F_t 16 0) (F_t 17 0) (F_t 23 0) (F_t 27 0) (F_t 28 0) (F_t 30 0), ia g (Q_t 1) 240 (F_t 1), ia g (Q_t 13) 16 o.2.2.2.2.2.2.2.2.2.2.2.2.1, ia g (Q_t 14) 30 o.2.2.2.2.2.2.2.2.2.2.2.2.2] sz :=
  mkI (av := [.ref q_t]) (by decide +kernel) rfl (fun p e s m below meth c A E H locs ls hP hD hS hl => t_X10_isClause E q_t Q_t N F_t o h H locs ls hP hD hS hl) sz
def x_X10_isRead_b29 (N : Nat) (F_t : St) : Option ((Int32 × Int32 × Int32 × Int32 × Int32 × Int32 × Int32 × Int32 × Int32 × Int32 × Int32 × (Nat → Int32) × (Nat → Int32)) ⊕ ((Int32 × Int32 × Int32 × Int32 × Int32 × Int32 × Int32 × Int32 × Int32 × Int32 × Int32 × (Nat → Int32) × (Nat → Int32)) ⊕ (Int32 × Int32 × Int32 × Int32 × Int32 × Int32 × Int32 × Int32 × Int32 × Int32 × Int32 × (Nat → Int32) × (Nat → Int32)))) :=
  if (F_t 4 0) = (-2 : Int32) then (some (.inr (.inr ((F_t 2 0), (F_t 3 0), (F_t 4 0), (F_t 5 0), (F_t 6 0), (F_t 7 0), (F_t 8 0), (F_t 9 0), (F_t 10 0), (F_t 11 0), (F_t 12 0), (F_t 13), (F_t 14))))) else (Option.bind (x_X10_isClause N F_t) (fun v_3 => if v_3.1 = 0 then (some (.inr (.inl (v_3.2.1, v_3.2.2.1, v_3.2.2.2.1, v_3.2.2.2.2.1, v_3.2.2.2.2.2.1, v_3.2.2.2.2.2.2.1, v_3.2.2.2.2.2.2.2.1, v_3.2.2.2.2.2.2.2.2.1, v_3.2.2.2.2.2.2.2.2.2.1, v_3.2.2.2.2.2.2.2.2.2.2.1, v_3.2.2.2.2.2.2.2.2.2.2.2.1, v_3.2.2.2.2.2.2.2.2.2.2.2.2.1, v_3.2.2.2.2.2.2.2.2.2.2.2.2.2)))) else (Option.bind (x_X10_nextToken N (va_up (va_up (va_up (va_up (va_up (va_up (va_up (va_up (va_up (va_up (va_up (va_up (va_up F_t 2 (fun _ => v_3.2.1)) 3 (fun _ => v_3.2.2.1)) 4 (fun _ => v_3.2.2.2.1)) 5 (fun _ => v_3.2.2.2.2.1)) 6 (fun _ => v_3.2.2.2.2.2.1)) 7 (fun _ => v_3.2.2.2.2.2.2.1)) 8 (fun _ => v_3.2.2.2.2.2.2.2.1)) 9 (fun _ => v_3.2.2.2.2.2.2.2.2.1)) 10 (fun _ => v_3.2.2.2.2.2.2.2.2.2.1)) 11 (fun _ => v_3.2.2.2.2.2.2.2.2.2.2.1)) 12 (fun _ => v_3.2.2.2.2.2.2.2.2.2.2.2.1)) 13 v_3.2.2.2.2.2.2.2.2.2.2.2.2.1) 14 v_3.2.2.2.2.2.2.2.2.2.2.2.2.2)) (fun v_5 => some (.inl (v_5.1, v_5.2.1, v_5.2.2.1, v_5.2.2.2.1, v_5.2.2.2.2, v_3.2.2.2.2.2.2.1, v_3.2.2.2.2.2.2.2.1, v_3.2.2.2.2.2.2.2.2.1, v_3.2.2.2.2.2.2.2.2.2.1, v_3.2.2.2.2.2.2.2.2.2.2.1, v_3.2.2.2.2.2.2.2.2.2.2.2.1, v_3.2.2.2.2.2.2.2.2.2.2.2.2.1, v_3.2.2.2.2.2.2.2.2.2.2.2.2.2))))))
set_option maxHeartbeats 4000000 in
set_option maxRecDepth 100000 in
theorem t_X10_isRead_b29 {p : Program} {l : Launch} {e : Env} {s : State} {m : MethodId} {args : Array Value} {below : List Frame} {meth : Method} {c : Code} {g : gG} {A : Nat → Prop} {Q : State → Prop} (E : En p s m args meth c g A cX10_isRead 1 (.code yX10_isRead cX10_isRead 1 (some .boolean) :: gW) RX10 (some .boolean)) (q_t : Nat) (Q_t : Ad) (N : Nat) (F_t : St) (o : (Int32 × Int32 × Int32 × Int32 × Int32 × Int32 × Int32 × Int32 × Int32 × Int32 × Int32 × (Nat → Int32) × (Nat → Int32)) ⊕ ((Int32 × Int32 × Int32 × Int32 × Int32 × Int32 × Int32 × Int32 × Int32 × Int32 × Int32 × (Nat → Int32) × (Nat → Int32)) ⊕ (Int32 × Int32 × Int32 × Int32 × Int32 × Int32 × Int32 × Int32 × Int32 × Int32 × Int32 × (Nat → Int32) × (Nat → Int32)))) (h : x_X10_isRead_b29 N F_t = some o) (hc : ∀ z, o = .inl z → WA p l e (rM 5 108) s m args below meth c g A Q 1 29 [oX10 q_t Q_t (F_t 0 0) z.1 z.2.1 z.2.2.1 z.2.2.2.1 z.2.2.2.2.1 z.2.2.2.2.2.1 z.2.2.2.2.2.2.1 z.2.2.2.2.2.2.2.1 z.2.2.2.2.2.2.2.2.1 z.2.2.2.2.2.2.2.2.2.1 z.2.2.2.2.2.2.2.2.2.2.1 (F_t 15 0) (F_t 16 0) (F_t 17 0) (F_t 23 0) (F_t 27 0) (F_t 28 0) (F_t 30 0), ia g (Q_t 1) 240 (F_t 1), ia g (Q_t 13) 16 z.2.2.2.2.2.2.2.2.2.2.2.1, ia g (Q_t 14) 30 z.2.2.2.2.2.2.2.2.2.2.2.2] [(0, .ref q_t)] []) (he0 : ∀ v, o = .inr (.inl v) → WA p l e (rM 5 108) s m args below meth c g A Q 1 45 [oX10 q_t Q_t (F_t 0 0) v.1 v.2.1 v.2.2.1 v.2.2.2.1 v.2.2.2.2.1 v.2.2.2.2.2.1 v.2.2.2.2.2.2.1 v.2.2.2.2.2.2.2.1 v.2.2.2.2.2.2.2.2.1 v.2.2.2.2.2.2.2.2.2.1 v.2.2.2.2.2.2.2.2.2.2.1 (F_t 15 0) (F_t 16 0) (F_t 17 0) (F_t 23 0) (F_t 27 0) (F_t 28 0) (F_t 30 0), ia g (Q_t 1) 240 (F_t 1), ia g (Q_t 13) 16 v.2.2.2.2.2.2.2.2.2.2.2.1, ia g (Q_t 14) 30 v.2.2.2.2.2.2.2.2.2.2.2.2] [] []) (he1 : ∀ v, o = .inr (.inr v) → WA p l e (rM 5 108) s m args below meth c g A Q 1 54 [oX10 q_t Q_t (F_t 0 0) v.1 v.2.1 v.2.2.1 v.2.2.2.1 v.2.2.2.2.1 v.2.2.2.2.2.1 v.2.2.2.2.2.2.1 v.2.2.2.2.2.2.2.1 v.2.2.2.2.2.2.2.2.1 v.2.2.2.2.2.2.2.2.2.1 v.2.2.2.2.2.2.2.2.2.2.1 (F_t 15 0) (F_t 16 0) (F_t 17 0) (F_t 23 0) (F_t 27 0) (F_t 28 0) (F_t 30 0), ia g (Q_t 1) 240 (F_t 1), ia g (Q_t 13) 16 v.2.2.2.2.2.2.2.2.2.2.2.1, ia g (Q_t 14) 30 v.2.2.2.2.2.2.2.2.2.2.2.2] [] []) : WA p l e (rM 5 108) s m args below meth c g A Q 1 29 [oX10 q_t Q_t (F_t 0 0) (F_t 2 0) (F_t 3 0) (F_t 4 0) (F_t 5 0) (F_t 6 0) (F_t 7 0) (F_t 8 0) (F_t 9 0) (F_t 10 0) (F_t 11 0) (F_t 12 0) (F_t 15 0) (F_t 16 0) (F_t 17 0) (F_t 23 0) (F_t 27 0) (F_t 28 0) (F_t 30 0), ia g (Q_t 1) 240 (F_t 1), ia g (Q_t 13) 16 (F_t 13), ia g (Q_t 14) 30 (F_t 14)] [(0, .ref q_t)] [] := by
  obtain ⟨⟨hx, hb, hml, hown, hts⟩, hr, hK, hA, hlk⟩ := id E
  intro H locs ls hP hD hS hl
  refine lv_aload_n hx hb dX10_isRead_29 rfl (lv_at hl 0 rfl) ?_
  refine va_get (ci := 10) (v := .int (F_t 4 0)) (C := RX10) (T := TX10) (N := 38) hx hb hts (fun w h => .tail _ (u_inX10 w h)) hown hK.1 hP 0 rfl rfl 4 (by decide) (hts _ (.tail _ u_fl_X10_107)) (fun _ h9 => h9) rfl dX10_isRead_30 ?_
  refine lv_bipush (v := (-2 : Int32)) hx hb dX10_isRead_33 (by decide) ?_
  refine lv_icmp_eq (tgt := 54) hx hb dX10_isRead_35 (by decide) (fun c_2 => ?_) (fun c_2 => ?_)
  · have h := ox_t c_2 h
    obtain rfl := Option.some.inj h
    exact he1 _ rfl H locs ls hP hD hS (lv_sub hl [] rfl)
  · have h := ox_f c_2 h
    refine lv_aload_n hx hb dX10_isRead_38 rfl (lv_at hl 0 rfl) ?_
    obtain ⟨v_3, hv_3, h⟩ := ox_bind h
    refine kVi ⟨hx, hb, hml, hown, hts⟩ (c_X10_isClause l g q_t Q_t N F_t v_3 hv_3 H.size) (gV u_ml_X10_150 u_im_X10_isClause u_se_X10_isClause u_ini_X10 u_co_X10_isClause) hd_X10_isClause ⟨rfl, rfl⟩ hK hP hD hS hA 0 10 rfl rfl [0, 1, 2, 3] [0, 1, 2, 3] rfl rfl 4 rfl (w2 := [oX10 q_t Q_t (F_t 0 0) v_3.2.1 v_3.2.2.1 v_3.2.2.2.1 v_3.2.2.2.2.1 v_3.2.2.2.2.2.1 v_3.2.2.2.2.2.2.1 v_3.2.2.2.2.2.2.2.1 v_3.2.2.2.2.2.2.2.2.1 v_3.2.2.2.2.2.2.2.2.2.1 v_3.2.2.2.2.2.2.2.2.2.2.1 v_3.2.2.2.2.2.2.2.2.2.2.2.1 (F_t 15 0) (F_t 16 0) (F_t 17 0) (F_t 23 0) (F_t 27 0) (F_t 28 0) (F_t 30 0), ia g (Q_t 1) 240 (F_t 1), ia g (Q_t 13) 16 v_3.2.2.2.2.2.2.2.2.2.2.2.2.1, ia g (Q_t 14) 30 v_3.2.2.2.2.2.2.2.2.2.2.2.2.2]) rfl rfl (As := []) (rest := []) rfl hl.1 rfl rfl dX10_isRead_39 (fun H locs hP hD hS => ?_)
    refine lv_if_ne (tgt := 47) hx hb dX10_isRead_42 (by decide) (fun c_4 => ?_) (fun c_4 => ?_)
    · have h := ox_f c_4 h
      refine lv_aload_n hx hb dX10_isRead_47 rfl (lv_at hl 0 rfl) ?_
      obtain ⟨v_5, hv_5, h⟩ := ox_bind h
      refine kVv ⟨hx, hb, hml, hown, hts⟩ (c_X10_nextToken l g q_t Q_t N (va_up (va_up (va_up (va_up (va_up (va_up (va_up (va_up (va_up (va_up (va_up (va_up (va_up F_t 2 (fun _ => v_3.2.1)) 3 (fun _ => v_3.2.2.1)) 4 (fun _ => v_3.2.2.2.1)) 5 (fun _ => v_3.2.2.2.2.1)) 6 (fun _ => v_3.2.2.2.2.2.1)) 7 (fun _ => v_3.2.2.2.2.2.2.1)) 8 (fun _ => v_3.2.2.2.2.2.2.2.1)) 9 (fun _ => v_3.2.2.2.2.2.2.2.2.1)) 10 (fun _ => v_3.2.2.2.2.2.2.2.2.2.1)) 11 (fun _ => v_3.2.2.2.2.2.2.2.2.2.2.1)) 12 (fun _ => v_3.2.2.2.2.2.2.2.2.2.2.2.1)) 13 v_3.2.2.2.2.2.2.2.2.2.2.2.2.1) 14 v_3.2.2.2.2.2.2.2.2.2.2.2.2.2) v_5 hv_5 H.size) (gV u_ml_X10_113 u_im_X10_nextToken u_se_X10_nextToken u_ini_X10 u_co_X10_nextToken) hd_X10_nextToken ⟨rfl, rfl⟩ hK hP hD hS hA 0 10 rfl rfl [0, 1] [0, 1, 4, 5] rfl rfl 2 rfl (w2 := [oX10 q_t Q_t (F_t 0 0) v_5.1 v_5.2.1 v_5.2.2.1 v_5.2.2.2.1 v_5.2.2.2.2 v_3.2.2.2.2.2.2.1 v_3.2.2.2.2.2.2.2.1 v_3.2.2.2.2.2.2.2.2.1 v_3.2.2.2.2.2.2.2.2.2.1 v_3.2.2.2.2.2.2.2.2.2.2.1 v_3.2.2.2.2.2.2.2.2.2.2.2.1 (F_t 15 0) (F_t 16 0) (F_t 17 0) (F_t 23 0) (F_t 27 0) (F_t 28 0) (F_t 30 0), ia g (Q_t 1) 240 (F_t 1), ia g (Q_t 13) 16 v_3.2.2.2.2.2.2.2.2.2.2.2.2.1, ia g (Q_t 14) 30 v_3.2.2.2.2.2.2.2.2.2.2.2.2.2]) rfl rfl (As := []) (rest := []) rfl hl.1 rfl rfl dX10_isRead_48 (fun H locs hP hD hS => ?_)
      refine lv_goto (tgt := 29) hx hb dX10_isRead_51 (by decide) ?_
      obtain rfl := Option.some.inj h
      exact hc _ rfl H locs ls hP hD hS hl
    · have h := ox_t c_4 h
      obtain rfl := Option.some.inj h
      exact he0 _ rfl H locs ls hP hD hS (lv_sub hl [] rfl)
def x_X10_isRead (N : Nat) (F_t : St) : Option (Int32 × Int32 × Int32 × Int32 × Int32 × Int32 × Int32 × Int32 × Int32 × Int32 × Int32 × Int32 × (Nat → Int32) × (Nat → Int32)) :=
  Option.bind (x_X10_nextToken N (va_up (va_up (va_up (va_up (va_up F_t 2 (fun _ => (0 : Int32))) 9 (fun _ => (0 : Int32))) 10 (fun _ => (0 : Int32))) 11 (fun _ => (0 : Int32))) 12 (fun _ => (0 : Int32)))) (fun v_1 => Option.bind (lpc (fun (z : Int32 × Int32 × Int32 × Int32 × Int32 × Int32 × Int32 × Int32 × Int32 × Int32 × Int32 × (Nat → Int32) × (Nat → Int32)) => x_X10_isRead_b29 N (va_up (va_up (va_up (va_up (va_up (va_up (va_up (va_up (va_up (va_up (va_up (va_up (va_up F_t 2 (fun _ => z.1)) 3 (fun _ => z.2.1)) 4 (fun _ => z.2.2.1)) 5 (fun _ => z.2.2.2.1)) 6 (fun _ => z.2.2.2.2.1)) 7 (fun _ => z.2.2.2.2.2.1)) 8 (fun _ => z.2.2.2.2.2.2.1)) 9 (fun _ => z.2.2.2.2.2.2.2.1)) 10 (fun _ => z.2.2.2.2.2.2.2.2.1)) 11 (fun _ => z.2.2.2.2.2.2.2.2.2.1)) 12 (fun _ => z.2.2.2.2.2.2.2.2.2.2.1)) 13 z.2.2.2.2.2.2.2.2.2.2.2.1) 14 z.2.2.2.2.2.2.2.2.2.2.2.2)) N (v_1.1, v_1.2.1, v_1.2.2.1, v_1.2.2.2.1, v_1.2.2.2.2, (F_t 7 0), (F_t 8 0), (0 : Int32), (0 : Int32), (0 : Int32), (0 : Int32), (F_t 13), (F_t 14))) (fun v_6 => Sum.elim (fun v_6 => some ((0 : Int32), v_6.1, v_6.2.1, v_6.2.2.1, v_6.2.2.2.1, v_6.2.2.2.2.1, v_6.2.2.2.2.2.1, v_6.2.2.2.2.2.2.1, v_6.2.2.2.2.2.2.2.1, v_6.2.2.2.2.2.2.2.2.1, v_6.2.2.2.2.2.2.2.2.2.1, v_6.2.2.2.2.2.2.2.2.2.2.1, v_6.2.2.2.2.2.2.2.2.2.2.2.1, v_6.2.2.2.2.2.2.2.2.2.2.2.2)) (fun v_6 => some ((1 : Int32), v_6.1, v_6.2.1, v_6.2.2.1, v_6.2.2.2.1, v_6.2.2.2.2.1, v_6.2.2.2.2.2.1, v_6.2.2.2.2.2.2.1, v_6.2.2.2.2.2.2.2.1, v_6.2.2.2.2.2.2.2.2.1, v_6.2.2.2.2.2.2.2.2.2.1, v_6.2.2.2.2.2.2.2.2.2.2.1, v_6.2.2.2.2.2.2.2.2.2.2.2.1, v_6.2.2.2.2.2.2.2.2.2.2.2.2)) v_6))
set_option maxHeartbeats 4000000 in
set_option maxRecDepth 100000 in
theorem t_X10_isRead {p : Program} {l : Launch} {e : Env} {s : State} {m : MethodId} {args : Array Value} {below : List Frame} {meth : Method} {c : Code} {g : gG} {A : Nat → Prop} (E : En p s m args meth c g A cX10_isRead 1 (.code yX10_isRead cX10_isRead 1 (some .boolean) :: gW) RX10 (some .boolean)) (q_t : Nat) (Q_t : Ad) (N : Nat) (F_t : St) (o : Int32 × Int32 × Int32 × Int32 × Int32 × Int32 × Int32 × Int32 × Int32 × Int32 × Int32 × Int32 × (Nat → Int32) × (Nat → Int32)) (h : x_X10_isRead N F_t = some o) : WA p l e (rM 5 108) s m args below meth c g A (MQ below (QI g A o.1 [oX10 q_t Q_t (F_t 0 0) o.2.1 o.2.2.1 o.2.2.2.1 o.2.2.2.2.1 o.2.2.2.2.2.1 o.2.2.2.2.2.2.1 o.2.2.2.2.2.2.2.1 o.2.2.2.2.2.2.2.2.1 o.2.2.2.2.2.2.2.2.2.1 o.2.2.2.2.2.2.2.2.2.2.1 o.2.2.2.2.2.2.2.2.2.2.2.1 (F_t 15 0) (F_t 16 0) (F_t 17 0) (F_t 23 0) (F_t 27 0) (F_t 28 0) (F_t 30 0), ia g (Q_t 1) 240 (F_t 1), ia g (Q_t 13) 16 o.2.2.2.2.2.2.2.2.2.2.2.2.1, ia g (Q_t 14) 30 o.2.2.2.2.2.2.2.2.2.2.2.2.2]) args s 0 0 A) 1 0 [oX10 q_t Q_t (F_t 0 0) (F_t 2 0) (F_t 3 0) (F_t 4 0) (F_t 5 0) (F_t 6 0) (F_t 7 0) (F_t 8 0) (F_t 9 0) (F_t 10 0) (F_t 11 0) (F_t 12 0) (F_t 15 0) (F_t 16 0) (F_t 17 0) (F_t 23 0) (F_t 27 0) (F_t 28 0) (F_t 30 0), ia g (Q_t 1) 240 (F_t 1), ia g (Q_t 13) 16 (F_t 13), ia g (Q_t 14) 30 (F_t 14)] [(0, .ref q_t)] [] := by
  obtain ⟨⟨hx, hb, hml, hown, hts⟩, hr, hK, hA, hlk⟩ := id E
  intro H locs ls hP hD hS hl
  refine lv_aload_n hx hb dX10_isRead_0 rfl (lv_at hl 0 rfl) ?_
  refine lv_iconst (v := (0 : Int32)) hx hb dX10_isRead_1 (by decide) ?_
  refine va_put (ci := 10) (v := .int (0 : Int32)) (ty := .int) (C := RX10) (T := TX10) (N := 38) hx hb hts (fun w h => .tail _ (u_inX10 w h)) tyX10 tyX10_ok nmX10 hown hK.1 hP hD hS 0 rfl rfl 2 (by decide) (hts _ (.tail _ u_fl_X10_95)) (fun _ h9 => h9) rfl (tyX10_ok 2 (by decide)) rfl rfl (Nat.le_of_ble_eq_true rfl) dX10_isRead_2 (fun H locs hP hD hS => ?_)
  have hP : va_P g.1 vwCl [oX10 q_t Q_t (F_t 0 0) (0 : Int32) (F_t 3 0) (F_t 4 0) (F_t 5 0) (F_t 6 0) (F_t 7 0) (F_t 8 0) (F_t 9 0) (F_t 10 0) (F_t 11 0) (F_t 12 0) (F_t 15 0) (F_t 16 0) (F_t 17 0) (F_t 23 0) (F_t 27 0) (F_t 28 0) (F_t 30 0), ia g (Q_t 1) 240 (F_t 1), ia g (Q_t 13) 16 (F_t 13), ia g (Q_t 14) 30 (F_t 14)] H := hP
  have hD : va_D A [oX10 q_t Q_t (F_t 0 0) (0 : Int32) (F_t 3 0) (F_t 4 0) (F_t 5 0) (F_t 6 0) (F_t 7 0) (F_t 8 0) (F_t 9 0) (F_t 10 0) (F_t 11 0) (F_t 12 0) (F_t 15 0) (F_t 16 0) (F_t 17 0) (F_t 23 0) (F_t 27 0) (F_t 28 0) (F_t 30 0), ia g (Q_t 1) 240 (F_t 1), ia g (Q_t 13) 16 (F_t 13), ia g (Q_t 14) 30 (F_t 14)] := hD
  refine lv_aload_n hx hb dX10_isRead_5 rfl (lv_at hl 0 rfl) ?_
  refine lv_iconst (v := (0 : Int32)) hx hb dX10_isRead_6 (by decide) ?_
  refine va_put (ci := 10) (v := .int (0 : Int32)) (ty := .boolean) (C := RX10) (T := TX10) (N := 38) hx hb hts (fun w h => .tail _ (u_inX10 w h)) tyX10 tyX10_ok nmX10 hown hK.1 hP hD hS 0 rfl rfl 9 (by decide) (hts _ (.tail _ u_fl_X10_127)) (fun _ h9 => h9) rfl (tyX10_ok 9 (by decide)) rfl rfl (Nat.le_of_ble_eq_true rfl) dX10_isRead_7 (fun H locs hP hD hS => ?_)
  have hP : va_P g.1 vwCl [oX10 q_t Q_t (F_t 0 0) (0 : Int32) (F_t 3 0) (F_t 4 0) (F_t 5 0) (F_t 6 0) (F_t 7 0) (F_t 8 0) (0 : Int32) (F_t 10 0) (F_t 11 0) (F_t 12 0) (F_t 15 0) (F_t 16 0) (F_t 17 0) (F_t 23 0) (F_t 27 0) (F_t 28 0) (F_t 30 0), ia g (Q_t 1) 240 (F_t 1), ia g (Q_t 13) 16 (F_t 13), ia g (Q_t 14) 30 (F_t 14)] H := hP
  have hD : va_D A [oX10 q_t Q_t (F_t 0 0) (0 : Int32) (F_t 3 0) (F_t 4 0) (F_t 5 0) (F_t 6 0) (F_t 7 0) (F_t 8 0) (0 : Int32) (F_t 10 0) (F_t 11 0) (F_t 12 0) (F_t 15 0) (F_t 16 0) (F_t 17 0) (F_t 23 0) (F_t 27 0) (F_t 28 0) (F_t 30 0), ia g (Q_t 1) 240 (F_t 1), ia g (Q_t 13) 16 (F_t 13), ia g (Q_t 14) 30 (F_t 14)] := hD
  refine lv_aload_n hx hb dX10_isRead_10 rfl (lv_at hl 0 rfl) ?_
  refine lv_iconst (v := (0 : Int32)) hx hb dX10_isRead_11 (by decide) ?_
  refine va_put (ci := 10) (v := .int (0 : Int32)) (ty := .int) (C := RX10) (T := TX10) (N := 38) hx hb hts (fun w h => .tail _ (u_inX10 w h)) tyX10 tyX10_ok nmX10 hown hK.1 hP hD hS 0 rfl rfl 10 (by decide) (hts _ (.tail _ u_fl_X10_124)) (fun _ h9 => h9) rfl (tyX10_ok 10 (by decide)) rfl rfl (Nat.le_of_ble_eq_true rfl) dX10_isRead_12 (fun H locs hP hD hS => ?_)
  have hP : va_P g.1 vwCl [oX10 q_t Q_t (F_t 0 0) (0 : Int32) (F_t 3 0) (F_t 4 0) (F_t 5 0) (F_t 6 0) (F_t 7 0) (F_t 8 0) (0 : Int32) (0 : Int32) (F_t 11 0) (F_t 12 0) (F_t 15 0) (F_t 16 0) (F_t 17 0) (F_t 23 0) (F_t 27 0) (F_t 28 0) (F_t 30 0), ia g (Q_t 1) 240 (F_t 1), ia g (Q_t 13) 16 (F_t 13), ia g (Q_t 14) 30 (F_t 14)] H := hP
  have hD : va_D A [oX10 q_t Q_t (F_t 0 0) (0 : Int32) (F_t 3 0) (F_t 4 0) (F_t 5 0) (F_t 6 0) (F_t 7 0) (F_t 8 0) (0 : Int32) (0 : Int32) (F_t 11 0) (F_t 12 0) (F_t 15 0) (F_t 16 0) (F_t 17 0) (F_t 23 0) (F_t 27 0) (F_t 28 0) (F_t 30 0), ia g (Q_t 1) 240 (F_t 1), ia g (Q_t 13) 16 (F_t 13), ia g (Q_t 14) 30 (F_t 14)] := hD
  refine lv_aload_n hx hb dX10_isRead_15 rfl (lv_at hl 0 rfl) ?_
  refine lv_iconst (v := (0 : Int32)) hx hb dX10_isRead_16 (by decide) ?_
  refine va_put (ci := 10) (v := .int (0 : Int32)) (ty := .int) (C := RX10) (T := TX10) (N := 38) hx hb hts (fun w h => .tail _ (u_inX10 w h)) tyX10 tyX10_ok nmX10 hown hK.1 hP hD hS 0 rfl rfl 11 (by decide) (hts _ (.tail _ u_fl_X10_135)) (fun _ h9 => h9) rfl (tyX10_ok 11 (by decide)) rfl rfl (Nat.le_of_ble_eq_true rfl) dX10_isRead_17 (fun H locs hP hD hS => ?_)
  have hP : va_P g.1 vwCl [oX10 q_t Q_t (F_t 0 0) (0 : Int32) (F_t 3 0) (F_t 4 0) (F_t 5 0) (F_t 6 0) (F_t 7 0) (F_t 8 0) (0 : Int32) (0 : Int32) (0 : Int32) (F_t 12 0) (F_t 15 0) (F_t 16 0) (F_t 17 0) (F_t 23 0) (F_t 27 0) (F_t 28 0) (F_t 30 0), ia g (Q_t 1) 240 (F_t 1), ia g (Q_t 13) 16 (F_t 13), ia g (Q_t 14) 30 (F_t 14)] H := hP
  have hD : va_D A [oX10 q_t Q_t (F_t 0 0) (0 : Int32) (F_t 3 0) (F_t 4 0) (F_t 5 0) (F_t 6 0) (F_t 7 0) (F_t 8 0) (0 : Int32) (0 : Int32) (0 : Int32) (F_t 12 0) (F_t 15 0) (F_t 16 0) (F_t 17 0) (F_t 23 0) (F_t 27 0) (F_t 28 0) (F_t 30 0), ia g (Q_t 1) 240 (F_t 1), ia g (Q_t 13) 16 (F_t 13), ia g (Q_t 14) 30 (F_t 14)] := hD
  refine lv_aload_n hx hb dX10_isRead_20 rfl (lv_at hl 0 rfl) ?_
  refine lv_iconst (v := (0 : Int32)) hx hb dX10_isRead_21 (by decide) ?_
  refine va_put (ci := 10) (v := .int (0 : Int32)) (ty := .int) (C := RX10) (T := TX10) (N := 38) hx hb hts (fun w h => .tail _ (u_inX10 w h)) tyX10 tyX10_ok nmX10 hown hK.1 hP hD hS 0 rfl rfl 12 (by decide) (hts _ (.tail _ u_fl_X10_138)) (fun _ h9 => h9) rfl (tyX10_ok 12 (by decide)) rfl rfl (Nat.le_of_ble_eq_true rfl) dX10_isRead_22 (fun H locs hP hD hS => ?_)
  have hP : va_P g.1 vwCl [oX10 q_t Q_t (F_t 0 0) (0 : Int32) (F_t 3 0) (F_t 4 0) (F_t 5 0) (F_t 6 0) (F_t 7 0) (F_t 8 0) (0 : Int32) (0 : Int32) (0 : Int32) (0 : Int32) (F_t 15 0) (F_t 16 0) (F_t 17 0) (F_t 23 0) (F_t 27 0) (F_t 28 0) (F_t 30 0), ia g (Q_t 1) 240 (F_t 1), ia g (Q_t 13) 16 (F_t 13), ia g (Q_t 14) 30 (F_t 14)] H := hP
  have hD : va_D A [oX10 q_t Q_t (F_t 0 0) (0 : Int32) (F_t 3 0) (F_t 4 0) (F_t 5 0) (F_t 6 0) (F_t 7 0) (F_t 8 0) (0 : Int32) (0 : Int32) (0 : Int32) (0 : Int32) (F_t 15 0) (F_t 16 0) (F_t 17 0) (F_t 23 0) (F_t 27 0) (F_t 28 0) (F_t 30 0), ia g (Q_t 1) 240 (F_t 1), ia g (Q_t 13) 16 (F_t 13), ia g (Q_t 14) 30 (F_t 14)] := hD
  refine lv_aload_n hx hb dX10_isRead_25 rfl (lv_at hl 0 rfl) ?_
  obtain ⟨v_1, hv_1, h⟩ := ox_bind h
  refine kVv ⟨hx, hb, hml, hown, hts⟩ (c_X10_nextToken l g q_t Q_t N (va_up (va_up (va_up (va_up (va_up F_t 2 (fun _ => (0 : Int32))) 9 (fun _ => (0 : Int32))) 10 (fun _ => (0 : Int32))) 11 (fun _ => (0 : Int32))) 12 (fun _ => (0 : Int32))) v_1 hv_1 H.size) (gV u_ml_X10_113 u_im_X10_nextToken u_se_X10_nextToken u_ini_X10 u_co_X10_nextToken) hd_X10_nextToken ⟨rfl, rfl⟩ hK hP hD hS hA 0 10 rfl rfl [0, 1] [0, 1, 4, 5] rfl rfl 2 rfl (w2 := [oX10 q_t Q_t (F_t 0 0) v_1.1 v_1.2.1 v_1.2.2.1 v_1.2.2.2.1 v_1.2.2.2.2 (F_t 7 0) (F_t 8 0) (0 : Int32) (0 : Int32) (0 : Int32) (0 : Int32) (F_t 15 0) (F_t 16 0) (F_t 17 0) (F_t 23 0) (F_t 27 0) (F_t 28 0) (F_t 30 0), ia g (Q_t 1) 240 (F_t 1), ia g (Q_t 13) 16 (F_t 13), ia g (Q_t 14) 30 (F_t 14)]) rfl rfl (As := []) (rest := []) rfl hl.1 rfl rfl dX10_isRead_26 (fun H locs hP hD hS => ?_)
  obtain ⟨v_6, hv_6, h⟩ := ox_bind h
  refine lpc_W (Wh := fun (z : Int32 × Int32 × Int32 × Int32 × Int32 × Int32 × Int32 × Int32 × Int32 × Int32 × Int32 × (Nat → Int32) × (Nat → Int32)) => WA p l e (rM 5 108) s m args below meth c g A (MQ below (QI g A o.1 [oX10 q_t Q_t (F_t 0 0) o.2.1 o.2.2.1 o.2.2.2.1 o.2.2.2.2.1 o.2.2.2.2.2.1 o.2.2.2.2.2.2.1 o.2.2.2.2.2.2.2.1 o.2.2.2.2.2.2.2.2.1 o.2.2.2.2.2.2.2.2.2.1 o.2.2.2.2.2.2.2.2.2.2.1 o.2.2.2.2.2.2.2.2.2.2.2.1 (F_t 15 0) (F_t 16 0) (F_t 17 0) (F_t 23 0) (F_t 27 0) (F_t 28 0) (F_t 30 0), ia g (Q_t 1) 240 (F_t 1), ia g (Q_t 13) 16 o.2.2.2.2.2.2.2.2.2.2.2.2.1, ia g (Q_t 14) 30 o.2.2.2.2.2.2.2.2.2.2.2.2.2]) args s 0 0 A) 1 29 [oX10 q_t Q_t (F_t 0 0) z.1 z.2.1 z.2.2.1 z.2.2.2.1 z.2.2.2.2.1 z.2.2.2.2.2.1 z.2.2.2.2.2.2.1 z.2.2.2.2.2.2.2.1 z.2.2.2.2.2.2.2.2.1 z.2.2.2.2.2.2.2.2.2.1 z.2.2.2.2.2.2.2.2.2.2.1 (F_t 15 0) (F_t 16 0) (F_t 17 0) (F_t 23 0) (F_t 27 0) (F_t 28 0) (F_t 30 0), ia g (Q_t 1) 240 (F_t 1), ia g (Q_t 13) 16 z.2.2.2.2.2.2.2.2.2.2.2.1, ia g (Q_t 14) 30 z.2.2.2.2.2.2.2.2.2.2.2.2] [(0, .ref q_t)] []) (We := Sum.elim (fun (v : Int32 × Int32 × Int32 × Int32 × Int32 × Int32 × Int32 × Int32 × Int32 × Int32 × Int32 × (Nat → Int32) × (Nat → Int32)) => WA p l e (rM 5 108) s m args below meth c g A (MQ below (QI g A o.1 [oX10 q_t Q_t (F_t 0 0) o.2.1 o.2.2.1 o.2.2.2.1 o.2.2.2.2.1 o.2.2.2.2.2.1 o.2.2.2.2.2.2.1 o.2.2.2.2.2.2.2.1 o.2.2.2.2.2.2.2.2.1 o.2.2.2.2.2.2.2.2.2.1 o.2.2.2.2.2.2.2.2.2.2.1 o.2.2.2.2.2.2.2.2.2.2.2.1 (F_t 15 0) (F_t 16 0) (F_t 17 0) (F_t 23 0) (F_t 27 0) (F_t 28 0) (F_t 30 0), ia g (Q_t 1) 240 (F_t 1), ia g (Q_t 13) 16 o.2.2.2.2.2.2.2.2.2.2.2.2.1, ia g (Q_t 14) 30 o.2.2.2.2.2.2.2.2.2.2.2.2.2]) args s 0 0 A) 1 45 [oX10 q_t Q_t (F_t 0 0) v.1 v.2.1 v.2.2.1 v.2.2.2.1 v.2.2.2.2.1 v.2.2.2.2.2.1 v.2.2.2.2.2.2.1 v.2.2.2.2.2.2.2.1 v.2.2.2.2.2.2.2.2.1 v.2.2.2.2.2.2.2.2.2.1 v.2.2.2.2.2.2.2.2.2.2.1 (F_t 15 0) (F_t 16 0) (F_t 17 0) (F_t 23 0) (F_t 27 0) (F_t 28 0) (F_t 30 0), ia g (Q_t 1) 240 (F_t 1), ia g (Q_t 13) 16 v.2.2.2.2.2.2.2.2.2.2.2.1, ia g (Q_t 14) 30 v.2.2.2.2.2.2.2.2.2.2.2.2] [] []) (fun (v : Int32 × Int32 × Int32 × Int32 × Int32 × Int32 × Int32 × Int32 × Int32 × Int32 × Int32 × (Nat → Int32) × (Nat → Int32)) => WA p l e (rM 5 108) s m args below meth c g A (MQ below (QI g A o.1 [oX10 q_t Q_t (F_t 0 0) o.2.1 o.2.2.1 o.2.2.2.1 o.2.2.2.2.1 o.2.2.2.2.2.1 o.2.2.2.2.2.2.1 o.2.2.2.2.2.2.2.1 o.2.2.2.2.2.2.2.2.1 o.2.2.2.2.2.2.2.2.2.1 o.2.2.2.2.2.2.2.2.2.2.1 o.2.2.2.2.2.2.2.2.2.2.2.1 (F_t 15 0) (F_t 16 0) (F_t 17 0) (F_t 23 0) (F_t 27 0) (F_t 28 0) (F_t 30 0), ia g (Q_t 1) 240 (F_t 1), ia g (Q_t 13) 16 o.2.2.2.2.2.2.2.2.2.2.2.2.1, ia g (Q_t 14) 30 o.2.2.2.2.2.2.2.2.2.2.2.2.2]) args s 0 0 A) 1 54 [oX10 q_t Q_t (F_t 0 0) v.1 v.2.1 v.2.2.1 v.2.2.2.1 v.2.2.2.2.1 v.2.2.2.2.2.1 v.2.2.2.2.2.2.1 v.2.2.2.2.2.2.2.1 v.2.2.2.2.2.2.2.2.1 v.2.2.2.2.2.2.2.2.2.1 v.2.2.2.2.2.2.2.2.2.2.1 (F_t 15 0) (F_t 16 0) (F_t 17 0) (F_t 23 0) (F_t 27 0) (F_t 28 0) (F_t 30 0), ia g (Q_t 1) 240 (F_t 1), ia g (Q_t 13) 16 v.2.2.2.2.2.2.2.2.2.2.2.1, ia g (Q_t 14) 30 v.2.2.2.2.2.2.2.2.2.2.2.2] [] [])) (fun z r hb hc he => t_X10_isRead_b29 E q_t Q_t N (va_up (va_up (va_up (va_up (va_up (va_up (va_up (va_up (va_up (va_up (va_up (va_up (va_up F_t 2 (fun _ => z.1)) 3 (fun _ => z.2.1)) 4 (fun _ => z.2.2.1)) 5 (fun _ => z.2.2.2.1)) 6 (fun _ => z.2.2.2.2.1)) 7 (fun _ => z.2.2.2.2.2.1)) 8 (fun _ => z.2.2.2.2.2.2.1)) 9 (fun _ => z.2.2.2.2.2.2.2.1)) 10 (fun _ => z.2.2.2.2.2.2.2.2.1)) 11 (fun _ => z.2.2.2.2.2.2.2.2.2.1)) 12 (fun _ => z.2.2.2.2.2.2.2.2.2.2.1)) 13 z.2.2.2.2.2.2.2.2.2.2.2.1) 14 z.2.2.2.2.2.2.2.2.2.2.2.2) r hb hc (fun v hv => he (.inl v) hv) (fun v hv => he (.inr v) hv)) N (v_1.1, v_1.2.1, v_1.2.2.1, v_1.2.2.2.1, v_1.2.2.2.2, (F_t 7 0), (F_t 8 0), (0 : Int32), (0 : Int32), (0 : Int32), (0 : Int32), (F_t 13), (F_t 14)) v_6 hv_6 ?_ H locs ls hP hD hS hl
  rcases v_6 with v_6 | v_6
  · have h := ox_inl h
    intro H locs ls hP hD hS hl
    refine lv_iconst (v := (0 : Int32)) hx hb dX10_isRead_45 (by decide) ?_
    obtain rfl := Option.some.inj h
    exact k_zret hx hb hr hlk (.inl rfl) hP hD hS dX10_isRead_46
  · have h := ox_inr h
    intro H locs ls hP hD hS hl
    refine lv_iconst (v := (1 : Int32)) hx hb dX10_isRead_54 (by decide) ?_
    obtain rfl := Option.some.inj h
    exact k_zret hx hb hr hlk (.inr rfl) hP hD hS dX10_isRead_55
set_option maxRecDepth 100000 in
theorem c_X10_isRead (l : Launch) (g : gG) (q_t : Nat) (Q_t : Ad) (N : Nat) (F_t : St) (o : Int32 × Int32 × Int32 × Int32 × Int32 × Int32 × Int32 × Int32 × Int32 × Int32 × Int32 × Int32 × (Nat → Int32) × (Nat → Int32)) (h : x_X10_isRead N F_t = some o) (sz : Nat) : MetI l yX10_isRead (.code yX10_isRead cX10_isRead 1 (some .boolean) :: gW) 5 108 [.ref q_t] o.1 g [oX10 q_t Q_t (F_t 0 0) (F_t 2 0) (F_t 3 0) (F_t 4 0) (F_t 5 0) (F_t 6 0) (F_t 7 0) (F_t 8 0) (F_t 9 0) (F_t 10 0) (F_t 11 0) (F_t 12 0) (F_t 15 0) (F_t 16 0) (F_t 17 0) (F_t 23 0) (F_t 27 0) (F_t 28 0) (F_t 30 0), ia g (Q_t 1) 240 (F_t 1), ia g (Q_t 13) 16 (F_t 13), ia g (Q_t 14) 30 (F_t 14)] [oX10 q_t Q_t (F_t 0 0) o.2.1 o.2.2.1 o.2.2.2.1 o.2.2.2.2.1 o.2.2.2.2.2.1 o.2.2.2.2.2.2.1 o.2.2.2.2.2.2.2.1 o.2.2.2.2.2.2.2.2.1 o.2.2.2.2.2.2.2.2.2.1 o.2.2.2.2.2.2.2.2.2.2.1 o.2.2.2.2.2.2.2.2.2.2.2.1 (F_t 15 0) (F_t 16 0) (F_t 17 0) (F_t 23 0) (F_t 27 0) (F_t 28 0) (F_t 30 0), ia g (Q_t 1) 240 (F_t 1), ia g (Q_t 13) 16 o.2.2.2.2.2.2.2.2.2.2.2.2.1, ia g (Q_t 14) 30 o.2.2.2.2.2.2.2.2.2.2.2.2.2] sz :=
  mkI (av := [.ref q_t]) (by decide +kernel) rfl (fun p e s m below meth c A E H locs ls hP hD hS hl => t_X10_isRead E q_t Q_t N F_t o h H locs ls hP hD hS hl) sz
def x_X10_works_b53 (N : Nat) (F_t : St) (x2 : Int32) : Option ((Int32 × (Nat → Int32)) ⊕ ((Nat → Int32))) :=
  if ((2 : Int32) * (F_t 16 0)) ≤ x2 then (some (.inr (F_t 18))) else (if x2 < 0 ∨ 16 ≤ x2.toNatClampNeg then none else if x2 < 0 ∨ 16 ≤ x2.toNatClampNeg then none else xl ((F_t 13) x2.toNatClampNeg) (fun y_6 => some (.inl ((x2 + (1 : Int32)), (upd (F_t 18) x2.toNatClampNeg y_6)))))
set_option maxHeartbeats 4000000 in
set_option maxRecDepth 100000 in
theorem t_X10_works_b53 {p : Program} {l : Launch} {e : Env} {s : State} {m : MethodId} {args : Array Value} {below : List Frame} {meth : Method} {c : Code} {g : gG} {A : Nat → Prop} {Q : State → Prop} (E : En p s m args meth c g A cX10_works 3 (.code yX10_works cX10_works 3 (some .int) :: gW) RX10 (some .int)) (q_t : Nat) (Q_t : Ad) (N : Nat) (F_t : St) (x2 : Int32) (o : (Int32 × (Nat → Int32)) ⊕ ((Nat → Int32))) (h : x_X10_works_b53 N F_t x2 = some o) (hc : ∀ z, o = .inl z → WA p l e (rM 6 128) s m args below meth c g A Q 3 53 [oX10 q_t Q_t (F_t 0 0) (F_t 2 0) (F_t 3 0) (F_t 4 0) (F_t 5 0) (F_t 6 0) (F_t 7 0) (F_t 8 0) (F_t 9 0) (F_t 10 0) (F_t 11 0) (F_t 12 0) (F_t 15 0) (F_t 16 0) (F_t 17 0) (F_t 23 0) (F_t 27 0) (F_t 28 0) (F_t 30 0), ia g (Q_t 1) 240 (F_t 1), ia g (Q_t 13) 16 (F_t 13), ia g (Q_t 14) 30 (F_t 14), ia g (Q_t 18) 16 z.2, ia g (Q_t 19) 30 (F_t 19), ia g (Q_t 20) 174 (F_t 20), za g (Q_t 26) 2 (F_t 26)] [(0, .ref q_t), (2, .int z.1)] []) (he : ∀ v, o = .inr v → WA p l e (rM 6 128) s m args below meth c g A Q 3 81 [oX10 q_t Q_t (F_t 0 0) (F_t 2 0) (F_t 3 0) (F_t 4 0) (F_t 5 0) (F_t 6 0) (F_t 7 0) (F_t 8 0) (F_t 9 0) (F_t 10 0) (F_t 11 0) (F_t 12 0) (F_t 15 0) (F_t 16 0) (F_t 17 0) (F_t 23 0) (F_t 27 0) (F_t 28 0) (F_t 30 0), ia g (Q_t 1) 240 (F_t 1), ia g (Q_t 13) 16 (F_t 13), ia g (Q_t 14) 30 (F_t 14), ia g (Q_t 18) 16 v, ia g (Q_t 19) 30 (F_t 19), ia g (Q_t 20) 174 (F_t 20), za g (Q_t 26) 2 (F_t 26)] [(0, .ref q_t)] []) : WA p l e (rM 6 128) s m args below meth c g A Q 3 53 [oX10 q_t Q_t (F_t 0 0) (F_t 2 0) (F_t 3 0) (F_t 4 0) (F_t 5 0) (F_t 6 0) (F_t 7 0) (F_t 8 0) (F_t 9 0) (F_t 10 0) (F_t 11 0) (F_t 12 0) (F_t 15 0) (F_t 16 0) (F_t 17 0) (F_t 23 0) (F_t 27 0) (F_t 28 0) (F_t 30 0), ia g (Q_t 1) 240 (F_t 1), ia g (Q_t 13) 16 (F_t 13), ia g (Q_t 14) 30 (F_t 14), ia g (Q_t 18) 16 (F_t 18), ia g (Q_t 19) 30 (F_t 19), ia g (Q_t 20) 174 (F_t 20), za g (Q_t 26) 2 (F_t 26)] [(0, .ref q_t), (2, .int x2)] [] := by
  obtain ⟨⟨hx, hb, hml, hown, hts⟩, hr, hK, hA, hlk⟩ := id E
  intro H locs ls hP hD hS hl
  refine lv_iload_n hx hb dX10_works_53 rfl (lv_at hl 1 rfl) ?_
  refine lv_iconst (v := (2 : Int32)) hx hb dX10_works_54 (by decide) ?_
  refine lv_aload_n hx hb dX10_works_55 rfl (lv_at hl 0 rfl) ?_
  refine va_get (ci := 10) (v := .int (F_t 16 0)) (C := RX10) (T := TX10) (N := 38) hx hb hts (fun w h => .tail _ (u_inX10 w h)) hown hK.1 hP 0 rfl rfl 16 (by decide) (hts _ (.tail _ u_fl_X10_80)) (fun _ h9 => h9) rfl dX10_works_56 ?_
  refine lv_imul hx hb dX10_works_59 ?_
  refine lv_icmp_ge (tgt := 81) hx hb dX10_works_60 (by decide) (fun c_3 => ?_) (fun c_3 => ?_)
  · have h := ox_t c_3 h
    obtain rfl := Option.some.inj h
    exact he _ rfl H locs ls hP hD hS (lv_sub hl [0] rfl)
  · have h := ox_f c_3 h
    refine lv_aload_n hx hb dX10_works_63 rfl (lv_at hl 0 rfl) ?_
    refine va_get (ci := 10) (v := .ref (Q_t 18)) (C := RX10) (T := TX10) (N := 38) hx hb hts (fun w h => .tail _ (u_inX10 w h)) hown hK.1 hP 0 rfl rfl 18 (by decide) (hts _ (.tail _ u_fl_X10_23)) (fun _ h9 => h9) rfl dX10_works_64 ?_
    refine lv_iload_n hx hb dX10_works_67 rfl (lv_at hl 1 rfl) ?_
    refine lv_aload_n hx hb dX10_works_68 rfl (lv_at hl 0 rfl) ?_
    refine va_get (ci := 10) (v := .ref (Q_t 13)) (C := RX10) (T := TX10) (N := 38) hx hb hts (fun w h => .tail _ (u_inX10 w h)) hown hK.1 hP 0 rfl rfl 13 (by decide) (hts _ (.tail _ u_fl_X10_17)) (fun _ h9 => h9) rfl dX10_works_69 ?_
    refine lv_iload_n hx hb dX10_works_72 rfl (lv_at hl 1 rfl) ?_
    obtain ⟨hi_4, h⟩ := ox_chk h
    refine va_iald hx hb hK.1 hP 2 0 rfl rfl hi_4 dX10_works_73 ?_
    obtain ⟨hi_5, h⟩ := ox_chk h
    refine lv_topi (fun y_6 ey_6 => ?_)
    have h := xl_at ey_6 h
    refine va_iast hx hb hK.1 hP hD hS 4 0 rfl rfl hi_5 dX10_works_74 (fun H locs hP hD hS => ?_)
    have hP : va_P g.1 vwCl [oX10 q_t Q_t (F_t 0 0) (F_t 2 0) (F_t 3 0) (F_t 4 0) (F_t 5 0) (F_t 6 0) (F_t 7 0) (F_t 8 0) (F_t 9 0) (F_t 10 0) (F_t 11 0) (F_t 12 0) (F_t 15 0) (F_t 16 0) (F_t 17 0) (F_t 23 0) (F_t 27 0) (F_t 28 0) (F_t 30 0), ia g (Q_t 1) 240 (F_t 1), ia g (Q_t 13) 16 (F_t 13), ia g (Q_t 14) 30 (F_t 14), ia g (Q_t 18) 16 (upd (F_t 18) x2.toNatClampNeg y_6), ia g (Q_t 19) 30 (F_t 19), ia g (Q_t 20) 174 (F_t 20), za g (Q_t 26) 2 (F_t 26)] H := hP
    have hD : va_D A [oX10 q_t Q_t (F_t 0 0) (F_t 2 0) (F_t 3 0) (F_t 4 0) (F_t 5 0) (F_t 6 0) (F_t 7 0) (F_t 8 0) (F_t 9 0) (F_t 10 0) (F_t 11 0) (F_t 12 0) (F_t 15 0) (F_t 16 0) (F_t 17 0) (F_t 23 0) (F_t 27 0) (F_t 28 0) (F_t 30 0), ia g (Q_t 1) 240 (F_t 1), ia g (Q_t 13) 16 (F_t 13), ia g (Q_t 14) 30 (F_t 14), ia g (Q_t 18) 16 (upd (F_t 18) x2.toNatClampNeg y_6), ia g (Q_t 19) 30 (F_t 19), ia g (Q_t 20) 174 (F_t 20), za g (Q_t 26) 2 (F_t 26)] := hD
    refine lv_iinc (v := (x2 + (1 : Int32))) (lv' := [(2, .int (x2 + (1 : Int32))), (0, .ref q_t)]) hx hb dX10_works_75 hl (k := 1) rfl rfl (by decide) rfl (fun ls hl => ?_)
    refine lv_goto (tgt := 53) hx hb dX10_works_78 (by decide) ?_
    obtain rfl := Option.some.inj h
    exact hc _ rfl H locs ls hP hD hS (lv_sub hl [1, 0] rfl)
def x_X10_works_b83 (N : Nat) (F_t : St) (x2 : Int32) : Option ((Int32 × (Nat → Int32)) ⊕ ((Nat → Int32))) :=
  if ((3 : Int32) * (F_t 17 0)) ≤ x2 then (some (.inr (F_t 19))) else (if x2 < 0 ∨ 30 ≤ x2.toNatClampNeg then none else if x2 < 0 ∨ 30 ≤ x2.toNatClampNeg then none else xl ((F_t 14) x2.toNatClampNeg) (fun y_11 => some (.inl ((x2 + (1 : Int32)), (upd (F_t 19) x2.toNatClampNeg y_11)))))
set_option maxHeartbeats 4000000 in
set_option maxRecDepth 100000 in
theorem t_X10_works_b83 {p : Program} {l : Launch} {e : Env} {s : State} {m : MethodId} {args : Array Value} {below : List Frame} {meth : Method} {c : Code} {g : gG} {A : Nat → Prop} {Q : State → Prop} (E : En p s m args meth c g A cX10_works 3 (.code yX10_works cX10_works 3 (some .int) :: gW) RX10 (some .int)) (q_t : Nat) (Q_t : Ad) (N : Nat) (F_t : St) (x2 : Int32) (o : (Int32 × (Nat → Int32)) ⊕ ((Nat → Int32))) (h : x_X10_works_b83 N F_t x2 = some o) (hc : ∀ z, o = .inl z → WA p l e (rM 6 128) s m args below meth c g A Q 3 83 [oX10 q_t Q_t (F_t 0 0) (F_t 2 0) (F_t 3 0) (F_t 4 0) (F_t 5 0) (F_t 6 0) (F_t 7 0) (F_t 8 0) (F_t 9 0) (F_t 10 0) (F_t 11 0) (F_t 12 0) (F_t 15 0) (F_t 16 0) (F_t 17 0) (F_t 23 0) (F_t 27 0) (F_t 28 0) (F_t 30 0), ia g (Q_t 1) 240 (F_t 1), ia g (Q_t 13) 16 (F_t 13), ia g (Q_t 14) 30 (F_t 14), ia g (Q_t 18) 16 (F_t 18), ia g (Q_t 19) 30 z.2, ia g (Q_t 20) 174 (F_t 20), za g (Q_t 26) 2 (F_t 26)] [(0, .ref q_t), (2, .int z.1)] []) (he : ∀ v, o = .inr v → WA p l e (rM 6 128) s m args below meth c g A Q 3 111 [oX10 q_t Q_t (F_t 0 0) (F_t 2 0) (F_t 3 0) (F_t 4 0) (F_t 5 0) (F_t 6 0) (F_t 7 0) (F_t 8 0) (F_t 9 0) (F_t 10 0) (F_t 11 0) (F_t 12 0) (F_t 15 0) (F_t 16 0) (F_t 17 0) (F_t 23 0) (F_t 27 0) (F_t 28 0) (F_t 30 0), ia g (Q_t 1) 240 (F_t 1), ia g (Q_t 13) 16 (F_t 13), ia g (Q_t 14) 30 (F_t 14), ia g (Q_t 18) 16 (F_t 18), ia g (Q_t 19) 30 v, ia g (Q_t 20) 174 (F_t 20), za g (Q_t 26) 2 (F_t 26)] [(0, .ref q_t)] []) : WA p l e (rM 6 128) s m args below meth c g A Q 3 83 [oX10 q_t Q_t (F_t 0 0) (F_t 2 0) (F_t 3 0) (F_t 4 0) (F_t 5 0) (F_t 6 0) (F_t 7 0) (F_t 8 0) (F_t 9 0) (F_t 10 0) (F_t 11 0) (F_t 12 0) (F_t 15 0) (F_t 16 0) (F_t 17 0) (F_t 23 0) (F_t 27 0) (F_t 28 0) (F_t 30 0), ia g (Q_t 1) 240 (F_t 1), ia g (Q_t 13) 16 (F_t 13), ia g (Q_t 14) 30 (F_t 14), ia g (Q_t 18) 16 (F_t 18), ia g (Q_t 19) 30 (F_t 19), ia g (Q_t 20) 174 (F_t 20), za g (Q_t 26) 2 (F_t 26)] [(0, .ref q_t), (2, .int x2)] [] := by
  obtain ⟨⟨hx, hb, hml, hown, hts⟩, hr, hK, hA, hlk⟩ := id E
  intro H locs ls hP hD hS hl
  refine lv_iload_n hx hb dX10_works_83 rfl (lv_at hl 1 rfl) ?_
  refine lv_iconst (v := (3 : Int32)) hx hb dX10_works_84 (by decide) ?_
  refine lv_aload_n hx hb dX10_works_85 rfl (lv_at hl 0 rfl) ?_
  refine va_get (ci := 10) (v := .int (F_t 17 0)) (C := RX10) (T := TX10) (N := 38) hx hb hts (fun w h => .tail _ (u_inX10 w h)) hown hK.1 hP 0 rfl rfl 17 (by decide) (hts _ (.tail _ u_fl_X10_87)) (fun _ h9 => h9) rfl dX10_works_86 ?_
  refine lv_imul hx hb dX10_works_89 ?_
  refine lv_icmp_ge (tgt := 111) hx hb dX10_works_90 (by decide) (fun c_8 => ?_) (fun c_8 => ?_)
  · have h := ox_t c_8 h
    obtain rfl := Option.some.inj h
    exact he _ rfl H locs ls hP hD hS (lv_sub hl [0] rfl)
  · have h := ox_f c_8 h
    refine lv_aload_n hx hb dX10_works_93 rfl (lv_at hl 0 rfl) ?_
    refine va_get (ci := 10) (v := .ref (Q_t 19)) (C := RX10) (T := TX10) (N := 38) hx hb hts (fun w h => .tail _ (u_inX10 w h)) hown hK.1 hP 0 rfl rfl 19 (by decide) (hts _ (.tail _ u_fl_X10_26)) (fun _ h9 => h9) rfl dX10_works_94 ?_
    refine lv_iload_n hx hb dX10_works_97 rfl (lv_at hl 1 rfl) ?_
    refine lv_aload_n hx hb dX10_works_98 rfl (lv_at hl 0 rfl) ?_
    refine va_get (ci := 10) (v := .ref (Q_t 14)) (C := RX10) (T := TX10) (N := 38) hx hb hts (fun w h => .tail _ (u_inX10 w h)) hown hK.1 hP 0 rfl rfl 14 (by decide) (hts _ (.tail _ u_fl_X10_20)) (fun _ h9 => h9) rfl dX10_works_99 ?_
    refine lv_iload_n hx hb dX10_works_102 rfl (lv_at hl 1 rfl) ?_
    obtain ⟨hi_9, h⟩ := ox_chk h
    refine va_iald hx hb hK.1 hP 3 0 rfl rfl hi_9 dX10_works_103 ?_
    obtain ⟨hi_10, h⟩ := ox_chk h
    refine lv_topi (fun y_11 ey_11 => ?_)
    have h := xl_at ey_11 h
    refine va_iast hx hb hK.1 hP hD hS 5 0 rfl rfl hi_10 dX10_works_104 (fun H locs hP hD hS => ?_)
    have hP : va_P g.1 vwCl [oX10 q_t Q_t (F_t 0 0) (F_t 2 0) (F_t 3 0) (F_t 4 0) (F_t 5 0) (F_t 6 0) (F_t 7 0) (F_t 8 0) (F_t 9 0) (F_t 10 0) (F_t 11 0) (F_t 12 0) (F_t 15 0) (F_t 16 0) (F_t 17 0) (F_t 23 0) (F_t 27 0) (F_t 28 0) (F_t 30 0), ia g (Q_t 1) 240 (F_t 1), ia g (Q_t 13) 16 (F_t 13), ia g (Q_t 14) 30 (F_t 14), ia g (Q_t 18) 16 (F_t 18), ia g (Q_t 19) 30 (upd (F_t 19) x2.toNatClampNeg y_11), ia g (Q_t 20) 174 (F_t 20), za g (Q_t 26) 2 (F_t 26)] H := hP
    have hD : va_D A [oX10 q_t Q_t (F_t 0 0) (F_t 2 0) (F_t 3 0) (F_t 4 0) (F_t 5 0) (F_t 6 0) (F_t 7 0) (F_t 8 0) (F_t 9 0) (F_t 10 0) (F_t 11 0) (F_t 12 0) (F_t 15 0) (F_t 16 0) (F_t 17 0) (F_t 23 0) (F_t 27 0) (F_t 28 0) (F_t 30 0), ia g (Q_t 1) 240 (F_t 1), ia g (Q_t 13) 16 (F_t 13), ia g (Q_t 14) 30 (F_t 14), ia g (Q_t 18) 16 (F_t 18), ia g (Q_t 19) 30 (upd (F_t 19) x2.toNatClampNeg y_11), ia g (Q_t 20) 174 (F_t 20), za g (Q_t 26) 2 (F_t 26)] := hD
    refine lv_iinc (v := (x2 + (1 : Int32))) (lv' := [(2, .int (x2 + (1 : Int32))), (0, .ref q_t)]) hx hb dX10_works_105 hl (k := 1) rfl rfl (by decide) rfl (fun ls hl => ?_)
    refine lv_goto (tgt := 83) hx hb dX10_works_108 (by decide) ?_
    obtain rfl := Option.some.inj h
    exact hc _ rfl H locs ls hP hD hS (lv_sub hl [1, 0] rfl)
def x_X10_works (N : Nat) (F_t : St) : Option (Int32 × Int32 × Int32 × Int32 × Int32 × Int32 × Int32 × Int32 × Int32 × Int32 × Int32 × Int32 × Int32 × (Nat → Int32) × (Nat → Int32) × Int32 × Int32 × Int32 × (Nat → Int32) × (Nat → Int32) × (Nat → Int32) × Int32 × (Nat → Int32) × Int32 × Int32) :=
  Option.bind (x_X10_isRead N F_t) (fun v_1 => if v_1.1 = 0 then (some (((-10 : Int32) - v_1.2.2.2.2.2.2.2.1), (0 : Int32), v_1.2.1, v_1.2.2.1, v_1.2.2.2.1, v_1.2.2.2.2.1, v_1.2.2.2.2.2.1, v_1.2.2.2.2.2.2.1, v_1.2.2.2.2.2.2.2.1, v_1.2.2.2.2.2.2.2.2.1, v_1.2.2.2.2.2.2.2.2.2.1, v_1.2.2.2.2.2.2.2.2.2.2.1, v_1.2.2.2.2.2.2.2.2.2.2.2.1, v_1.2.2.2.2.2.2.2.2.2.2.2.2.1, v_1.2.2.2.2.2.2.2.2.2.2.2.2.2, (F_t 15 0), (F_t 16 0), (F_t 17 0), (F_t 18), (F_t 19), (F_t 20), (F_t 23 0), (F_t 26), (F_t 28 0), (F_t 30 0))) else (Option.bind (lpc (fun (z : Int32 × (Nat → Int32)) => x_X10_works_b53 N (va_up (va_up (va_up (va_up (va_up (va_up (va_up (va_up (va_up (va_up (va_up (va_up (va_up (va_up (va_up (va_up (va_up (va_up F_t 0 (fun _ => (0 : Int32))) 2 (fun _ => v_1.2.1)) 3 (fun _ => v_1.2.2.1)) 4 (fun _ => v_1.2.2.2.1)) 5 (fun _ => v_1.2.2.2.2.1)) 6 (fun _ => v_1.2.2.2.2.2.1)) 7 (fun _ => (-1 : Int32))) 8 (fun _ => v_1.2.2.2.2.2.2.2.1)) 9 (fun _ => v_1.2.2.2.2.2.2.2.2.1)) 10 (fun _ => v_1.2.2.2.2.2.2.2.2.2.1)) 11 (fun _ => v_1.2.2.2.2.2.2.2.2.2.2.1)) 12 (fun _ => v_1.2.2.2.2.2.2.2.2.2.2.2.1)) 13 v_1.2.2.2.2.2.2.2.2.2.2.2.2.1) 14 v_1.2.2.2.2.2.2.2.2.2.2.2.2.2) 15 (fun _ => v_1.2.2.2.2.2.2.2.2.2.1)) 16 (fun _ => v_1.2.2.2.2.2.2.2.2.2.2.1)) 17 (fun _ => v_1.2.2.2.2.2.2.2.2.2.2.2.1)) 18 z.2) z.1) N ((0 : Int32), (F_t 18))) (fun v_7 => Option.bind (lpc (fun (z : Int32 × (Nat → Int32)) => x_X10_works_b83 N (va_up (va_up (va_up (va_up (va_up (va_up (va_up (va_up (va_up (va_up (va_up (va_up (va_up (va_up (va_up (va_up (va_up (va_up (va_up F_t 0 (fun _ => (0 : Int32))) 2 (fun _ => v_1.2.1)) 3 (fun _ => v_1.2.2.1)) 4 (fun _ => v_1.2.2.2.1)) 5 (fun _ => v_1.2.2.2.2.1)) 6 (fun _ => v_1.2.2.2.2.2.1)) 7 (fun _ => (-1 : Int32))) 8 (fun _ => v_1.2.2.2.2.2.2.2.1)) 9 (fun _ => v_1.2.2.2.2.2.2.2.2.1)) 10 (fun _ => v_1.2.2.2.2.2.2.2.2.2.1)) 11 (fun _ => v_1.2.2.2.2.2.2.2.2.2.2.1)) 12 (fun _ => v_1.2.2.2.2.2.2.2.2.2.2.2.1)) 13 v_1.2.2.2.2.2.2.2.2.2.2.2.2.1) 14 v_1.2.2.2.2.2.2.2.2.2.2.2.2.2) 15 (fun _ => v_1.2.2.2.2.2.2.2.2.2.1)) 16 (fun _ => v_1.2.2.2.2.2.2.2.2.2.2.1)) 17 (fun _ => v_1.2.2.2.2.2.2.2.2.2.2.2.1)) 18 v_7) 19 z.2) z.1) N ((0 : Int32), (F_t 19))) (fun v_12 => Option.bind (x_X10_dry N (F_t 20)) (fun v_13 => Option.bind (x_X10_open N (va_up (va_up (va_up (va_up (va_up (va_up (va_up (va_up (va_up (va_up (va_up (va_up (va_up (va_up (va_up (va_up (va_up (va_up (va_up (va_up F_t 0 (fun _ => (0 : Int32))) 2 (fun _ => v_1.2.1)) 3 (fun _ => v_1.2.2.1)) 4 (fun _ => v_1.2.2.2.1)) 5 (fun _ => v_1.2.2.2.2.1)) 6 (fun _ => v_1.2.2.2.2.2.1)) 7 (fun _ => (-1 : Int32))) 8 (fun _ => v_1.2.2.2.2.2.2.2.1)) 9 (fun _ => v_1.2.2.2.2.2.2.2.2.1)) 10 (fun _ => v_1.2.2.2.2.2.2.2.2.2.1)) 11 (fun _ => v_1.2.2.2.2.2.2.2.2.2.2.1)) 12 (fun _ => v_1.2.2.2.2.2.2.2.2.2.2.2.1)) 13 v_1.2.2.2.2.2.2.2.2.2.2.2.2.1) 14 v_1.2.2.2.2.2.2.2.2.2.2.2.2.2) 15 (fun _ => v_1.2.2.2.2.2.2.2.2.2.1)) 16 (fun _ => v_1.2.2.2.2.2.2.2.2.2.2.1)) 17 (fun _ => v_1.2.2.2.2.2.2.2.2.2.2.2.1)) 18 v_7) 19 v_12) 20 v_13)) (fun v_14 => some (v_1.2.2.2.2.2.2.2.2.2.2.1, (0 : Int32), v_1.2.1, v_1.2.2.1, v_1.2.2.2.1, v_1.2.2.2.2.1, v_1.2.2.2.2.2.1, (-1 : Int32), v_1.2.2.2.2.2.2.2.1, v_1.2.2.2.2.2.2.2.2.1, v_1.2.2.2.2.2.2.2.2.2.1, v_1.2.2.2.2.2.2.2.2.2.2.1, v_1.2.2.2.2.2.2.2.2.2.2.2.1, v_1.2.2.2.2.2.2.2.2.2.2.2.2.1, v_1.2.2.2.2.2.2.2.2.2.2.2.2.2, v_1.2.2.2.2.2.2.2.2.2.1, v_1.2.2.2.2.2.2.2.2.2.2.1, v_1.2.2.2.2.2.2.2.2.2.2.2.1, v_7, v_12, v_14, (0 : Int32), (upd (upd (F_t 26) (0 : Int32).toNatClampNeg (vp_nar .boolean (0 : Int32))) (1 : Int32).toNatClampNeg (vp_nar .boolean (0 : Int32))), (0 : Int32), (0 : Int32))))))))
set_option maxHeartbeats 4000000 in
set_option maxRecDepth 100000 in
theorem t_X10_works {p : Program} {l : Launch} {e : Env} {s : State} {m : MethodId} {args : Array Value} {below : List Frame} {meth : Method} {c : Code} {g : gG} {A : Nat → Prop} (E : En p s m args meth c g A cX10_works 3 (.code yX10_works cX10_works 3 (some .int) :: gW) RX10 (some .int)) (q_t : Nat) (Q_t : Ad) (N : Nat) (F_t : St) (o : Int32 × Int32 × Int32 × Int32 × Int32 × Int32 × Int32 × Int32 × Int32 × Int32 × Int32 × Int32 × Int32 × (Nat → Int32) × (Nat → Int32) × Int32 × Int32 × Int32 × (Nat → Int32) × (Nat → Int32) × (Nat → Int32) × Int32 × (Nat → Int32) × Int32 × Int32) (h : x_X10_works N F_t = some o) : WA p l e (rM 6 128) s m args below meth c g A (MQ below (QI g A o.1 [oX10 q_t Q_t o.2.1 o.2.2.1 o.2.2.2.1 o.2.2.2.2.1 o.2.2.2.2.2.1 o.2.2.2.2.2.2.1 o.2.2.2.2.2.2.2.1 o.2.2.2.2.2.2.2.2.1 o.2.2.2.2.2.2.2.2.2.1 o.2.2.2.2.2.2.2.2.2.2.1 o.2.2.2.2.2.2.2.2.2.2.2.1 o.2.2.2.2.2.2.2.2.2.2.2.2.1 o.2.2.2.2.2.2.2.2.2.2.2.2.2.2.2.1 o.2.2.2.2.2.2.2.2.2.2.2.2.2.2.2.2.1 o.2.2.2.2.2.2.2.2.2.2.2.2.2.2.2.2.2.1 o.2.2.2.2.2.2.2.2.2.2.2.2.2.2.2.2.2.2.2.2.2.1 (F_t 27 0) o.2.2.2.2.2.2.2.2.2.2.2.2.2.2.2.2.2.2.2.2.2.2.2.1 o.2.2.2.2.2.2.2.2.2.2.2.2.2.2.2.2.2.2.2.2.2.2.2.2, ia g (Q_t 1) 240 (F_t 1), ia g (Q_t 13) 16 o.2.2.2.2.2.2.2.2.2.2.2.2.2.1, ia g (Q_t 14) 30 o.2.2.2.2.2.2.2.2.2.2.2.2.2.2.1, ia g (Q_t 18) 16 o.2.2.2.2.2.2.2.2.2.2.2.2.2.2.2.2.2.2.1, ia g (Q_t 19) 30 o.2.2.2.2.2.2.2.2.2.2.2.2.2.2.2.2.2.2.2.1, ia g (Q_t 20) 174 o.2.2.2.2.2.2.2.2.2.2.2.2.2.2.2.2.2.2.2.2.1, za g (Q_t 26) 2 o.2.2.2.2.2.2.2.2.2.2.2.2.2.2.2.2.2.2.2.2.2.2.1]) args s 0 0 A) 3 0 [oX10 q_t Q_t (F_t 0 0) (F_t 2 0) (F_t 3 0) (F_t 4 0) (F_t 5 0) (F_t 6 0) (F_t 7 0) (F_t 8 0) (F_t 9 0) (F_t 10 0) (F_t 11 0) (F_t 12 0) (F_t 15 0) (F_t 16 0) (F_t 17 0) (F_t 23 0) (F_t 27 0) (F_t 28 0) (F_t 30 0), ia g (Q_t 1) 240 (F_t 1), ia g (Q_t 13) 16 (F_t 13), ia g (Q_t 14) 30 (F_t 14), ia g (Q_t 18) 16 (F_t 18), ia g (Q_t 19) 30 (F_t 19), ia g (Q_t 20) 174 (F_t 20), za g (Q_t 26) 2 (F_t 26)] [(0, .ref q_t)] [] := by
  obtain ⟨⟨hx, hb, hml, hown, hts⟩, hr, hK, hA, hlk⟩ := id E
  intro H locs ls hP hD hS hl
  refine lv_aload_n hx hb dX10_works_0 rfl (lv_at hl 0 rfl) ?_
  obtain ⟨v_1, hv_1, h⟩ := ox_bind h
  refine kVi ⟨hx, hb, hml, hown, hts⟩ (c_X10_isRead l g q_t Q_t N F_t v_1 hv_1 H.size) (gV u_ml_X10_153 u_im_X10_isRead u_se_X10_isRead u_ini_X10 u_co_X10_isRead) hd_X10_isRead ⟨rfl, rfl⟩ hK hP hD hS hA 0 10 rfl rfl [0, 1, 2, 3] [0, 1, 2, 3, 8, 9, 10, 11] rfl rfl 4 rfl (w2 := [oX10 q_t Q_t (F_t 0 0) v_1.2.1 v_1.2.2.1 v_1.2.2.2.1 v_1.2.2.2.2.1 v_1.2.2.2.2.2.1 v_1.2.2.2.2.2.2.1 v_1.2.2.2.2.2.2.2.1 v_1.2.2.2.2.2.2.2.2.1 v_1.2.2.2.2.2.2.2.2.2.1 v_1.2.2.2.2.2.2.2.2.2.2.1 v_1.2.2.2.2.2.2.2.2.2.2.2.1 (F_t 15 0) (F_t 16 0) (F_t 17 0) (F_t 23 0) (F_t 27 0) (F_t 28 0) (F_t 30 0), ia g (Q_t 1) 240 (F_t 1), ia g (Q_t 13) 16 v_1.2.2.2.2.2.2.2.2.2.2.2.2.1, ia g (Q_t 14) 30 v_1.2.2.2.2.2.2.2.2.2.2.2.2.2, ia g (Q_t 18) 16 (F_t 18), ia g (Q_t 19) 30 (F_t 19), ia g (Q_t 20) 174 (F_t 20), za g (Q_t 26) 2 (F_t 26)]) rfl rfl (As := []) (rest := []) rfl hl.1 rfl rfl dX10_works_1 (fun H locs hP hD hS => ?_)
  refine lv_istore_n (lv' := [(1, .int v_1.1), (0, .ref q_t)]) hx hb dX10_works_4 rfl hl (by decide) rfl (fun ls hl => ?_)
  refine lv_aload_n hx hb dX10_works_5 rfl (lv_at hl 1 rfl) ?_
  refine lv_iconst (v := (0 : Int32)) hx hb dX10_works_6 (by decide) ?_
  refine va_put (ci := 10) (v := .int (0 : Int32)) (ty := .int) (C := RX10) (T := TX10) (N := 38) hx hb hts (fun w h => .tail _ (u_inX10 w h)) tyX10 tyX10_ok nmX10 hown hK.1 hP hD hS 0 rfl rfl 0 (by decide) (hts _ (.tail _ u_fl_X10_91)) (fun _ h9 => h9) rfl (tyX10_ok 0 (by decide)) rfl rfl (Nat.le_of_ble_eq_true rfl) dX10_works_7 (fun H locs hP hD hS => ?_)
  have hP : va_P g.1 vwCl [oX10 q_t Q_t (0 : Int32) v_1.2.1 v_1.2.2.1 v_1.2.2.2.1 v_1.2.2.2.2.1 v_1.2.2.2.2.2.1 v_1.2.2.2.2.2.2.1 v_1.2.2.2.2.2.2.2.1 v_1.2.2.2.2.2.2.2.2.1 v_1.2.2.2.2.2.2.2.2.2.1 v_1.2.2.2.2.2.2.2.2.2.2.1 v_1.2.2.2.2.2.2.2.2.2.2.2.1 (F_t 15 0) (F_t 16 0) (F_t 17 0) (F_t 23 0) (F_t 27 0) (F_t 28 0) (F_t 30 0), ia g (Q_t 1) 240 (F_t 1), ia g (Q_t 13) 16 v_1.2.2.2.2.2.2.2.2.2.2.2.2.1, ia g (Q_t 14) 30 v_1.2.2.2.2.2.2.2.2.2.2.2.2.2, ia g (Q_t 18) 16 (F_t 18), ia g (Q_t 19) 30 (F_t 19), ia g (Q_t 20) 174 (F_t 20), za g (Q_t 26) 2 (F_t 26)] H := hP
  have hD : va_D A [oX10 q_t Q_t (0 : Int32) v_1.2.1 v_1.2.2.1 v_1.2.2.2.1 v_1.2.2.2.2.1 v_1.2.2.2.2.2.1 v_1.2.2.2.2.2.2.1 v_1.2.2.2.2.2.2.2.1 v_1.2.2.2.2.2.2.2.2.1 v_1.2.2.2.2.2.2.2.2.2.1 v_1.2.2.2.2.2.2.2.2.2.2.1 v_1.2.2.2.2.2.2.2.2.2.2.2.1 (F_t 15 0) (F_t 16 0) (F_t 17 0) (F_t 23 0) (F_t 27 0) (F_t 28 0) (F_t 30 0), ia g (Q_t 1) 240 (F_t 1), ia g (Q_t 13) 16 v_1.2.2.2.2.2.2.2.2.2.2.2.2.1, ia g (Q_t 14) 30 v_1.2.2.2.2.2.2.2.2.2.2.2.2.2, ia g (Q_t 18) 16 (F_t 18), ia g (Q_t 19) 30 (F_t 19), ia g (Q_t 20) 174 (F_t 20), za g (Q_t 26) 2 (F_t 26)] := hD
  refine lv_iload_n hx hb dX10_works_10 rfl (lv_at hl 0 rfl) ?_
  refine lv_if_ne (tgt := 22) hx hb dX10_works_11 (by decide) (fun c_2 => ?_) (fun c_2 => ?_)
  · have h := ox_f c_2 h
    refine lv_aload_n hx hb dX10_works_22 rfl (lv_at hl 1 rfl) ?_
    refine lv_iconst (v := (-1 : Int32)) hx hb dX10_works_23 (by decide) ?_
    refine va_put (ci := 10) (v := .int (-1 : Int32)) (ty := .int) (C := RX10) (T := TX10) (N := 38) hx hb hts (fun w h => .tail _ (u_inX10 w h)) tyX10 tyX10_ok nmX10 hown hK.1 hP hD hS 0 rfl rfl 7 (by decide) (hts _ (.tail _ u_fl_X10_13)) (fun _ h9 => h9) rfl (tyX10_ok 7 (by decide)) rfl rfl (Nat.le_of_ble_eq_true rfl) dX10_works_24 (fun H locs hP hD hS => ?_)
    have hP : va_P g.1 vwCl [oX10 q_t Q_t (0 : Int32) v_1.2.1 v_1.2.2.1 v_1.2.2.2.1 v_1.2.2.2.2.1 v_1.2.2.2.2.2.1 (-1 : Int32) v_1.2.2.2.2.2.2.2.1 v_1.2.2.2.2.2.2.2.2.1 v_1.2.2.2.2.2.2.2.2.2.1 v_1.2.2.2.2.2.2.2.2.2.2.1 v_1.2.2.2.2.2.2.2.2.2.2.2.1 (F_t 15 0) (F_t 16 0) (F_t 17 0) (F_t 23 0) (F_t 27 0) (F_t 28 0) (F_t 30 0), ia g (Q_t 1) 240 (F_t 1), ia g (Q_t 13) 16 v_1.2.2.2.2.2.2.2.2.2.2.2.2.1, ia g (Q_t 14) 30 v_1.2.2.2.2.2.2.2.2.2.2.2.2.2, ia g (Q_t 18) 16 (F_t 18), ia g (Q_t 19) 30 (F_t 19), ia g (Q_t 20) 174 (F_t 20), za g (Q_t 26) 2 (F_t 26)] H := hP
    have hD : va_D A [oX10 q_t Q_t (0 : Int32) v_1.2.1 v_1.2.2.1 v_1.2.2.2.1 v_1.2.2.2.2.1 v_1.2.2.2.2.2.1 (-1 : Int32) v_1.2.2.2.2.2.2.2.1 v_1.2.2.2.2.2.2.2.2.1 v_1.2.2.2.2.2.2.2.2.2.1 v_1.2.2.2.2.2.2.2.2.2.2.1 v_1.2.2.2.2.2.2.2.2.2.2.2.1 (F_t 15 0) (F_t 16 0) (F_t 17 0) (F_t 23 0) (F_t 27 0) (F_t 28 0) (F_t 30 0), ia g (Q_t 1) 240 (F_t 1), ia g (Q_t 13) 16 v_1.2.2.2.2.2.2.2.2.2.2.2.2.1, ia g (Q_t 14) 30 v_1.2.2.2.2.2.2.2.2.2.2.2.2.2, ia g (Q_t 18) 16 (F_t 18), ia g (Q_t 19) 30 (F_t 19), ia g (Q_t 20) 174 (F_t 20), za g (Q_t 26) 2 (F_t 26)] := hD
    refine lv_aload_n hx hb dX10_works_27 rfl (lv_at hl 1 rfl) ?_
    refine lv_aload_n hx hb dX10_works_28 rfl (lv_at hl 1 rfl) ?_
    refine va_get (ci := 10) (v := .int v_1.2.2.2.2.2.2.2.2.2.1) (C := RX10) (T := TX10) (N := 38) hx hb hts (fun w h => .tail _ (u_inX10 w h)) hown hK.1 hP 0 rfl rfl 10 (by decide) (hts _ (.tail _ u_fl_X10_124)) (fun _ h9 => h9) rfl dX10_works_29 ?_
    refine va_put (ci := 10) (v := .int v_1.2.2.2.2.2.2.2.2.2.1) (ty := .int) (C := RX10) (T := TX10) (N := 38) hx hb hts (fun w h => .tail _ (u_inX10 w h)) tyX10 tyX10_ok nmX10 hown hK.1 hP hD hS 0 rfl rfl 15 (by decide) (hts _ (.tail _ u_fl_X10_156)) (fun _ h9 => h9) rfl (tyX10_ok 15 (by decide)) rfl rfl (Nat.le_of_ble_eq_true rfl) dX10_works_32 (fun H locs hP hD hS => ?_)
    have hP : va_P g.1 vwCl [oX10 q_t Q_t (0 : Int32) v_1.2.1 v_1.2.2.1 v_1.2.2.2.1 v_1.2.2.2.2.1 v_1.2.2.2.2.2.1 (-1 : Int32) v_1.2.2.2.2.2.2.2.1 v_1.2.2.2.2.2.2.2.2.1 v_1.2.2.2.2.2.2.2.2.2.1 v_1.2.2.2.2.2.2.2.2.2.2.1 v_1.2.2.2.2.2.2.2.2.2.2.2.1 v_1.2.2.2.2.2.2.2.2.2.1 (F_t 16 0) (F_t 17 0) (F_t 23 0) (F_t 27 0) (F_t 28 0) (F_t 30 0), ia g (Q_t 1) 240 (F_t 1), ia g (Q_t 13) 16 v_1.2.2.2.2.2.2.2.2.2.2.2.2.1, ia g (Q_t 14) 30 v_1.2.2.2.2.2.2.2.2.2.2.2.2.2, ia g (Q_t 18) 16 (F_t 18), ia g (Q_t 19) 30 (F_t 19), ia g (Q_t 20) 174 (F_t 20), za g (Q_t 26) 2 (F_t 26)] H := hP
    have hD : va_D A [oX10 q_t Q_t (0 : Int32) v_1.2.1 v_1.2.2.1 v_1.2.2.2.1 v_1.2.2.2.2.1 v_1.2.2.2.2.2.1 (-1 : Int32) v_1.2.2.2.2.2.2.2.1 v_1.2.2.2.2.2.2.2.2.1 v_1.2.2.2.2.2.2.2.2.2.1 v_1.2.2.2.2.2.2.2.2.2.2.1 v_1.2.2.2.2.2.2.2.2.2.2.2.1 v_1.2.2.2.2.2.2.2.2.2.1 (F_t 16 0) (F_t 17 0) (F_t 23 0) (F_t 27 0) (F_t 28 0) (F_t 30 0), ia g (Q_t 1) 240 (F_t 1), ia g (Q_t 13) 16 v_1.2.2.2.2.2.2.2.2.2.2.2.2.1, ia g (Q_t 14) 30 v_1.2.2.2.2.2.2.2.2.2.2.2.2.2, ia g (Q_t 18) 16 (F_t 18), ia g (Q_t 19) 30 (F_t 19), ia g (Q_t 20) 174 (F_t 20), za g (Q_t 26) 2 (F_t 26)] := hD
    refine lv_aload_n hx hb dX10_works_35 rfl (lv_at hl 1 rfl) ?_
    refine lv_aload_n hx hb dX10_works_36 rfl (lv_at hl 1 rfl) ?_
    refine va_get (ci := 10) (v := .int v_1.2.2.2.2.2.2.2.2.2.2.1) (C := RX10) (T := TX10) (N := 38) hx hb hts (fun w h => .tail _ (u_inX10 w h)) hown hK.1 hP 0 rfl rfl 11 (by decide) (hts _ (.tail _ u_fl_X10_135)) (fun _ h9 => h9) rfl dX10_works_37 ?_
    refine va_put (ci := 10) (v := .int v_1.2.2.2.2.2.2.2.2.2.2.1) (ty := .int) (C := RX10) (T := TX10) (N := 38) hx hb hts (fun w h => .tail _ (u_inX10 w h)) tyX10 tyX10_ok nmX10 hown hK.1 hP hD hS 0 rfl rfl 16 (by decide) (hts _ (.tail _ u_fl_X10_80)) (fun _ h9 => h9) rfl (tyX10_ok 16 (by decide)) rfl rfl (Nat.le_of_ble_eq_true rfl) dX10_works_40 (fun H locs hP hD hS => ?_)
    have hP : va_P g.1 vwCl [oX10 q_t Q_t (0 : Int32) v_1.2.1 v_1.2.2.1 v_1.2.2.2.1 v_1.2.2.2.2.1 v_1.2.2.2.2.2.1 (-1 : Int32) v_1.2.2.2.2.2.2.2.1 v_1.2.2.2.2.2.2.2.2.1 v_1.2.2.2.2.2.2.2.2.2.1 v_1.2.2.2.2.2.2.2.2.2.2.1 v_1.2.2.2.2.2.2.2.2.2.2.2.1 v_1.2.2.2.2.2.2.2.2.2.1 v_1.2.2.2.2.2.2.2.2.2.2.1 (F_t 17 0) (F_t 23 0) (F_t 27 0) (F_t 28 0) (F_t 30 0), ia g (Q_t 1) 240 (F_t 1), ia g (Q_t 13) 16 v_1.2.2.2.2.2.2.2.2.2.2.2.2.1, ia g (Q_t 14) 30 v_1.2.2.2.2.2.2.2.2.2.2.2.2.2, ia g (Q_t 18) 16 (F_t 18), ia g (Q_t 19) 30 (F_t 19), ia g (Q_t 20) 174 (F_t 20), za g (Q_t 26) 2 (F_t 26)] H := hP
    have hD : va_D A [oX10 q_t Q_t (0 : Int32) v_1.2.1 v_1.2.2.1 v_1.2.2.2.1 v_1.2.2.2.2.1 v_1.2.2.2.2.2.1 (-1 : Int32) v_1.2.2.2.2.2.2.2.1 v_1.2.2.2.2.2.2.2.2.1 v_1.2.2.2.2.2.2.2.2.2.1 v_1.2.2.2.2.2.2.2.2.2.2.1 v_1.2.2.2.2.2.2.2.2.2.2.2.1 v_1.2.2.2.2.2.2.2.2.2.1 v_1.2.2.2.2.2.2.2.2.2.2.1 (F_t 17 0) (F_t 23 0) (F_t 27 0) (F_t 28 0) (F_t 30 0), ia g (Q_t 1) 240 (F_t 1), ia g (Q_t 13) 16 v_1.2.2.2.2.2.2.2.2.2.2.2.2.1, ia g (Q_t 14) 30 v_1.2.2.2.2.2.2.2.2.2.2.2.2.2, ia g (Q_t 18) 16 (F_t 18), ia g (Q_t 19) 30 (F_t 19), ia g (Q_t 20) 174 (F_t 20), za g (Q_t 26) 2 (F_t 26)] := hD
    refine lv_aload_n hx hb dX10_works_43 rfl (lv_at hl 1 rfl) ?_
    refine lv_aload_n hx hb dX10_works_44 rfl (lv_at hl 1 rfl) ?_
    refine va_get (ci := 10) (v := .int v_1.2.2.2.2.2.2.2.2.2.2.2.1) (C := RX10) (T := TX10) (N := 38) hx hb hts (fun w h => .tail _ (u_inX10 w h)) hown hK.1 hP 0 rfl rfl 12 (by decide) (hts _ (.tail _ u_fl_X10_138)) (fun _ h9 => h9) rfl dX10_works_45 ?_
    refine va_put (ci := 10) (v := .int v_1.2.2.2.2.2.2.2.2.2.2.2.1) (ty := .int) (C := RX10) (T := TX10) (N := 38) hx hb hts (fun w h => .tail _ (u_inX10 w h)) tyX10 tyX10_ok nmX10 hown hK.1 hP hD hS 0 rfl rfl 17 (by decide) (hts _ (.tail _ u_fl_X10_87)) (fun _ h9 => h9) rfl (tyX10_ok 17 (by decide)) rfl rfl (Nat.le_of_ble_eq_true rfl) dX10_works_48 (fun H locs hP hD hS => ?_)
    have hP : va_P g.1 vwCl [oX10 q_t Q_t (0 : Int32) v_1.2.1 v_1.2.2.1 v_1.2.2.2.1 v_1.2.2.2.2.1 v_1.2.2.2.2.2.1 (-1 : Int32) v_1.2.2.2.2.2.2.2.1 v_1.2.2.2.2.2.2.2.2.1 v_1.2.2.2.2.2.2.2.2.2.1 v_1.2.2.2.2.2.2.2.2.2.2.1 v_1.2.2.2.2.2.2.2.2.2.2.2.1 v_1.2.2.2.2.2.2.2.2.2.1 v_1.2.2.2.2.2.2.2.2.2.2.1 v_1.2.2.2.2.2.2.2.2.2.2.2.1 (F_t 23 0) (F_t 27 0) (F_t 28 0) (F_t 30 0), ia g (Q_t 1) 240 (F_t 1), ia g (Q_t 13) 16 v_1.2.2.2.2.2.2.2.2.2.2.2.2.1, ia g (Q_t 14) 30 v_1.2.2.2.2.2.2.2.2.2.2.2.2.2, ia g (Q_t 18) 16 (F_t 18), ia g (Q_t 19) 30 (F_t 19), ia g (Q_t 20) 174 (F_t 20), za g (Q_t 26) 2 (F_t 26)] H := hP
    have hD : va_D A [oX10 q_t Q_t (0 : Int32) v_1.2.1 v_1.2.2.1 v_1.2.2.2.1 v_1.2.2.2.2.1 v_1.2.2.2.2.2.1 (-1 : Int32) v_1.2.2.2.2.2.2.2.1 v_1.2.2.2.2.2.2.2.2.1 v_1.2.2.2.2.2.2.2.2.2.1 v_1.2.2.2.2.2.2.2.2.2.2.1 v_1.2.2.2.2.2.2.2.2.2.2.2.1 v_1.2.2.2.2.2.2.2.2.2.1 v_1.2.2.2.2.2.2.2.2.2.2.1 v_1.2.2.2.2.2.2.2.2.2.2.2.1 (F_t 23 0) (F_t 27 0) (F_t 28 0) (F_t 30 0), ia g (Q_t 1) 240 (F_t 1), ia g (Q_t 13) 16 v_1.2.2.2.2.2.2.2.2.2.2.2.2.1, ia g (Q_t 14) 30 v_1.2.2.2.2.2.2.2.2.2.2.2.2.2, ia g (Q_t 18) 16 (F_t 18), ia g (Q_t 19) 30 (F_t 19), ia g (Q_t 20) 174 (F_t 20), za g (Q_t 26) 2 (F_t 26)] := hD
    refine lv_iconst (v := (0 : Int32)) hx hb dX10_works_51 (by decide) ?_
    refine lv_istore_n (lv' := [(2, .int (0 : Int32)), (1, .int v_1.1), (0, .ref q_t)]) hx hb dX10_works_52 rfl hl (by decide) rfl (fun ls hl => ?_)
    obtain ⟨v_7, hv_7, h⟩ := ox_bind h
    refine lpc_W (Wh := fun (z : Int32 × (Nat → Int32)) => WA p l e (rM 6 128) s m args below meth c g A (MQ below (QI g A o.1 [oX10 q_t Q_t o.2.1 o.2.2.1 o.2.2.2.1 o.2.2.2.2.1 o.2.2.2.2.2.1 o.2.2.2.2.2.2.1 o.2.2.2.2.2.2.2.1 o.2.2.2.2.2.2.2.2.1 o.2.2.2.2.2.2.2.2.2.1 o.2.2.2.2.2.2.2.2.2.2.1 o.2.2.2.2.2.2.2.2.2.2.2.1 o.2.2.2.2.2.2.2.2.2.2.2.2.1 o.2.2.2.2.2.2.2.2.2.2.2.2.2.2.2.1 o.2.2.2.2.2.2.2.2.2.2.2.2.2.2.2.2.1 o.2.2.2.2.2.2.2.2.2.2.2.2.2.2.2.2.2.1 o.2.2.2.2.2.2.2.2.2.2.2.2.2.2.2.2.2.2.2.2.2.1 (F_t 27 0) o.2.2.2.2.2.2.2.2.2.2.2.2.2.2.2.2.2.2.2.2.2.2.2.1 o.2.2.2.2.2.2.2.2.2.2.2.2.2.2.2.2.2.2.2.2.2.2.2.2, ia g (Q_t 1) 240 (F_t 1), ia g (Q_t 13) 16 o.2.2.2.2.2.2.2.2.2.2.2.2.2.1, ia g (Q_t 14) 30 o.2.2.2.2.2.2.2.2.2.2.2.2.2.2.1, ia g (Q_t 18) 16 o.2.2.2.2.2.2.2.2.2.2.2.2.2.2.2.2.2.2.1, ia g (Q_t 19) 30 o.2.2.2.2.2.2.2.2.2.2.2.2.2.2.2.2.2.2.2.1, ia g (Q_t 20) 174 o.2.2.2.2.2.2.2.2.2.2.2.2.2.2.2.2.2.2.2.2.1, za g (Q_t 26) 2 o.2.2.2.2.2.2.2.2.2.2.2.2.2.2.2.2.2.2.2.2.2.2.1]) args s 0 0 A) 3 53 [oX10 q_t Q_t (0 : Int32) v_1.2.1 v_1.2.2.1 v_1.2.2.2.1 v_1.2.2.2.2.1 v_1.2.2.2.2.2.1 (-1 : Int32) v_1.2.2.2.2.2.2.2.1 v_1.2.2.2.2.2.2.2.2.1 v_1.2.2.2.2.2.2.2.2.2.1 v_1.2.2.2.2.2.2.2.2.2.2.1 v_1.2.2.2.2.2.2.2.2.2.2.2.1 v_1.2.2.2.2.2.2.2.2.2.1 v_1.2.2.2.2.2.2.2.2.2.2.1 v_1.2.2.2.2.2.2.2.2.2.2.2.1 (F_t 23 0) (F_t 27 0) (F_t 28 0) (F_t 30 0), ia g (Q_t 1) 240 (F_t 1), ia g (Q_t 13) 16 v_1.2.2.2.2.2.2.2.2.2.2.2.2.1, ia g (Q_t 14) 30 v_1.2.2.2.2.2.2.2.2.2.2.2.2.2, ia g (Q_t 18) 16 z.2, ia g (Q_t 19) 30 (F_t 19), ia g (Q_t 20) 174 (F_t 20), za g (Q_t 26) 2 (F_t 26)] [(0, .ref q_t), (2, .int z.1)] []) (We := fun (v : (Nat → Int32)) => WA p l e (rM 6 128) s m args below meth c g A (MQ below (QI g A o.1 [oX10 q_t Q_t o.2.1 o.2.2.1 o.2.2.2.1 o.2.2.2.2.1 o.2.2.2.2.2.1 o.2.2.2.2.2.2.1 o.2.2.2.2.2.2.2.1 o.2.2.2.2.2.2.2.2.1 o.2.2.2.2.2.2.2.2.2.1 o.2.2.2.2.2.2.2.2.2.2.1 o.2.2.2.2.2.2.2.2.2.2.2.1 o.2.2.2.2.2.2.2.2.2.2.2.2.1 o.2.2.2.2.2.2.2.2.2.2.2.2.2.2.2.1 o.2.2.2.2.2.2.2.2.2.2.2.2.2.2.2.2.1 o.2.2.2.2.2.2.2.2.2.2.2.2.2.2.2.2.2.1 o.2.2.2.2.2.2.2.2.2.2.2.2.2.2.2.2.2.2.2.2.2.1 (F_t 27 0) o.2.2.2.2.2.2.2.2.2.2.2.2.2.2.2.2.2.2.2.2.2.2.2.1 o.2.2.2.2.2.2.2.2.2.2.2.2.2.2.2.2.2.2.2.2.2.2.2.2, ia g (Q_t 1) 240 (F_t 1), ia g (Q_t 13) 16 o.2.2.2.2.2.2.2.2.2.2.2.2.2.1, ia g (Q_t 14) 30 o.2.2.2.2.2.2.2.2.2.2.2.2.2.2.1, ia g (Q_t 18) 16 o.2.2.2.2.2.2.2.2.2.2.2.2.2.2.2.2.2.2.1, ia g (Q_t 19) 30 o.2.2.2.2.2.2.2.2.2.2.2.2.2.2.2.2.2.2.2.1, ia g (Q_t 20) 174 o.2.2.2.2.2.2.2.2.2.2.2.2.2.2.2.2.2.2.2.2.1, za g (Q_t 26) 2 o.2.2.2.2.2.2.2.2.2.2.2.2.2.2.2.2.2.2.2.2.2.2.1]) args s 0 0 A) 3 81 [oX10 q_t Q_t (0 : Int32) v_1.2.1 v_1.2.2.1 v_1.2.2.2.1 v_1.2.2.2.2.1 v_1.2.2.2.2.2.1 (-1 : Int32) v_1.2.2.2.2.2.2.2.1 v_1.2.2.2.2.2.2.2.2.1 v_1.2.2.2.2.2.2.2.2.2.1 v_1.2.2.2.2.2.2.2.2.2.2.1 v_1.2.2.2.2.2.2.2.2.2.2.2.1 v_1.2.2.2.2.2.2.2.2.2.1 v_1.2.2.2.2.2.2.2.2.2.2.1 v_1.2.2.2.2.2.2.2.2.2.2.2.1 (F_t 23 0) (F_t 27 0) (F_t 28 0) (F_t 30 0), ia g (Q_t 1) 240 (F_t 1), ia g (Q_t 13) 16 v_1.2.2.2.2.2.2.2.2.2.2.2.2.1, ia g (Q_t 14) 30 v_1.2.2.2.2.2.2.2.2.2.2.2.2.2, ia g (Q_t 18) 16 v, ia g (Q_t 19) 30 (F_t 19), ia g (Q_t 20) 174 (F_t 20), za g (Q_t 26) 2 (F_t 26)] [(0, .ref q_t)] []) (fun z r hb hc he => t_X10_works_b53 E q_t Q_t N (va_up (va_up (va_up (va_up (va_up (va_up (va_up (va_up (va_up (va_up (va_up (va_up (va_up (va_up (va_up (va_up (va_up (va_up F_t 0 (fun _ => (0 : Int32))) 2 (fun _ => v_1.2.1)) 3 (fun _ => v_1.2.2.1)) 4 (fun _ => v_1.2.2.2.1)) 5 (fun _ => v_1.2.2.2.2.1)) 6 (fun _ => v_1.2.2.2.2.2.1)) 7 (fun _ => (-1 : Int32))) 8 (fun _ => v_1.2.2.2.2.2.2.2.1)) 9 (fun _ => v_1.2.2.2.2.2.2.2.2.1)) 10 (fun _ => v_1.2.2.2.2.2.2.2.2.2.1)) 11 (fun _ => v_1.2.2.2.2.2.2.2.2.2.2.1)) 12 (fun _ => v_1.2.2.2.2.2.2.2.2.2.2.2.1)) 13 v_1.2.2.2.2.2.2.2.2.2.2.2.2.1) 14 v_1.2.2.2.2.2.2.2.2.2.2.2.2.2) 15 (fun _ => v_1.2.2.2.2.2.2.2.2.2.1)) 16 (fun _ => v_1.2.2.2.2.2.2.2.2.2.2.1)) 17 (fun _ => v_1.2.2.2.2.2.2.2.2.2.2.2.1)) 18 z.2) z.1 r hb hc he) N ((0 : Int32), (F_t 18)) v_7 hv_7 ?_ H locs ls hP hD hS (lv_sub hl [2, 0] rfl)
    intro H locs ls hP hD hS hl
    refine lv_iconst (v := (0 : Int32)) hx hb dX10_works_81 (by decide) ?_
    refine lv_istore_n (lv' := [(2, .int (0 : Int32)), (0, .ref q_t)]) hx hb dX10_works_82 rfl hl (by decide) rfl (fun ls hl => ?_)
    obtain ⟨v_12, hv_12, h⟩ := ox_bind h
    refine lpc_W (Wh := fun (z : Int32 × (Nat → Int32)) => WA p l e (rM 6 128) s m args below meth c g A (MQ below (QI g A o.1 [oX10 q_t Q_t o.2.1 o.2.2.1 o.2.2.2.1 o.2.2.2.2.1 o.2.2.2.2.2.1 o.2.2.2.2.2.2.1 o.2.2.2.2.2.2.2.1 o.2.2.2.2.2.2.2.2.1 o.2.2.2.2.2.2.2.2.2.1 o.2.2.2.2.2.2.2.2.2.2.1 o.2.2.2.2.2.2.2.2.2.2.2.1 o.2.2.2.2.2.2.2.2.2.2.2.2.1 o.2.2.2.2.2.2.2.2.2.2.2.2.2.2.2.1 o.2.2.2.2.2.2.2.2.2.2.2.2.2.2.2.2.1 o.2.2.2.2.2.2.2.2.2.2.2.2.2.2.2.2.2.1 o.2.2.2.2.2.2.2.2.2.2.2.2.2.2.2.2.2.2.2.2.2.1 (F_t 27 0) o.2.2.2.2.2.2.2.2.2.2.2.2.2.2.2.2.2.2.2.2.2.2.2.1 o.2.2.2.2.2.2.2.2.2.2.2.2.2.2.2.2.2.2.2.2.2.2.2.2, ia g (Q_t 1) 240 (F_t 1), ia g (Q_t 13) 16 o.2.2.2.2.2.2.2.2.2.2.2.2.2.1, ia g (Q_t 14) 30 o.2.2.2.2.2.2.2.2.2.2.2.2.2.2.1, ia g (Q_t 18) 16 o.2.2.2.2.2.2.2.2.2.2.2.2.2.2.2.2.2.2.1, ia g (Q_t 19) 30 o.2.2.2.2.2.2.2.2.2.2.2.2.2.2.2.2.2.2.2.1, ia g (Q_t 20) 174 o.2.2.2.2.2.2.2.2.2.2.2.2.2.2.2.2.2.2.2.2.1, za g (Q_t 26) 2 o.2.2.2.2.2.2.2.2.2.2.2.2.2.2.2.2.2.2.2.2.2.2.1]) args s 0 0 A) 3 83 [oX10 q_t Q_t (0 : Int32) v_1.2.1 v_1.2.2.1 v_1.2.2.2.1 v_1.2.2.2.2.1 v_1.2.2.2.2.2.1 (-1 : Int32) v_1.2.2.2.2.2.2.2.1 v_1.2.2.2.2.2.2.2.2.1 v_1.2.2.2.2.2.2.2.2.2.1 v_1.2.2.2.2.2.2.2.2.2.2.1 v_1.2.2.2.2.2.2.2.2.2.2.2.1 v_1.2.2.2.2.2.2.2.2.2.1 v_1.2.2.2.2.2.2.2.2.2.2.1 v_1.2.2.2.2.2.2.2.2.2.2.2.1 (F_t 23 0) (F_t 27 0) (F_t 28 0) (F_t 30 0), ia g (Q_t 1) 240 (F_t 1), ia g (Q_t 13) 16 v_1.2.2.2.2.2.2.2.2.2.2.2.2.1, ia g (Q_t 14) 30 v_1.2.2.2.2.2.2.2.2.2.2.2.2.2, ia g (Q_t 18) 16 v_7, ia g (Q_t 19) 30 z.2, ia g (Q_t 20) 174 (F_t 20), za g (Q_t 26) 2 (F_t 26)] [(0, .ref q_t), (2, .int z.1)] []) (We := fun (v : (Nat → Int32)) => WA p l e (rM 6 128) s m args below meth c g A (MQ below (QI g A o.1 [oX10 q_t Q_t o.2.1 o.2.2.1 o.2.2.2.1 o.2.2.2.2.1 o.2.2.2.2.2.1 o.2.2.2.2.2.2.1 o.2.2.2.2.2.2.2.1 o.2.2.2.2.2.2.2.2.1 o.2.2.2.2.2.2.2.2.2.1 o.2.2.2.2.2.2.2.2.2.2.1 o.2.2.2.2.2.2.2.2.2.2.2.1 o.2.2.2.2.2.2.2.2.2.2.2.2.1 o.2.2.2.2.2.2.2.2.2.2.2.2.2.2.2.1 o.2.2.2.2.2.2.2.2.2.2.2.2.2.2.2.2.1 o.2.2.2.2.2.2.2.2.2.2.2.2.2.2.2.2.2.1 o.2.2.2.2.2.2.2.2.2.2.2.2.2.2.2.2.2.2.2.2.2.1 (F_t 27 0) o.2.2.2.2.2.2.2.2.2.2.2.2.2.2.2.2.2.2.2.2.2.2.2.1 o.2.2.2.2.2.2.2.2.2.2.2.2.2.2.2.2.2.2.2.2.2.2.2.2, ia g (Q_t 1) 240 (F_t 1), ia g (Q_t 13) 16 o.2.2.2.2.2.2.2.2.2.2.2.2.2.1, ia g (Q_t 14) 30 o.2.2.2.2.2.2.2.2.2.2.2.2.2.2.1, ia g (Q_t 18) 16 o.2.2.2.2.2.2.2.2.2.2.2.2.2.2.2.2.2.2.1, ia g (Q_t 19) 30 o.2.2.2.2.2.2.2.2.2.2.2.2.2.2.2.2.2.2.2.1, ia g (Q_t 20) 174 o.2.2.2.2.2.2.2.2.2.2.2.2.2.2.2.2.2.2.2.2.1, za g (Q_t 26) 2 o.2.2.2.2.2.2.2.2.2.2.2.2.2.2.2.2.2.2.2.2.2.2.1]) args s 0 0 A) 3 111 [oX10 q_t Q_t (0 : Int32) v_1.2.1 v_1.2.2.1 v_1.2.2.2.1 v_1.2.2.2.2.1 v_1.2.2.2.2.2.1 (-1 : Int32) v_1.2.2.2.2.2.2.2.1 v_1.2.2.2.2.2.2.2.2.1 v_1.2.2.2.2.2.2.2.2.2.1 v_1.2.2.2.2.2.2.2.2.2.2.1 v_1.2.2.2.2.2.2.2.2.2.2.2.1 v_1.2.2.2.2.2.2.2.2.2.1 v_1.2.2.2.2.2.2.2.2.2.2.1 v_1.2.2.2.2.2.2.2.2.2.2.2.1 (F_t 23 0) (F_t 27 0) (F_t 28 0) (F_t 30 0), ia g (Q_t 1) 240 (F_t 1), ia g (Q_t 13) 16 v_1.2.2.2.2.2.2.2.2.2.2.2.2.1, ia g (Q_t 14) 30 v_1.2.2.2.2.2.2.2.2.2.2.2.2.2, ia g (Q_t 18) 16 v_7, ia g (Q_t 19) 30 v, ia g (Q_t 20) 174 (F_t 20), za g (Q_t 26) 2 (F_t 26)] [(0, .ref q_t)] []) (fun z r hb hc he => t_X10_works_b83 E q_t Q_t N (va_up (va_up (va_up (va_up (va_up (va_up (va_up (va_up (va_up (va_up (va_up (va_up (va_up (va_up (va_up (va_up (va_up (va_up (va_up F_t 0 (fun _ => (0 : Int32))) 2 (fun _ => v_1.2.1)) 3 (fun _ => v_1.2.2.1)) 4 (fun _ => v_1.2.2.2.1)) 5 (fun _ => v_1.2.2.2.2.1)) 6 (fun _ => v_1.2.2.2.2.2.1)) 7 (fun _ => (-1 : Int32))) 8 (fun _ => v_1.2.2.2.2.2.2.2.1)) 9 (fun _ => v_1.2.2.2.2.2.2.2.2.1)) 10 (fun _ => v_1.2.2.2.2.2.2.2.2.2.1)) 11 (fun _ => v_1.2.2.2.2.2.2.2.2.2.2.1)) 12 (fun _ => v_1.2.2.2.2.2.2.2.2.2.2.2.1)) 13 v_1.2.2.2.2.2.2.2.2.2.2.2.2.1) 14 v_1.2.2.2.2.2.2.2.2.2.2.2.2.2) 15 (fun _ => v_1.2.2.2.2.2.2.2.2.2.1)) 16 (fun _ => v_1.2.2.2.2.2.2.2.2.2.2.1)) 17 (fun _ => v_1.2.2.2.2.2.2.2.2.2.2.2.1)) 18 v_7) 19 z.2) z.1 r hb hc he) N ((0 : Int32), (F_t 19)) v_12 hv_12 ?_ H locs ls hP hD hS (lv_sub hl [1, 0] rfl)
    intro H locs ls hP hD hS hl
    refine lv_aload_n hx hb dX10_works_111 rfl (lv_at hl 0 rfl) ?_
    refine va_get (ci := 10) (v := .ref (Q_t 20)) (C := RX10) (T := TX10) (N := 38) hx hb hts (fun w h => .tail _ (u_inX10 w h)) hown hK.1 hP 0 rfl rfl 20 (by decide) (hts _ (.tail _ u_fl_X10_29)) (fun _ h9 => h9) rfl dX10_works_112 ?_
    obtain ⟨v_13, hv_13, h⟩ := ox_bind h
    refine kSv ⟨hx, hb, hml, hown, hts⟩ (c_X10_dry l g (Q_t 20) N (F_t 20) v_13 hv_13 H.size) (gS u_ml_X10_73 u_st_X10_dry u_ini_X10 u_co_X10_dry) hd_X10_dry ⟨rfl, rfl⟩ hK hP hD hS hA [6] [1, 2, 3, 4, 5, 6, 0, 8] rfl rfl 1 rfl (w2 := [oX10 q_t Q_t (0 : Int32) v_1.2.1 v_1.2.2.1 v_1.2.2.2.1 v_1.2.2.2.2.1 v_1.2.2.2.2.2.1 (-1 : Int32) v_1.2.2.2.2.2.2.2.1 v_1.2.2.2.2.2.2.2.2.1 v_1.2.2.2.2.2.2.2.2.2.1 v_1.2.2.2.2.2.2.2.2.2.2.1 v_1.2.2.2.2.2.2.2.2.2.2.2.1 v_1.2.2.2.2.2.2.2.2.2.1 v_1.2.2.2.2.2.2.2.2.2.2.1 v_1.2.2.2.2.2.2.2.2.2.2.2.1 (F_t 23 0) (F_t 27 0) (F_t 28 0) (F_t 30 0), ia g (Q_t 1) 240 (F_t 1), ia g (Q_t 13) 16 v_1.2.2.2.2.2.2.2.2.2.2.2.2.1, ia g (Q_t 14) 30 v_1.2.2.2.2.2.2.2.2.2.2.2.2.2, ia g (Q_t 18) 16 v_7, ia g (Q_t 19) 30 v_12, ia g (Q_t 20) 174 v_13, za g (Q_t 26) 2 (F_t 26)]) rfl rfl (As := [.ref (Q_t 20)]) (rest := []) rfl hl.1 rfl rfl dX10_works_115 (fun H locs hP hD hS => ?_)
    refine lv_aload_n hx hb dX10_works_118 rfl (lv_at hl 0 rfl) ?_
    obtain ⟨v_14, hv_14, h⟩ := ox_bind h
    refine kVv ⟨hx, hb, hml, hown, hts⟩ (c_X10_open l g q_t Q_t N (va_up (va_up (va_up (va_up (va_up (va_up (va_up (va_up (va_up (va_up (va_up (va_up (va_up (va_up (va_up (va_up (va_up (va_up (va_up (va_up F_t 0 (fun _ => (0 : Int32))) 2 (fun _ => v_1.2.1)) 3 (fun _ => v_1.2.2.1)) 4 (fun _ => v_1.2.2.2.1)) 5 (fun _ => v_1.2.2.2.2.1)) 6 (fun _ => v_1.2.2.2.2.2.1)) 7 (fun _ => (-1 : Int32))) 8 (fun _ => v_1.2.2.2.2.2.2.2.1)) 9 (fun _ => v_1.2.2.2.2.2.2.2.2.1)) 10 (fun _ => v_1.2.2.2.2.2.2.2.2.2.1)) 11 (fun _ => v_1.2.2.2.2.2.2.2.2.2.2.1)) 12 (fun _ => v_1.2.2.2.2.2.2.2.2.2.2.2.1)) 13 v_1.2.2.2.2.2.2.2.2.2.2.2.2.1) 14 v_1.2.2.2.2.2.2.2.2.2.2.2.2.2) 15 (fun _ => v_1.2.2.2.2.2.2.2.2.2.1)) 16 (fun _ => v_1.2.2.2.2.2.2.2.2.2.2.1)) 17 (fun _ => v_1.2.2.2.2.2.2.2.2.2.2.2.1)) 18 v_7) 19 v_12) 20 v_13) v_14 hv_14 H.size) (gV u_ml_X10_77 u_im_X10_open u_se_X10_open u_ini_X10 u_co_X10_open) hd_X10_open ⟨rfl, rfl⟩ hK hP hD hS hA 0 10 rfl rfl [0, 6] [0, 3, 4, 5, 6, 7, 1, 9] rfl rfl 2 rfl (w2 := [oX10 q_t Q_t (0 : Int32) v_1.2.1 v_1.2.2.1 v_1.2.2.2.1 v_1.2.2.2.2.1 v_1.2.2.2.2.2.1 (-1 : Int32) v_1.2.2.2.2.2.2.2.1 v_1.2.2.2.2.2.2.2.2.1 v_1.2.2.2.2.2.2.2.2.2.1 v_1.2.2.2.2.2.2.2.2.2.2.1 v_1.2.2.2.2.2.2.2.2.2.2.2.1 v_1.2.2.2.2.2.2.2.2.2.1 v_1.2.2.2.2.2.2.2.2.2.2.1 v_1.2.2.2.2.2.2.2.2.2.2.2.1 (F_t 23 0) (F_t 27 0) (F_t 28 0) (F_t 30 0), ia g (Q_t 1) 240 (F_t 1), ia g (Q_t 13) 16 v_1.2.2.2.2.2.2.2.2.2.2.2.2.1, ia g (Q_t 14) 30 v_1.2.2.2.2.2.2.2.2.2.2.2.2.2, ia g (Q_t 18) 16 v_7, ia g (Q_t 19) 30 v_12, ia g (Q_t 20) 174 v_14, za g (Q_t 26) 2 (F_t 26)]) rfl rfl (As := []) (rest := []) rfl hl.1 rfl rfl dX10_works_119 (fun H locs hP hD hS => ?_)
    refine lv_aload_n hx hb dX10_works_122 rfl (lv_at hl 0 rfl) ?_
    refine lv_iconst (v := (0 : Int32)) hx hb dX10_works_123 (by decide) ?_
    refine va_put (ci := 10) (v := .int (0 : Int32)) (ty := .int) (C := RX10) (T := TX10) (N := 38) hx hb hts (fun w h => .tail _ (u_inX10 w h)) tyX10 tyX10_ok nmX10 hown hK.1 hP hD hS 0 rfl rfl 28 (by decide) (hts _ (.tail _ u_fl_X10_159)) (fun _ h9 => h9) rfl (tyX10_ok 28 (by decide)) rfl rfl (Nat.le_of_ble_eq_true rfl) dX10_works_124 (fun H locs hP hD hS => ?_)
    have hP : va_P g.1 vwCl [oX10 q_t Q_t (0 : Int32) v_1.2.1 v_1.2.2.1 v_1.2.2.2.1 v_1.2.2.2.2.1 v_1.2.2.2.2.2.1 (-1 : Int32) v_1.2.2.2.2.2.2.2.1 v_1.2.2.2.2.2.2.2.2.1 v_1.2.2.2.2.2.2.2.2.2.1 v_1.2.2.2.2.2.2.2.2.2.2.1 v_1.2.2.2.2.2.2.2.2.2.2.2.1 v_1.2.2.2.2.2.2.2.2.2.1 v_1.2.2.2.2.2.2.2.2.2.2.1 v_1.2.2.2.2.2.2.2.2.2.2.2.1 (F_t 23 0) (F_t 27 0) (0 : Int32) (F_t 30 0), ia g (Q_t 1) 240 (F_t 1), ia g (Q_t 13) 16 v_1.2.2.2.2.2.2.2.2.2.2.2.2.1, ia g (Q_t 14) 30 v_1.2.2.2.2.2.2.2.2.2.2.2.2.2, ia g (Q_t 18) 16 v_7, ia g (Q_t 19) 30 v_12, ia g (Q_t 20) 174 v_14, za g (Q_t 26) 2 (F_t 26)] H := hP
    have hD : va_D A [oX10 q_t Q_t (0 : Int32) v_1.2.1 v_1.2.2.1 v_1.2.2.2.1 v_1.2.2.2.2.1 v_1.2.2.2.2.2.1 (-1 : Int32) v_1.2.2.2.2.2.2.2.1 v_1.2.2.2.2.2.2.2.2.1 v_1.2.2.2.2.2.2.2.2.2.1 v_1.2.2.2.2.2.2.2.2.2.2.1 v_1.2.2.2.2.2.2.2.2.2.2.2.1 v_1.2.2.2.2.2.2.2.2.2.1 v_1.2.2.2.2.2.2.2.2.2.2.1 v_1.2.2.2.2.2.2.2.2.2.2.2.1 (F_t 23 0) (F_t 27 0) (0 : Int32) (F_t 30 0), ia g (Q_t 1) 240 (F_t 1), ia g (Q_t 13) 16 v_1.2.2.2.2.2.2.2.2.2.2.2.2.1, ia g (Q_t 14) 30 v_1.2.2.2.2.2.2.2.2.2.2.2.2.2, ia g (Q_t 18) 16 v_7, ia g (Q_t 19) 30 v_12, ia g (Q_t 20) 174 v_14, za g (Q_t 26) 2 (F_t 26)] := hD
    refine lv_aload_n hx hb dX10_works_127 rfl (lv_at hl 0 rfl) ?_
    refine lv_iconst (v := (0 : Int32)) hx hb dX10_works_128 (by decide) ?_
    refine va_put (ci := 10) (v := .int (0 : Int32)) (ty := .int) (C := RX10) (T := TX10) (N := 38) hx hb hts (fun w h => .tail _ (u_inX10 w h)) tyX10 tyX10_ok nmX10 hown hK.1 hP hD hS 0 rfl rfl 30 (by decide) (hts _ (.tail _ u_fl_X10_162)) (fun _ h9 => h9) rfl (tyX10_ok 30 (by decide)) rfl rfl (Nat.le_of_ble_eq_true rfl) dX10_works_129 (fun H locs hP hD hS => ?_)
    have hP : va_P g.1 vwCl [oX10 q_t Q_t (0 : Int32) v_1.2.1 v_1.2.2.1 v_1.2.2.2.1 v_1.2.2.2.2.1 v_1.2.2.2.2.2.1 (-1 : Int32) v_1.2.2.2.2.2.2.2.1 v_1.2.2.2.2.2.2.2.2.1 v_1.2.2.2.2.2.2.2.2.2.1 v_1.2.2.2.2.2.2.2.2.2.2.1 v_1.2.2.2.2.2.2.2.2.2.2.2.1 v_1.2.2.2.2.2.2.2.2.2.1 v_1.2.2.2.2.2.2.2.2.2.2.1 v_1.2.2.2.2.2.2.2.2.2.2.2.1 (F_t 23 0) (F_t 27 0) (0 : Int32) (0 : Int32), ia g (Q_t 1) 240 (F_t 1), ia g (Q_t 13) 16 v_1.2.2.2.2.2.2.2.2.2.2.2.2.1, ia g (Q_t 14) 30 v_1.2.2.2.2.2.2.2.2.2.2.2.2.2, ia g (Q_t 18) 16 v_7, ia g (Q_t 19) 30 v_12, ia g (Q_t 20) 174 v_14, za g (Q_t 26) 2 (F_t 26)] H := hP
    have hD : va_D A [oX10 q_t Q_t (0 : Int32) v_1.2.1 v_1.2.2.1 v_1.2.2.2.1 v_1.2.2.2.2.1 v_1.2.2.2.2.2.1 (-1 : Int32) v_1.2.2.2.2.2.2.2.1 v_1.2.2.2.2.2.2.2.2.1 v_1.2.2.2.2.2.2.2.2.2.1 v_1.2.2.2.2.2.2.2.2.2.2.1 v_1.2.2.2.2.2.2.2.2.2.2.2.1 v_1.2.2.2.2.2.2.2.2.2.1 v_1.2.2.2.2.2.2.2.2.2.2.1 v_1.2.2.2.2.2.2.2.2.2.2.2.1 (F_t 23 0) (F_t 27 0) (0 : Int32) (0 : Int32), ia g (Q_t 1) 240 (F_t 1), ia g (Q_t 13) 16 v_1.2.2.2.2.2.2.2.2.2.2.2.2.1, ia g (Q_t 14) 30 v_1.2.2.2.2.2.2.2.2.2.2.2.2.2, ia g (Q_t 18) 16 v_7, ia g (Q_t 19) 30 v_12, ia g (Q_t 20) 174 v_14, za g (Q_t 26) 2 (F_t 26)] := hD
    refine lv_aload_n hx hb dX10_works_132 rfl (lv_at hl 0 rfl) ?_
    refine va_get (ci := 10) (v := .ref (Q_t 26)) (C := RX10) (T := TX10) (N := 38) hx hb hts (fun w h => .tail _ (u_inX10 w h)) hown hK.1 hP 0 rfl rfl 26 (by decide) (hts _ (.tail _ u_fl_X10_44)) (fun _ h9 => h9) rfl dX10_works_133 ?_
    refine lv_iconst (v := (0 : Int32)) hx hb dX10_works_136 (by decide) ?_
    refine lv_iconst (v := (0 : Int32)) hx hb dX10_works_137 (by decide) ?_
    refine va_zast hx hb hK.1 hP hD hS 7 2 rfl rfl (by unfold vp_in; decide) dX10_works_138 (fun H locs hP hD hS => ?_)
    have hP : va_P g.1 vwCl [oX10 q_t Q_t (0 : Int32) v_1.2.1 v_1.2.2.1 v_1.2.2.2.1 v_1.2.2.2.2.1 v_1.2.2.2.2.2.1 (-1 : Int32) v_1.2.2.2.2.2.2.2.1 v_1.2.2.2.2.2.2.2.2.1 v_1.2.2.2.2.2.2.2.2.2.1 v_1.2.2.2.2.2.2.2.2.2.2.1 v_1.2.2.2.2.2.2.2.2.2.2.2.1 v_1.2.2.2.2.2.2.2.2.2.1 v_1.2.2.2.2.2.2.2.2.2.2.1 v_1.2.2.2.2.2.2.2.2.2.2.2.1 (F_t 23 0) (F_t 27 0) (0 : Int32) (0 : Int32), ia g (Q_t 1) 240 (F_t 1), ia g (Q_t 13) 16 v_1.2.2.2.2.2.2.2.2.2.2.2.2.1, ia g (Q_t 14) 30 v_1.2.2.2.2.2.2.2.2.2.2.2.2.2, ia g (Q_t 18) 16 v_7, ia g (Q_t 19) 30 v_12, ia g (Q_t 20) 174 v_14, za g (Q_t 26) 2 (upd (F_t 26) (0 : Int32).toNatClampNeg (vp_nar .boolean (0 : Int32)))] H := hP
    have hD : va_D A [oX10 q_t Q_t (0 : Int32) v_1.2.1 v_1.2.2.1 v_1.2.2.2.1 v_1.2.2.2.2.1 v_1.2.2.2.2.2.1 (-1 : Int32) v_1.2.2.2.2.2.2.2.1 v_1.2.2.2.2.2.2.2.2.1 v_1.2.2.2.2.2.2.2.2.2.1 v_1.2.2.2.2.2.2.2.2.2.2.1 v_1.2.2.2.2.2.2.2.2.2.2.2.1 v_1.2.2.2.2.2.2.2.2.2.1 v_1.2.2.2.2.2.2.2.2.2.2.1 v_1.2.2.2.2.2.2.2.2.2.2.2.1 (F_t 23 0) (F_t 27 0) (0 : Int32) (0 : Int32), ia g (Q_t 1) 240 (F_t 1), ia g (Q_t 13) 16 v_1.2.2.2.2.2.2.2.2.2.2.2.2.1, ia g (Q_t 14) 30 v_1.2.2.2.2.2.2.2.2.2.2.2.2.2, ia g (Q_t 18) 16 v_7, ia g (Q_t 19) 30 v_12, ia g (Q_t 20) 174 v_14, za g (Q_t 26) 2 (upd (F_t 26) (0 : Int32).toNatClampNeg (vp_nar .boolean (0 : Int32)))] := hD
    refine lv_aload_n hx hb dX10_works_139 rfl (lv_at hl 0 rfl) ?_
    refine va_get (ci := 10) (v := .ref (Q_t 26)) (C := RX10) (T := TX10) (N := 38) hx hb hts (fun w h => .tail _ (u_inX10 w h)) hown hK.1 hP 0 rfl rfl 26 (by decide) (hts _ (.tail _ u_fl_X10_44)) (fun _ h9 => h9) rfl dX10_works_140 ?_
    refine lv_iconst (v := (1 : Int32)) hx hb dX10_works_143 (by decide) ?_
    refine lv_iconst (v := (0 : Int32)) hx hb dX10_works_144 (by decide) ?_
    refine va_zast hx hb hK.1 hP hD hS 7 2 rfl rfl (by unfold vp_in; decide) dX10_works_145 (fun H locs hP hD hS => ?_)
    have hP : va_P g.1 vwCl [oX10 q_t Q_t (0 : Int32) v_1.2.1 v_1.2.2.1 v_1.2.2.2.1 v_1.2.2.2.2.1 v_1.2.2.2.2.2.1 (-1 : Int32) v_1.2.2.2.2.2.2.2.1 v_1.2.2.2.2.2.2.2.2.1 v_1.2.2.2.2.2.2.2.2.2.1 v_1.2.2.2.2.2.2.2.2.2.2.1 v_1.2.2.2.2.2.2.2.2.2.2.2.1 v_1.2.2.2.2.2.2.2.2.2.1 v_1.2.2.2.2.2.2.2.2.2.2.1 v_1.2.2.2.2.2.2.2.2.2.2.2.1 (F_t 23 0) (F_t 27 0) (0 : Int32) (0 : Int32), ia g (Q_t 1) 240 (F_t 1), ia g (Q_t 13) 16 v_1.2.2.2.2.2.2.2.2.2.2.2.2.1, ia g (Q_t 14) 30 v_1.2.2.2.2.2.2.2.2.2.2.2.2.2, ia g (Q_t 18) 16 v_7, ia g (Q_t 19) 30 v_12, ia g (Q_t 20) 174 v_14, za g (Q_t 26) 2 (upd (upd (F_t 26) (0 : Int32).toNatClampNeg (vp_nar .boolean (0 : Int32))) (1 : Int32).toNatClampNeg (vp_nar .boolean (0 : Int32)))] H := hP
    have hD : va_D A [oX10 q_t Q_t (0 : Int32) v_1.2.1 v_1.2.2.1 v_1.2.2.2.1 v_1.2.2.2.2.1 v_1.2.2.2.2.2.1 (-1 : Int32) v_1.2.2.2.2.2.2.2.1 v_1.2.2.2.2.2.2.2.2.1 v_1.2.2.2.2.2.2.2.2.2.1 v_1.2.2.2.2.2.2.2.2.2.2.1 v_1.2.2.2.2.2.2.2.2.2.2.2.1 v_1.2.2.2.2.2.2.2.2.2.1 v_1.2.2.2.2.2.2.2.2.2.2.1 v_1.2.2.2.2.2.2.2.2.2.2.2.1 (F_t 23 0) (F_t 27 0) (0 : Int32) (0 : Int32), ia g (Q_t 1) 240 (F_t 1), ia g (Q_t 13) 16 v_1.2.2.2.2.2.2.2.2.2.2.2.2.1, ia g (Q_t 14) 30 v_1.2.2.2.2.2.2.2.2.2.2.2.2.2, ia g (Q_t 18) 16 v_7, ia g (Q_t 19) 30 v_12, ia g (Q_t 20) 174 v_14, za g (Q_t 26) 2 (upd (upd (F_t 26) (0 : Int32).toNatClampNeg (vp_nar .boolean (0 : Int32))) (1 : Int32).toNatClampNeg (vp_nar .boolean (0 : Int32)))] := hD
    refine lv_aload_n hx hb dX10_works_146 rfl (lv_at hl 0 rfl) ?_
    refine lv_iconst (v := (0 : Int32)) hx hb dX10_works_147 (by decide) ?_
    refine va_put (ci := 10) (v := .int (0 : Int32)) (ty := .int) (C := RX10) (T := TX10) (N := 38) hx hb hts (fun w h => .tail _ (u_inX10 w h)) tyX10 tyX10_ok nmX10 hown hK.1 hP hD hS 0 rfl rfl 23 (by decide) (hts _ (.tail _ u_fl_X10_165)) (fun _ h9 => h9) rfl (tyX10_ok 23 (by decide)) rfl rfl (Nat.le_of_ble_eq_true rfl) dX10_works_148 (fun H locs hP hD hS => ?_)
    have hP : va_P g.1 vwCl [oX10 q_t Q_t (0 : Int32) v_1.2.1 v_1.2.2.1 v_1.2.2.2.1 v_1.2.2.2.2.1 v_1.2.2.2.2.2.1 (-1 : Int32) v_1.2.2.2.2.2.2.2.1 v_1.2.2.2.2.2.2.2.2.1 v_1.2.2.2.2.2.2.2.2.2.1 v_1.2.2.2.2.2.2.2.2.2.2.1 v_1.2.2.2.2.2.2.2.2.2.2.2.1 v_1.2.2.2.2.2.2.2.2.2.1 v_1.2.2.2.2.2.2.2.2.2.2.1 v_1.2.2.2.2.2.2.2.2.2.2.2.1 (0 : Int32) (F_t 27 0) (0 : Int32) (0 : Int32), ia g (Q_t 1) 240 (F_t 1), ia g (Q_t 13) 16 v_1.2.2.2.2.2.2.2.2.2.2.2.2.1, ia g (Q_t 14) 30 v_1.2.2.2.2.2.2.2.2.2.2.2.2.2, ia g (Q_t 18) 16 v_7, ia g (Q_t 19) 30 v_12, ia g (Q_t 20) 174 v_14, za g (Q_t 26) 2 (upd (upd (F_t 26) (0 : Int32).toNatClampNeg (vp_nar .boolean (0 : Int32))) (1 : Int32).toNatClampNeg (vp_nar .boolean (0 : Int32)))] H := hP
    have hD : va_D A [oX10 q_t Q_t (0 : Int32) v_1.2.1 v_1.2.2.1 v_1.2.2.2.1 v_1.2.2.2.2.1 v_1.2.2.2.2.2.1 (-1 : Int32) v_1.2.2.2.2.2.2.2.1 v_1.2.2.2.2.2.2.2.2.1 v_1.2.2.2.2.2.2.2.2.2.1 v_1.2.2.2.2.2.2.2.2.2.2.1 v_1.2.2.2.2.2.2.2.2.2.2.2.1 v_1.2.2.2.2.2.2.2.2.2.1 v_1.2.2.2.2.2.2.2.2.2.2.1 v_1.2.2.2.2.2.2.2.2.2.2.2.1 (0 : Int32) (F_t 27 0) (0 : Int32) (0 : Int32), ia g (Q_t 1) 240 (F_t 1), ia g (Q_t 13) 16 v_1.2.2.2.2.2.2.2.2.2.2.2.2.1, ia g (Q_t 14) 30 v_1.2.2.2.2.2.2.2.2.2.2.2.2.2, ia g (Q_t 18) 16 v_7, ia g (Q_t 19) 30 v_12, ia g (Q_t 20) 174 v_14, za g (Q_t 26) 2 (upd (upd (F_t 26) (0 : Int32).toNatClampNeg (vp_nar .boolean (0 : Int32))) (1 : Int32).toNatClampNeg (vp_nar .boolean (0 : Int32)))] := hD
    refine lv_aload_n hx hb dX10_works_151 rfl (lv_at hl 0 rfl) ?_
    refine va_get (ci := 10) (v := .int v_1.2.2.2.2.2.2.2.2.2.2.1) (C := RX10) (T := TX10) (N := 38) hx hb hts (fun w h => .tail _ (u_inX10 w h)) hown hK.1 hP 0 rfl rfl 16 (by decide) (hts _ (.tail _ u_fl_X10_80)) (fun _ h9 => h9) rfl dX10_works_152 ?_
    obtain rfl := Option.some.inj h
    exact k_iret hx hb hr hlk hP hD hS dX10_works_155
  · have h := ox_t c_2 h
    refine lv_bipush (v := (-10 : Int32)) hx hb dX10_works_14 (by decide) ?_
    refine lv_aload_n hx hb dX10_works_16 rfl (lv_at hl 1 rfl) ?_
    refine va_get (ci := 10) (v := .int v_1.2.2.2.2.2.2.2.1) (C := RX10) (T := TX10) (N := 38) hx hb hts (fun w h => .tail _ (u_inX10 w h)) hown hK.1 hP 0 rfl rfl 8 (by decide) (hts _ (.tail _ u_fl_X10_110)) (fun _ h9 => h9) rfl dX10_works_17 ?_
    refine lv_isub hx hb dX10_works_20 ?_
    obtain rfl := Option.some.inj h
    exact k_iret hx hb hr hlk hP hD hS dX10_works_21
set_option maxRecDepth 100000 in
theorem c_X10_works (l : Launch) (g : gG) (q_t : Nat) (Q_t : Ad) (N : Nat) (F_t : St) (o : Int32 × Int32 × Int32 × Int32 × Int32 × Int32 × Int32 × Int32 × Int32 × Int32 × Int32 × Int32 × Int32 × (Nat → Int32) × (Nat → Int32) × Int32 × Int32 × Int32 × (Nat → Int32) × (Nat → Int32) × (Nat → Int32) × Int32 × (Nat → Int32) × Int32 × Int32) (h : x_X10_works N F_t = some o) (sz : Nat) : MetI l yX10_works (.code yX10_works cX10_works 3 (some .int) :: gW) 6 128 [.ref q_t] o.1 g [oX10 q_t Q_t (F_t 0 0) (F_t 2 0) (F_t 3 0) (F_t 4 0) (F_t 5 0) (F_t 6 0) (F_t 7 0) (F_t 8 0) (F_t 9 0) (F_t 10 0) (F_t 11 0) (F_t 12 0) (F_t 15 0) (F_t 16 0) (F_t 17 0) (F_t 23 0) (F_t 27 0) (F_t 28 0) (F_t 30 0), ia g (Q_t 1) 240 (F_t 1), ia g (Q_t 13) 16 (F_t 13), ia g (Q_t 14) 30 (F_t 14), ia g (Q_t 18) 16 (F_t 18), ia g (Q_t 19) 30 (F_t 19), ia g (Q_t 20) 174 (F_t 20), za g (Q_t 26) 2 (F_t 26)] [oX10 q_t Q_t o.2.1 o.2.2.1 o.2.2.2.1 o.2.2.2.2.1 o.2.2.2.2.2.1 o.2.2.2.2.2.2.1 o.2.2.2.2.2.2.2.1 o.2.2.2.2.2.2.2.2.1 o.2.2.2.2.2.2.2.2.2.1 o.2.2.2.2.2.2.2.2.2.2.1 o.2.2.2.2.2.2.2.2.2.2.2.1 o.2.2.2.2.2.2.2.2.2.2.2.2.1 o.2.2.2.2.2.2.2.2.2.2.2.2.2.2.2.1 o.2.2.2.2.2.2.2.2.2.2.2.2.2.2.2.2.1 o.2.2.2.2.2.2.2.2.2.2.2.2.2.2.2.2.2.1 o.2.2.2.2.2.2.2.2.2.2.2.2.2.2.2.2.2.2.2.2.2.1 (F_t 27 0) o.2.2.2.2.2.2.2.2.2.2.2.2.2.2.2.2.2.2.2.2.2.2.2.1 o.2.2.2.2.2.2.2.2.2.2.2.2.2.2.2.2.2.2.2.2.2.2.2.2, ia g (Q_t 1) 240 (F_t 1), ia g (Q_t 13) 16 o.2.2.2.2.2.2.2.2.2.2.2.2.2.1, ia g (Q_t 14) 30 o.2.2.2.2.2.2.2.2.2.2.2.2.2.2.1, ia g (Q_t 18) 16 o.2.2.2.2.2.2.2.2.2.2.2.2.2.2.2.2.2.2.1, ia g (Q_t 19) 30 o.2.2.2.2.2.2.2.2.2.2.2.2.2.2.2.2.2.2.2.1, ia g (Q_t 20) 174 o.2.2.2.2.2.2.2.2.2.2.2.2.2.2.2.2.2.2.2.2.1, za g (Q_t 26) 2 o.2.2.2.2.2.2.2.2.2.2.2.2.2.2.2.2.2.2.2.2.2.2.1] sz :=
  mkI (av := [.ref q_t]) (by decide +kernel) rfl (fun p e s m below meth c A E H locs ls hP hD hS hl => t_X10_works E q_t Q_t N F_t o h H locs ls hP hD hS hl) sz
def x_X10_fault (F_t : St) : Option (Int32) :=
  some (F_t 7 0)
set_option maxHeartbeats 4000000 in
set_option maxRecDepth 100000 in
theorem t_X10_fault {p : Program} {l : Launch} {e : Env} {s : State} {m : MethodId} {args : Array Value} {below : List Frame} {meth : Method} {c : Code} {g : gG} {A : Nat → Prop} (E : En p s m args meth c g A cX10_fault 1 (.code yX10_fault cX10_fault 1 (some .int) :: gW) RX10 (some .int)) (q_t : Nat) (Q_t : Ad) (F_t : St) (o : Int32) (h : x_X10_fault F_t = some o) : WA p l e (rM 0 0) s m args below meth c g A (MQ below (QI g A o [oX10 q_t Q_t (F_t 0 0) (F_t 2 0) (F_t 3 0) (F_t 4 0) (F_t 5 0) (F_t 6 0) (F_t 7 0) (F_t 8 0) (F_t 9 0) (F_t 10 0) (F_t 11 0) (F_t 12 0) (F_t 15 0) (F_t 16 0) (F_t 17 0) (F_t 23 0) (F_t 27 0) (F_t 28 0) (F_t 30 0)]) args s 0 0 A) 1 0 [oX10 q_t Q_t (F_t 0 0) (F_t 2 0) (F_t 3 0) (F_t 4 0) (F_t 5 0) (F_t 6 0) (F_t 7 0) (F_t 8 0) (F_t 9 0) (F_t 10 0) (F_t 11 0) (F_t 12 0) (F_t 15 0) (F_t 16 0) (F_t 17 0) (F_t 23 0) (F_t 27 0) (F_t 28 0) (F_t 30 0)] [(0, .ref q_t)] [] := by
  obtain ⟨⟨hx, hb, hml, hown, hts⟩, hr, hK, hA, hlk⟩ := id E
  intro H locs ls hP hD hS hl
  refine lv_aload_n hx hb dX10_fault_0 rfl (lv_at hl 0 rfl) ?_
  refine va_get (ci := 10) (v := .int (F_t 7 0)) (C := RX10) (T := TX10) (N := 38) hx hb hts (fun w h => .tail _ (u_inX10 w h)) hown hK.1 hP 0 rfl rfl 7 (by decide) (hts _ (.tail _ u_fl_X10_13)) (fun _ h9 => h9) rfl dX10_fault_1 ?_
  obtain rfl := Option.some.inj h
  exact k_iret hx hb hr hlk hP hD hS dX10_fault_4
set_option maxRecDepth 100000 in
theorem c_X10_fault (l : Launch) (g : gG) (q_t : Nat) (Q_t : Ad) (F_t : St) (o : Int32) (h : x_X10_fault F_t = some o) (sz : Nat) : MetI l yX10_fault (.code yX10_fault cX10_fault 1 (some .int) :: gW) 0 0 [.ref q_t] o g [oX10 q_t Q_t (F_t 0 0) (F_t 2 0) (F_t 3 0) (F_t 4 0) (F_t 5 0) (F_t 6 0) (F_t 7 0) (F_t 8 0) (F_t 9 0) (F_t 10 0) (F_t 11 0) (F_t 12 0) (F_t 15 0) (F_t 16 0) (F_t 17 0) (F_t 23 0) (F_t 27 0) (F_t 28 0) (F_t 30 0)] [oX10 q_t Q_t (F_t 0 0) (F_t 2 0) (F_t 3 0) (F_t 4 0) (F_t 5 0) (F_t 6 0) (F_t 7 0) (F_t 8 0) (F_t 9 0) (F_t 10 0) (F_t 11 0) (F_t 12 0) (F_t 15 0) (F_t 16 0) (F_t 17 0) (F_t 23 0) (F_t 27 0) (F_t 28 0) (F_t 30 0)] sz :=
  mkI (av := [.ref q_t]) (by decide +kernel) rfl (fun p e s m below meth c A E H locs ls hP hD hS hl => t_X10_fault E q_t Q_t F_t o h H locs ls hP hD hS hl) sz
def x_X10_onTheWay_b4 (N : Nat) (F_t : St) (x1 : Int32) (x2 : Int32) : Option ((Int32 × Int32) ⊕ (Int32)) :=
  if (80 : Int32) ≤ x2 then (some (.inr x1)) else (if x2 < 0 ∨ 174 ≤ x2.toNatClampNeg then none else Option.bind (x_X10_bits N ((F_t 20) x2.toNatClampNeg)) (fun v_3 => xl (x1 + v_3) (fun y_4 => some (.inl (y_4, (x2 + (1 : Int32)))))))
set_option maxHeartbeats 4000000 in
set_option maxRecDepth 100000 in
theorem t_X10_onTheWay_b4 {p : Program} {l : Launch} {e : Env} {s : State} {m : MethodId} {args : Array Value} {below : List Frame} {meth : Method} {c : Code} {g : gG} {A : Nat → Prop} {Q : State → Prop} (E : En p s m args meth c g A cX10_onTheWay 3 (.code yX10_onTheWay cX10_onTheWay 3 (some .int) :: gW) RX10 (some .int)) (q_t : Nat) (Q_t : Ad) (N : Nat) (F_t : St) (x1 : Int32) (x2 : Int32) (o : (Int32 × Int32) ⊕ (Int32)) (h : x_X10_onTheWay_b4 N F_t x1 x2 = some o) (hc : ∀ z, o = .inl z → WA p l e (rM 1 22) s m args below meth c g A Q 3 4 [oX10 q_t Q_t (F_t 0 0) (F_t 2 0) (F_t 3 0) (F_t 4 0) (F_t 5 0) (F_t 6 0) (F_t 7 0) (F_t 8 0) (F_t 9 0) (F_t 10 0) (F_t 11 0) (F_t 12 0) (F_t 15 0) (F_t 16 0) (F_t 17 0) (F_t 23 0) (F_t 27 0) (F_t 28 0) (F_t 30 0), ia g (Q_t 20) 174 (F_t 20)] [(0, .ref q_t), (1, .int z.1), (2, .int z.2)] []) (he : ∀ v, o = .inr v → WA p l e (rM 1 22) s m args below meth c g A Q 3 28 [oX10 q_t Q_t (F_t 0 0) (F_t 2 0) (F_t 3 0) (F_t 4 0) (F_t 5 0) (F_t 6 0) (F_t 7 0) (F_t 8 0) (F_t 9 0) (F_t 10 0) (F_t 11 0) (F_t 12 0) (F_t 15 0) (F_t 16 0) (F_t 17 0) (F_t 23 0) (F_t 27 0) (F_t 28 0) (F_t 30 0), ia g (Q_t 20) 174 (F_t 20)] [(1, .int v)] []) : WA p l e (rM 1 22) s m args below meth c g A Q 3 4 [oX10 q_t Q_t (F_t 0 0) (F_t 2 0) (F_t 3 0) (F_t 4 0) (F_t 5 0) (F_t 6 0) (F_t 7 0) (F_t 8 0) (F_t 9 0) (F_t 10 0) (F_t 11 0) (F_t 12 0) (F_t 15 0) (F_t 16 0) (F_t 17 0) (F_t 23 0) (F_t 27 0) (F_t 28 0) (F_t 30 0), ia g (Q_t 20) 174 (F_t 20)] [(0, .ref q_t), (1, .int x1), (2, .int x2)] [] := by
  obtain ⟨⟨hx, hb, hml, hown, hts⟩, hr, hK, hA, hlk⟩ := id E
  intro H locs ls hP hD hS hl
  refine lv_iload_n hx hb dX10_onTheWay_4 rfl (lv_at hl 2 rfl) ?_
  refine lv_bipush (v := (80 : Int32)) hx hb dX10_onTheWay_5 (by decide) ?_
  refine lv_icmp_ge (tgt := 28) hx hb dX10_onTheWay_7 (by decide) (fun c_1 => ?_) (fun c_1 => ?_)
  · have h := ox_t c_1 h
    obtain rfl := Option.some.inj h
    exact he _ rfl H locs ls hP hD hS (lv_sub hl [1] rfl)
  · have h := ox_f c_1 h
    refine lv_iload_n hx hb dX10_onTheWay_10 rfl (lv_at hl 1 rfl) ?_
    refine lv_aload_n hx hb dX10_onTheWay_11 rfl (lv_at hl 0 rfl) ?_
    refine va_get (ci := 10) (v := .ref (Q_t 20)) (C := RX10) (T := TX10) (N := 38) hx hb hts (fun w h => .tail _ (u_inX10 w h)) hown hK.1 hP 0 rfl rfl 20 (by decide) (hts _ (.tail _ u_fl_X10_29)) (fun _ h9 => h9) rfl dX10_onTheWay_12 ?_
    refine lv_iload_n hx hb dX10_onTheWay_15 rfl (lv_at hl 2 rfl) ?_
    obtain ⟨hi_2, h⟩ := ox_chk h
    refine va_iald hx hb hK.1 hP 1 0 rfl rfl hi_2 dX10_onTheWay_16 ?_
    obtain ⟨v_3, hv_3, h⟩ := ox_bind h
    refine kSi ⟨hx, hb, hml, hown, hts⟩ (c_X10_bits l g N ((F_t 20) x2.toNatClampNeg) v_3 hv_3 H.size) (gS u_ml_X10_168 u_st_X10_bits u_ini_X10 u_co_X10_bits) hd_X10_bits ⟨rfl, rfl⟩ hK hP hD hS hA [] [0, 1] rfl rfl 0 rfl (w2 := [oX10 q_t Q_t (F_t 0 0) (F_t 2 0) (F_t 3 0) (F_t 4 0) (F_t 5 0) (F_t 6 0) (F_t 7 0) (F_t 8 0) (F_t 9 0) (F_t 10 0) (F_t 11 0) (F_t 12 0) (F_t 15 0) (F_t 16 0) (F_t 17 0) (F_t 23 0) (F_t 27 0) (F_t 28 0) (F_t 30 0), ia g (Q_t 20) 174 (F_t 20)]) rfl rfl (As := [.int ((F_t 20) x2.toNatClampNeg)]) (rest := [.int x1]) rfl hl.1 rfl rfl dX10_onTheWay_17 (fun H locs hP hD hS => ?_)
    refine lv_iadd hx hb dX10_onTheWay_20 ?_
    refine lv_topi (fun y_4 ey_4 => ?_)
    have h := xl_at ey_4 h
    refine lv_istore_n (lv' := [(1, .int y_4), (0, .ref q_t), (2, .int x2)]) hx hb dX10_onTheWay_21 rfl hl (by decide) rfl (fun ls hl => ?_)
    refine lv_iinc (v := (x2 + (1 : Int32))) (lv' := [(2, .int (x2 + (1 : Int32))), (1, .int y_4), (0, .ref q_t)]) hx hb dX10_onTheWay_22 hl (k := 2) rfl rfl (by decide) rfl (fun ls hl => ?_)
    refine lv_goto (tgt := 4) hx hb dX10_onTheWay_25 (by decide) ?_
    obtain rfl := Option.some.inj h
    exact hc _ rfl H locs ls hP hD hS (lv_sub hl [2, 1, 0] rfl)
def x_X10_onTheWay (N : Nat) (F_t : St) : Option (Int32) :=
  Option.bind (lpc (fun (z : Int32 × Int32) => x_X10_onTheWay_b4 N F_t z.1 z.2) N ((0 : Int32), (0 : Int32))) (fun v_5 => some v_5)
set_option maxHeartbeats 4000000 in
set_option maxRecDepth 100000 in
theorem t_X10_onTheWay {p : Program} {l : Launch} {e : Env} {s : State} {m : MethodId} {args : Array Value} {below : List Frame} {meth : Method} {c : Code} {g : gG} {A : Nat → Prop} (E : En p s m args meth c g A cX10_onTheWay 3 (.code yX10_onTheWay cX10_onTheWay 3 (some .int) :: gW) RX10 (some .int)) (q_t : Nat) (Q_t : Ad) (N : Nat) (F_t : St) (o : Int32) (h : x_X10_onTheWay N F_t = some o) : WA p l e (rM 1 22) s m args below meth c g A (MQ below (QI g A o [oX10 q_t Q_t (F_t 0 0) (F_t 2 0) (F_t 3 0) (F_t 4 0) (F_t 5 0) (F_t 6 0) (F_t 7 0) (F_t 8 0) (F_t 9 0) (F_t 10 0) (F_t 11 0) (F_t 12 0) (F_t 15 0) (F_t 16 0) (F_t 17 0) (F_t 23 0) (F_t 27 0) (F_t 28 0) (F_t 30 0), ia g (Q_t 20) 174 (F_t 20)]) args s 0 0 A) 3 0 [oX10 q_t Q_t (F_t 0 0) (F_t 2 0) (F_t 3 0) (F_t 4 0) (F_t 5 0) (F_t 6 0) (F_t 7 0) (F_t 8 0) (F_t 9 0) (F_t 10 0) (F_t 11 0) (F_t 12 0) (F_t 15 0) (F_t 16 0) (F_t 17 0) (F_t 23 0) (F_t 27 0) (F_t 28 0) (F_t 30 0), ia g (Q_t 20) 174 (F_t 20)] [(0, .ref q_t)] [] := by
  obtain ⟨⟨hx, hb, hml, hown, hts⟩, hr, hK, hA, hlk⟩ := id E
  intro H locs ls hP hD hS hl
  refine lv_iconst (v := (0 : Int32)) hx hb dX10_onTheWay_0 (by decide) ?_
  refine lv_istore_n (lv' := [(1, .int (0 : Int32)), (0, .ref q_t)]) hx hb dX10_onTheWay_1 rfl hl (by decide) rfl (fun ls hl => ?_)
  refine lv_iconst (v := (0 : Int32)) hx hb dX10_onTheWay_2 (by decide) ?_
  refine lv_istore_n (lv' := [(2, .int (0 : Int32)), (1, .int (0 : Int32)), (0, .ref q_t)]) hx hb dX10_onTheWay_3 rfl hl (by decide) rfl (fun ls hl => ?_)
  obtain ⟨v_5, hv_5, h⟩ := ox_bind h
  refine lpc_W (Wh := fun (z : Int32 × Int32) => WA p l e (rM 1 22) s m args below meth c g A (MQ below (QI g A o [oX10 q_t Q_t (F_t 0 0) (F_t 2 0) (F_t 3 0) (F_t 4 0) (F_t 5 0) (F_t 6 0) (F_t 7 0) (F_t 8 0) (F_t 9 0) (F_t 10 0) (F_t 11 0) (F_t 12 0) (F_t 15 0) (F_t 16 0) (F_t 17 0) (F_t 23 0) (F_t 27 0) (F_t 28 0) (F_t 30 0), ia g (Q_t 20) 174 (F_t 20)]) args s 0 0 A) 3 4 [oX10 q_t Q_t (F_t 0 0) (F_t 2 0) (F_t 3 0) (F_t 4 0) (F_t 5 0) (F_t 6 0) (F_t 7 0) (F_t 8 0) (F_t 9 0) (F_t 10 0) (F_t 11 0) (F_t 12 0) (F_t 15 0) (F_t 16 0) (F_t 17 0) (F_t 23 0) (F_t 27 0) (F_t 28 0) (F_t 30 0), ia g (Q_t 20) 174 (F_t 20)] [(0, .ref q_t), (1, .int z.1), (2, .int z.2)] []) (We := fun (v : Int32) => WA p l e (rM 1 22) s m args below meth c g A (MQ below (QI g A o [oX10 q_t Q_t (F_t 0 0) (F_t 2 0) (F_t 3 0) (F_t 4 0) (F_t 5 0) (F_t 6 0) (F_t 7 0) (F_t 8 0) (F_t 9 0) (F_t 10 0) (F_t 11 0) (F_t 12 0) (F_t 15 0) (F_t 16 0) (F_t 17 0) (F_t 23 0) (F_t 27 0) (F_t 28 0) (F_t 30 0), ia g (Q_t 20) 174 (F_t 20)]) args s 0 0 A) 3 28 [oX10 q_t Q_t (F_t 0 0) (F_t 2 0) (F_t 3 0) (F_t 4 0) (F_t 5 0) (F_t 6 0) (F_t 7 0) (F_t 8 0) (F_t 9 0) (F_t 10 0) (F_t 11 0) (F_t 12 0) (F_t 15 0) (F_t 16 0) (F_t 17 0) (F_t 23 0) (F_t 27 0) (F_t 28 0) (F_t 30 0), ia g (Q_t 20) 174 (F_t 20)] [(1, .int v)] []) (fun z r hb hc he => t_X10_onTheWay_b4 E q_t Q_t N F_t z.1 z.2 r hb hc he) N ((0 : Int32), (0 : Int32)) v_5 hv_5 ?_ H locs ls hP hD hS (lv_sub hl [2, 1, 0] rfl)
  intro H locs ls hP hD hS hl
  refine lv_iload_n hx hb dX10_onTheWay_28 rfl (lv_at hl 0 rfl) ?_
  obtain rfl := Option.some.inj h
  exact k_iret hx hb hr hlk hP hD hS dX10_onTheWay_29
set_option maxRecDepth 100000 in
theorem c_X10_onTheWay (l : Launch) (g : gG) (q_t : Nat) (Q_t : Ad) (N : Nat) (F_t : St) (o : Int32) (h : x_X10_onTheWay N F_t = some o) (sz : Nat) : MetI l yX10_onTheWay (.code yX10_onTheWay cX10_onTheWay 3 (some .int) :: gW) 1 22 [.ref q_t] o g [oX10 q_t Q_t (F_t 0 0) (F_t 2 0) (F_t 3 0) (F_t 4 0) (F_t 5 0) (F_t 6 0) (F_t 7 0) (F_t 8 0) (F_t 9 0) (F_t 10 0) (F_t 11 0) (F_t 12 0) (F_t 15 0) (F_t 16 0) (F_t 17 0) (F_t 23 0) (F_t 27 0) (F_t 28 0) (F_t 30 0), ia g (Q_t 20) 174 (F_t 20)] [oX10 q_t Q_t (F_t 0 0) (F_t 2 0) (F_t 3 0) (F_t 4 0) (F_t 5 0) (F_t 6 0) (F_t 7 0) (F_t 8 0) (F_t 9 0) (F_t 10 0) (F_t 11 0) (F_t 12 0) (F_t 15 0) (F_t 16 0) (F_t 17 0) (F_t 23 0) (F_t 27 0) (F_t 28 0) (F_t 30 0), ia g (Q_t 20) 174 (F_t 20)] sz :=
  mkI (av := [.ref q_t]) (by decide +kernel) rfl (fun p e s m below meth c A E H locs ls hP hD hS hl => t_X10_onTheWay E q_t Q_t N F_t o h H locs ls hP hD hS hl) sz
def x_X10_blockedIn_b4_k34 (N : Nat) (F_t : St) (f_a1 : (Nat → Int32)) (x3 : Int32) (s0 : Int32) (s1 : Int32) : Option ((Int32 × Int32) ⊕ (Int32)) :=
  xl (s0 ||| s1) (fun y_1 => some (.inl (y_1, (x3 + (1 : Int32)))))
set_option maxHeartbeats 4000000 in
set_option maxRecDepth 100000 in
theorem t_X10_blockedIn_b4_k34 {p : Program} {l : Launch} {e : Env} {s : State} {m : MethodId} {args : Array Value} {below : List Frame} {meth : Method} {c : Code} {g : gG} {A : Nat → Prop} {Q : State → Prop} (E : En p s m args meth c g A cX10_blockedIn 4 (.code yX10_blockedIn cX10_blockedIn 4 (some .int) :: gW) RX10 (some .int)) (q_t : Nat) (Q_t : Ad) (q_a1 : Nat) (N : Nat) (F_t : St) (f_a1 : (Nat → Int32)) (x3 : Int32) (s0 : Int32) (s1 : Int32) (o : (Int32 × Int32) ⊕ (Int32)) (h : x_X10_blockedIn_b4_k34 N F_t f_a1 x3 s0 s1 = some o) (hc : ∀ z, o = .inl z → WA p l e (rM 0 0) s m args below meth c g A Q 4 4 [oX10 q_t Q_t (F_t 0 0) (F_t 2 0) (F_t 3 0) (F_t 4 0) (F_t 5 0) (F_t 6 0) (F_t 7 0) (F_t 8 0) (F_t 9 0) (F_t 10 0) (F_t 11 0) (F_t 12 0) (F_t 15 0) (F_t 16 0) (F_t 17 0) (F_t 23 0) (F_t 27 0) (F_t 28 0) (F_t 30 0), ia g q_a1 174 f_a1] [(0, .ref q_t), (1, .ref q_a1), (2, .int z.1), (3, .int z.2)] []) (he : ∀ v, o = .inr v → WA p l e (rM 0 0) s m args below meth c g A Q 4 42 [oX10 q_t Q_t (F_t 0 0) (F_t 2 0) (F_t 3 0) (F_t 4 0) (F_t 5 0) (F_t 6 0) (F_t 7 0) (F_t 8 0) (F_t 9 0) (F_t 10 0) (F_t 11 0) (F_t 12 0) (F_t 15 0) (F_t 16 0) (F_t 17 0) (F_t 23 0) (F_t 27 0) (F_t 28 0) (F_t 30 0), ia g q_a1 174 f_a1] [(2, .int v)] []) : WA p l e (rM 0 0) s m args below meth c g A Q 4 34 [oX10 q_t Q_t (F_t 0 0) (F_t 2 0) (F_t 3 0) (F_t 4 0) (F_t 5 0) (F_t 6 0) (F_t 7 0) (F_t 8 0) (F_t 9 0) (F_t 10 0) (F_t 11 0) (F_t 12 0) (F_t 15 0) (F_t 16 0) (F_t 17 0) (F_t 23 0) (F_t 27 0) (F_t 28 0) (F_t 30 0), ia g q_a1 174 f_a1] [(0, .ref q_t), (1, .ref q_a1), (3, .int x3)] [.int s1, .int s0] := by
  obtain ⟨⟨hx, hb, hml, hown, hts⟩, hr, hK, hA, hlk⟩ := id E
  intro H locs ls hP hD hS hl
  refine lv_ior hx hb dX10_blockedIn_34 ?_
  refine lv_topi (fun y_1 ey_1 => ?_)
  have h := xl_at ey_1 h
  refine lv_istore_n (lv' := [(2, .int y_1), (0, .ref q_t), (1, .ref q_a1), (3, .int x3)]) hx hb dX10_blockedIn_35 rfl hl (by decide) rfl (fun ls hl => ?_)
  refine lv_iinc (v := (x3 + (1 : Int32))) (lv' := [(3, .int (x3 + (1 : Int32))), (2, .int y_1), (0, .ref q_t), (1, .ref q_a1)]) hx hb dX10_blockedIn_36 hl (k := 3) rfl rfl (by decide) rfl (fun ls hl => ?_)
  refine lv_goto (tgt := 4) hx hb dX10_blockedIn_39 (by decide) ?_
  obtain rfl := Option.some.inj h
  exact hc _ rfl H locs ls hP hD hS (lv_sub hl [2, 3, 1, 0] rfl)
def x_X10_blockedIn_b4 (N : Nat) (F_t : St) (f_a1 : (Nat → Int32)) (x2 : Int32) (x3 : Int32) : Option ((Int32 × Int32) ⊕ (Int32)) :=
  if (F_t 17 0) ≤ x3 then (some (.inr x2)) else (if ((152 : Int32) + x3) < 0 ∨ 174 ≤ ((152 : Int32) + x3).toNatClampNeg then none else if (f_a1 ((152 : Int32) + x3).toNatClampNeg) < (F_t 15 0) then (x_X10_blockedIn_b4_k34 N F_t f_a1 x3 x2 (0 : Int32)) else (x_X10_blockedIn_b4_k34 N F_t f_a1 x3 x2 ((1 : Int32) <<< (x3 &&& 31))))
set_option maxHeartbeats 4000000 in
set_option maxRecDepth 100000 in
theorem t_X10_blockedIn_b4 {p : Program} {l : Launch} {e : Env} {s : State} {m : MethodId} {args : Array Value} {below : List Frame} {meth : Method} {c : Code} {g : gG} {A : Nat → Prop} {Q : State → Prop} (E : En p s m args meth c g A cX10_blockedIn 4 (.code yX10_blockedIn cX10_blockedIn 4 (some .int) :: gW) RX10 (some .int)) (q_t : Nat) (Q_t : Ad) (q_a1 : Nat) (N : Nat) (F_t : St) (f_a1 : (Nat → Int32)) (x2 : Int32) (x3 : Int32) (o : (Int32 × Int32) ⊕ (Int32)) (h : x_X10_blockedIn_b4 N F_t f_a1 x2 x3 = some o) (hc : ∀ z, o = .inl z → WA p l e (rM 0 0) s m args below meth c g A Q 4 4 [oX10 q_t Q_t (F_t 0 0) (F_t 2 0) (F_t 3 0) (F_t 4 0) (F_t 5 0) (F_t 6 0) (F_t 7 0) (F_t 8 0) (F_t 9 0) (F_t 10 0) (F_t 11 0) (F_t 12 0) (F_t 15 0) (F_t 16 0) (F_t 17 0) (F_t 23 0) (F_t 27 0) (F_t 28 0) (F_t 30 0), ia g q_a1 174 f_a1] [(0, .ref q_t), (1, .ref q_a1), (2, .int z.1), (3, .int z.2)] []) (he : ∀ v, o = .inr v → WA p l e (rM 0 0) s m args below meth c g A Q 4 42 [oX10 q_t Q_t (F_t 0 0) (F_t 2 0) (F_t 3 0) (F_t 4 0) (F_t 5 0) (F_t 6 0) (F_t 7 0) (F_t 8 0) (F_t 9 0) (F_t 10 0) (F_t 11 0) (F_t 12 0) (F_t 15 0) (F_t 16 0) (F_t 17 0) (F_t 23 0) (F_t 27 0) (F_t 28 0) (F_t 30 0), ia g q_a1 174 f_a1] [(2, .int v)] []) : WA p l e (rM 0 0) s m args below meth c g A Q 4 4 [oX10 q_t Q_t (F_t 0 0) (F_t 2 0) (F_t 3 0) (F_t 4 0) (F_t 5 0) (F_t 6 0) (F_t 7 0) (F_t 8 0) (F_t 9 0) (F_t 10 0) (F_t 11 0) (F_t 12 0) (F_t 15 0) (F_t 16 0) (F_t 17 0) (F_t 23 0) (F_t 27 0) (F_t 28 0) (F_t 30 0), ia g q_a1 174 f_a1] [(0, .ref q_t), (1, .ref q_a1), (2, .int x2), (3, .int x3)] [] := by
  obtain ⟨⟨hx, hb, hml, hown, hts⟩, hr, hK, hA, hlk⟩ := id E
  intro H locs ls hP hD hS hl
  refine lv_iload_n hx hb dX10_blockedIn_4 rfl (lv_at hl 3 rfl) ?_
  refine lv_aload_n hx hb dX10_blockedIn_5 rfl (lv_at hl 0 rfl) ?_
  refine va_get (ci := 10) (v := .int (F_t 17 0)) (C := RX10) (T := TX10) (N := 38) hx hb hts (fun w h => .tail _ (u_inX10 w h)) hown hK.1 hP 0 rfl rfl 17 (by decide) (hts _ (.tail _ u_fl_X10_87)) (fun _ h9 => h9) rfl dX10_blockedIn_6 ?_
  refine lv_icmp_ge (tgt := 42) hx hb dX10_blockedIn_9 (by decide) (fun c_2 => ?_) (fun c_2 => ?_)
  · have h := ox_t c_2 h
    obtain rfl := Option.some.inj h
    exact he _ rfl H locs ls hP hD hS (lv_sub hl [2] rfl)
  · have h := ox_f c_2 h
    refine lv_iload_n hx hb dX10_blockedIn_12 rfl (lv_at hl 2 rfl) ?_
    refine lv_aload_n hx hb dX10_blockedIn_13 rfl (lv_at hl 1 rfl) ?_
    refine lv_sipush (v := (152 : Int32)) hx hb dX10_blockedIn_14 (by decide) ?_
    refine lv_iload_n hx hb dX10_blockedIn_17 rfl (lv_at hl 3 rfl) ?_
    refine lv_iadd hx hb dX10_blockedIn_18 ?_
    obtain ⟨hi_3, h⟩ := ox_chk h
    refine va_iald hx hb hK.1 hP 1 0 rfl rfl hi_3 dX10_blockedIn_19 ?_
    refine lv_aload_n hx hb dX10_blockedIn_20 rfl (lv_at hl 0 rfl) ?_
    refine va_get (ci := 10) (v := .int (F_t 15 0)) (C := RX10) (T := TX10) (N := 38) hx hb hts (fun w h => .tail _ (u_inX10 w h)) hown hK.1 hP 0 rfl rfl 15 (by decide) (hts _ (.tail _ u_fl_X10_156)) (fun _ h9 => h9) rfl dX10_blockedIn_21 ?_
    refine lv_icmp_lt (tgt := 33) hx hb dX10_blockedIn_24 (by decide) (fun c_4 => ?_) (fun c_4 => ?_)
    · have h := ox_t c_4 h
      refine lv_iconst (v := (0 : Int32)) hx hb dX10_blockedIn_33 (by decide) ?_
      exact t_X10_blockedIn_b4_k34 E q_t Q_t q_a1 N F_t f_a1 x3 x2 (0 : Int32) _ h hc he H locs ls hP hD hS (lv_sub hl [0, 1, 3] rfl)
    · have h := ox_f c_4 h
      refine lv_iconst (v := (1 : Int32)) hx hb dX10_blockedIn_27 (by decide) ?_
      refine lv_iload_n hx hb dX10_blockedIn_28 rfl (lv_at hl 3 rfl) ?_
      refine lv_ishl hx hb dX10_blockedIn_29 ?_
      refine lv_goto (tgt := 34) hx hb dX10_blockedIn_30 (by decide) ?_
      exact t_X10_blockedIn_b4_k34 E q_t Q_t q_a1 N F_t f_a1 x3 x2 ((1 : Int32) <<< (x3 &&& 31)) _ h hc he H locs ls hP hD hS (lv_sub hl [0, 1, 3] rfl)
def x_X10_blockedIn (N : Nat) (F_t : St) (f_a1 : (Nat → Int32)) : Option (Int32) :=
  Option.bind (lpc (fun (z : Int32 × Int32) => x_X10_blockedIn_b4 N F_t f_a1 z.1 z.2) N ((0 : Int32), (0 : Int32))) (fun v_5 => some v_5)
set_option maxHeartbeats 4000000 in
set_option maxRecDepth 100000 in
theorem t_X10_blockedIn {p : Program} {l : Launch} {e : Env} {s : State} {m : MethodId} {args : Array Value} {below : List Frame} {meth : Method} {c : Code} {g : gG} {A : Nat → Prop} (E : En p s m args meth c g A cX10_blockedIn 4 (.code yX10_blockedIn cX10_blockedIn 4 (some .int) :: gW) RX10 (some .int)) (q_t : Nat) (Q_t : Ad) (q_a1 : Nat) (N : Nat) (F_t : St) (f_a1 : (Nat → Int32)) (o : Int32) (h : x_X10_blockedIn N F_t f_a1 = some o) : WA p l e (rM 0 0) s m args below meth c g A (MQ below (QI g A o [oX10 q_t Q_t (F_t 0 0) (F_t 2 0) (F_t 3 0) (F_t 4 0) (F_t 5 0) (F_t 6 0) (F_t 7 0) (F_t 8 0) (F_t 9 0) (F_t 10 0) (F_t 11 0) (F_t 12 0) (F_t 15 0) (F_t 16 0) (F_t 17 0) (F_t 23 0) (F_t 27 0) (F_t 28 0) (F_t 30 0), ia g q_a1 174 f_a1]) args s 0 0 A) 4 0 [oX10 q_t Q_t (F_t 0 0) (F_t 2 0) (F_t 3 0) (F_t 4 0) (F_t 5 0) (F_t 6 0) (F_t 7 0) (F_t 8 0) (F_t 9 0) (F_t 10 0) (F_t 11 0) (F_t 12 0) (F_t 15 0) (F_t 16 0) (F_t 17 0) (F_t 23 0) (F_t 27 0) (F_t 28 0) (F_t 30 0), ia g q_a1 174 f_a1] [(0, .ref q_t), (1, .ref q_a1)] [] := by
  obtain ⟨⟨hx, hb, hml, hown, hts⟩, hr, hK, hA, hlk⟩ := id E
  intro H locs ls hP hD hS hl
  refine lv_iconst (v := (0 : Int32)) hx hb dX10_blockedIn_0 (by decide) ?_
  refine lv_istore_n (lv' := [(2, .int (0 : Int32)), (0, .ref q_t), (1, .ref q_a1)]) hx hb dX10_blockedIn_1 rfl hl (by decide) rfl (fun ls hl => ?_)
  refine lv_iconst (v := (0 : Int32)) hx hb dX10_blockedIn_2 (by decide) ?_
  refine lv_istore_n (lv' := [(3, .int (0 : Int32)), (2, .int (0 : Int32)), (0, .ref q_t), (1, .ref q_a1)]) hx hb dX10_blockedIn_3 rfl hl (by decide) rfl (fun ls hl => ?_)
  obtain ⟨v_5, hv_5, h⟩ := ox_bind h
  refine lpc_W (Wh := fun (z : Int32 × Int32) => WA p l e (rM 0 0) s m args below meth c g A (MQ below (QI g A o [oX10 q_t Q_t (F_t 0 0) (F_t 2 0) (F_t 3 0) (F_t 4 0) (F_t 5 0) (F_t 6 0) (F_t 7 0) (F_t 8 0) (F_t 9 0) (F_t 10 0) (F_t 11 0) (F_t 12 0) (F_t 15 0) (F_t 16 0) (F_t 17 0) (F_t 23 0) (F_t 27 0) (F_t 28 0) (F_t 30 0), ia g q_a1 174 f_a1]) args s 0 0 A) 4 4 [oX10 q_t Q_t (F_t 0 0) (F_t 2 0) (F_t 3 0) (F_t 4 0) (F_t 5 0) (F_t 6 0) (F_t 7 0) (F_t 8 0) (F_t 9 0) (F_t 10 0) (F_t 11 0) (F_t 12 0) (F_t 15 0) (F_t 16 0) (F_t 17 0) (F_t 23 0) (F_t 27 0) (F_t 28 0) (F_t 30 0), ia g q_a1 174 f_a1] [(0, .ref q_t), (1, .ref q_a1), (2, .int z.1), (3, .int z.2)] []) (We := fun (v : Int32) => WA p l e (rM 0 0) s m args below meth c g A (MQ below (QI g A o [oX10 q_t Q_t (F_t 0 0) (F_t 2 0) (F_t 3 0) (F_t 4 0) (F_t 5 0) (F_t 6 0) (F_t 7 0) (F_t 8 0) (F_t 9 0) (F_t 10 0) (F_t 11 0) (F_t 12 0) (F_t 15 0) (F_t 16 0) (F_t 17 0) (F_t 23 0) (F_t 27 0) (F_t 28 0) (F_t 30 0), ia g q_a1 174 f_a1]) args s 0 0 A) 4 42 [oX10 q_t Q_t (F_t 0 0) (F_t 2 0) (F_t 3 0) (F_t 4 0) (F_t 5 0) (F_t 6 0) (F_t 7 0) (F_t 8 0) (F_t 9 0) (F_t 10 0) (F_t 11 0) (F_t 12 0) (F_t 15 0) (F_t 16 0) (F_t 17 0) (F_t 23 0) (F_t 27 0) (F_t 28 0) (F_t 30 0), ia g q_a1 174 f_a1] [(2, .int v)] []) (fun z r hb hc he => t_X10_blockedIn_b4 E q_t Q_t q_a1 N F_t f_a1 z.1 z.2 r hb hc he) N ((0 : Int32), (0 : Int32)) v_5 hv_5 ?_ H locs ls hP hD hS (lv_sub hl [2, 3, 1, 0] rfl)
  intro H locs ls hP hD hS hl
  refine lv_iload_n hx hb dX10_blockedIn_42 rfl (lv_at hl 0 rfl) ?_
  obtain rfl := Option.some.inj h
  exact k_iret hx hb hr hlk hP hD hS dX10_blockedIn_43
set_option maxRecDepth 100000 in
theorem c_X10_blockedIn (l : Launch) (g : gG) (q_t : Nat) (Q_t : Ad) (q_a1 : Nat) (N : Nat) (F_t : St) (f_a1 : (Nat → Int32)) (o : Int32) (h : x_X10_blockedIn N F_t f_a1 = some o) (sz : Nat) : MetI l yX10_blockedIn (.code yX10_blockedIn cX10_blockedIn 4 (some .int) :: gW) 0 0 [.ref q_t, .ref q_a1] o g [oX10 q_t Q_t (F_t 0 0) (F_t 2 0) (F_t 3 0) (F_t 4 0) (F_t 5 0) (F_t 6 0) (F_t 7 0) (F_t 8 0) (F_t 9 0) (F_t 10 0) (F_t 11 0) (F_t 12 0) (F_t 15 0) (F_t 16 0) (F_t 17 0) (F_t 23 0) (F_t 27 0) (F_t 28 0) (F_t 30 0), ia g q_a1 174 f_a1] [oX10 q_t Q_t (F_t 0 0) (F_t 2 0) (F_t 3 0) (F_t 4 0) (F_t 5 0) (F_t 6 0) (F_t 7 0) (F_t 8 0) (F_t 9 0) (F_t 10 0) (F_t 11 0) (F_t 12 0) (F_t 15 0) (F_t 16 0) (F_t 17 0) (F_t 23 0) (F_t 27 0) (F_t 28 0) (F_t 30 0), ia g q_a1 174 f_a1] sz :=
  mkI (av := [.ref q_t, .ref q_a1]) (by decide +kernel) rfl (fun p e s m below meth c A E H locs ls hP hD hS hl => t_X10_blockedIn E q_t Q_t q_a1 N F_t f_a1 o h H locs ls hP hD hS hl) sz
def x_X10_told (N : Nat) (F_t : St) (x1 : Int32) : Option (Int32) :=
  if x1 = 0 then (some (F_t 15 0)) else if x1 = 1 then (some (F_t 16 0)) else if x1 = 2 then (some (F_t 17 0)) else if x1 = 3 then (some (F_t 0 0)) else if x1 = 4 then (some ((F_t 20) (173 : Int32).toNatClampNeg)) else if x1 = 5 then (some ((F_t 20) (172 : Int32).toNatClampNeg)) else if x1 = 6 then (Option.bind (x_X10_blockedIn N F_t (F_t 20)) (fun v_8 => some v_8)) else if x1 = 7 then (Option.bind (x_X10_onTheWay N F_t) (fun v_10 => some v_10)) else if x1 = 8 then (some (F_t 28 0)) else if x1 = 9 then (some (F_t 30 0)) else if x1 = 10 then (some (F_t 23 0)) else (some (-1000000002 : Int32))
set_option maxHeartbeats 4000000 in
set_option maxRecDepth 100000 in
theorem t_X10_told {p : Program} {l : Launch} {e : Env} {s : State} {m : MethodId} {args : Array Value} {below : List Frame} {meth : Method} {c : Code} {g : gG} {A : Nat → Prop} (E : En p s m args meth c g A cX10_told 2 (.code yX10_told cX10_told 2 (some .int) :: gW) RX10 (some .int)) (q_t : Nat) (Q_t : Ad) (N : Nat) (F_t : St) (x1 : Int32) (o : Int32) (h : x_X10_told N F_t x1 = some o) : WA p l e (rM 2 44) s m args below meth c g A (MQ below (QI g A o [oX10 q_t Q_t (F_t 0 0) (F_t 2 0) (F_t 3 0) (F_t 4 0) (F_t 5 0) (F_t 6 0) (F_t 7 0) (F_t 8 0) (F_t 9 0) (F_t 10 0) (F_t 11 0) (F_t 12 0) (F_t 15 0) (F_t 16 0) (F_t 17 0) (F_t 23 0) (F_t 27 0) (F_t 28 0) (F_t 30 0), ia g (Q_t 20) 174 (F_t 20)]) args s 0 0 A) 2 0 [oX10 q_t Q_t (F_t 0 0) (F_t 2 0) (F_t 3 0) (F_t 4 0) (F_t 5 0) (F_t 6 0) (F_t 7 0) (F_t 8 0) (F_t 9 0) (F_t 10 0) (F_t 11 0) (F_t 12 0) (F_t 15 0) (F_t 16 0) (F_t 17 0) (F_t 23 0) (F_t 27 0) (F_t 28 0) (F_t 30 0), ia g (Q_t 20) 174 (F_t 20)] [(0, .ref q_t), (1, .int x1)] [] := by
  obtain ⟨⟨hx, hb, hml, hown, hts⟩, hr, hK, hA, hlk⟩ := id E
  intro H locs ls hP hD hS hl
  refine lv_iload_n hx hb dX10_told_0 rfl (lv_at hl 1 rfl) ?_
  by_cases c_1 : x1 = 0
  · have h := ox_t c_1 h
    refine lv_tableIn (off := 59) (tgt := 60) hx hb dX10_told_1 (by rw [c_1]; decide) (by rw [c_1]; decide) (by rw [c_1]; rfl) (by decide) ?_
    refine lv_aload_n hx hb dX10_told_60 rfl (lv_at hl 0 rfl) ?_
    refine va_get (ci := 10) (v := .int (F_t 15 0)) (C := RX10) (T := TX10) (N := 38) hx hb hts (fun w h => .tail _ (u_inX10 w h)) hown hK.1 hP 0 rfl rfl 15 (by decide) (hts _ (.tail _ u_fl_X10_156)) (fun _ h9 => h9) rfl dX10_told_61 ?_
    obtain rfl := Option.some.inj h
    exact k_iret hx hb hr hlk hP hD hS dX10_told_64
  have h := ox_f c_1 h
  by_cases c_2 : x1 = 1
  · have h := ox_t c_2 h
    refine lv_tableIn (off := 64) (tgt := 65) hx hb dX10_told_1 (by rw [c_2]; decide) (by rw [c_2]; decide) (by rw [c_2]; rfl) (by decide) ?_
    refine lv_aload_n hx hb dX10_told_65 rfl (lv_at hl 0 rfl) ?_
    refine va_get (ci := 10) (v := .int (F_t 16 0)) (C := RX10) (T := TX10) (N := 38) hx hb hts (fun w h => .tail _ (u_inX10 w h)) hown hK.1 hP 0 rfl rfl 16 (by decide) (hts _ (.tail _ u_fl_X10_80)) (fun _ h9 => h9) rfl dX10_told_66 ?_
    obtain rfl := Option.some.inj h
    exact k_iret hx hb hr hlk hP hD hS dX10_told_69
  have h := ox_f c_2 h
  by_cases c_3 : x1 = 2
  · have h := ox_t c_3 h
    refine lv_tableIn (off := 69) (tgt := 70) hx hb dX10_told_1 (by rw [c_3]; decide) (by rw [c_3]; decide) (by rw [c_3]; rfl) (by decide) ?_
    refine lv_aload_n hx hb dX10_told_70 rfl (lv_at hl 0 rfl) ?_
    refine va_get (ci := 10) (v := .int (F_t 17 0)) (C := RX10) (T := TX10) (N := 38) hx hb hts (fun w h => .tail _ (u_inX10 w h)) hown hK.1 hP 0 rfl rfl 17 (by decide) (hts _ (.tail _ u_fl_X10_87)) (fun _ h9 => h9) rfl dX10_told_71 ?_
    obtain rfl := Option.some.inj h
    exact k_iret hx hb hr hlk hP hD hS dX10_told_74
  have h := ox_f c_3 h
  by_cases c_4 : x1 = 3
  · have h := ox_t c_4 h
    refine lv_tableIn (off := 74) (tgt := 75) hx hb dX10_told_1 (by rw [c_4]; decide) (by rw [c_4]; decide) (by rw [c_4]; rfl) (by decide) ?_
    refine lv_aload_n hx hb dX10_told_75 rfl (lv_at hl 0 rfl) ?_
    refine va_get (ci := 10) (v := .int (F_t 0 0)) (C := RX10) (T := TX10) (N := 38) hx hb hts (fun w h => .tail _ (u_inX10 w h)) hown hK.1 hP 0 rfl rfl 0 (by decide) (hts _ (.tail _ u_fl_X10_91)) (fun _ h9 => h9) rfl dX10_told_76 ?_
    obtain rfl := Option.some.inj h
    exact k_iret hx hb hr hlk hP hD hS dX10_told_79
  have h := ox_f c_4 h
  by_cases c_5 : x1 = 4
  · have h := ox_t c_5 h
    refine lv_tableIn (off := 79) (tgt := 80) hx hb dX10_told_1 (by rw [c_5]; decide) (by rw [c_5]; decide) (by rw [c_5]; rfl) (by decide) ?_
    refine lv_aload_n hx hb dX10_told_80 rfl (lv_at hl 0 rfl) ?_
    refine va_get (ci := 10) (v := .ref (Q_t 20)) (C := RX10) (T := TX10) (N := 38) hx hb hts (fun w h => .tail _ (u_inX10 w h)) hown hK.1 hP 0 rfl rfl 20 (by decide) (hts _ (.tail _ u_fl_X10_29)) (fun _ h9 => h9) rfl dX10_told_81 ?_
    refine lv_sipush (v := (173 : Int32)) hx hb dX10_told_84 (by decide) ?_
    refine va_iald hx hb hK.1 hP 1 0 rfl rfl (by unfold vp_in; decide) dX10_told_87 ?_
    obtain rfl := Option.some.inj h
    exact k_iret hx hb hr hlk hP hD hS dX10_told_88
  have h := ox_f c_5 h
  by_cases c_6 : x1 = 5
  · have h := ox_t c_6 h
    refine lv_tableIn (off := 88) (tgt := 89) hx hb dX10_told_1 (by rw [c_6]; decide) (by rw [c_6]; decide) (by rw [c_6]; rfl) (by decide) ?_
    refine lv_aload_n hx hb dX10_told_89 rfl (lv_at hl 0 rfl) ?_
    refine va_get (ci := 10) (v := .ref (Q_t 20)) (C := RX10) (T := TX10) (N := 38) hx hb hts (fun w h => .tail _ (u_inX10 w h)) hown hK.1 hP 0 rfl rfl 20 (by decide) (hts _ (.tail _ u_fl_X10_29)) (fun _ h9 => h9) rfl dX10_told_90 ?_
    refine lv_sipush (v := (172 : Int32)) hx hb dX10_told_93 (by decide) ?_
    refine va_iald hx hb hK.1 hP 1 0 rfl rfl (by unfold vp_in; decide) dX10_told_96 ?_
    obtain rfl := Option.some.inj h
    exact k_iret hx hb hr hlk hP hD hS dX10_told_97
  have h := ox_f c_6 h
  by_cases c_7 : x1 = 6
  · have h := ox_t c_7 h
    refine lv_tableIn (off := 97) (tgt := 98) hx hb dX10_told_1 (by rw [c_7]; decide) (by rw [c_7]; decide) (by rw [c_7]; rfl) (by decide) ?_
    refine lv_aload_n hx hb dX10_told_98 rfl (lv_at hl 0 rfl) ?_
    refine lv_aload_n hx hb dX10_told_99 rfl (lv_at hl 0 rfl) ?_
    refine va_get (ci := 10) (v := .ref (Q_t 20)) (C := RX10) (T := TX10) (N := 38) hx hb hts (fun w h => .tail _ (u_inX10 w h)) hown hK.1 hP 0 rfl rfl 20 (by decide) (hts _ (.tail _ u_fl_X10_29)) (fun _ h9 => h9) rfl dX10_told_100 ?_
    obtain ⟨v_8, hv_8, h⟩ := ox_bind h
    refine kVi ⟨hx, hb, hml, hown, hts⟩ (c_X10_blockedIn l g q_t Q_t (Q_t 20) N F_t (F_t 20) v_8 hv_8 H.size) (gV u_ml_X10_172 u_im_X10_blockedIn u_se_X10_blockedIn u_ini_X10 u_co_X10_blockedIn) hd_X10_blockedIn ⟨rfl, rfl⟩ hK hP hD hS hA 0 10 rfl rfl [0, 1] [0, 1] rfl rfl 2 rfl (w2 := [oX10 q_t Q_t (F_t 0 0) (F_t 2 0) (F_t 3 0) (F_t 4 0) (F_t 5 0) (F_t 6 0) (F_t 7 0) (F_t 8 0) (F_t 9 0) (F_t 10 0) (F_t 11 0) (F_t 12 0) (F_t 15 0) (F_t 16 0) (F_t 17 0) (F_t 23 0) (F_t 27 0) (F_t 28 0) (F_t 30 0), ia g (Q_t 20) 174 (F_t 20)]) rfl rfl (As := [.ref (Q_t 20)]) (rest := []) rfl hl.1 rfl rfl dX10_told_103 (fun H locs hP hD hS => ?_)
    obtain rfl := Option.some.inj h
    exact k_iret hx hb hr hlk hP hD hS dX10_told_106
  have h := ox_f c_7 h
  by_cases c_9 : x1 = 7
  · have h := ox_t c_9 h
    refine lv_tableIn (off := 106) (tgt := 107) hx hb dX10_told_1 (by rw [c_9]; decide) (by rw [c_9]; decide) (by rw [c_9]; rfl) (by decide) ?_
    refine lv_aload_n hx hb dX10_told_107 rfl (lv_at hl 0 rfl) ?_
    obtain ⟨v_10, hv_10, h⟩ := ox_bind h
    refine kVi ⟨hx, hb, hml, hown, hts⟩ (c_X10_onTheWay l g q_t Q_t N F_t v_10 hv_10 H.size) (gV u_ml_X10_176 u_im_X10_onTheWay u_se_X10_onTheWay u_ini_X10 u_co_X10_onTheWay) hd_X10_onTheWay ⟨rfl, rfl⟩ hK hP hD hS hA 0 10 rfl rfl [0, 1] [0, 1] rfl rfl 2 rfl (w2 := [oX10 q_t Q_t (F_t 0 0) (F_t 2 0) (F_t 3 0) (F_t 4 0) (F_t 5 0) (F_t 6 0) (F_t 7 0) (F_t 8 0) (F_t 9 0) (F_t 10 0) (F_t 11 0) (F_t 12 0) (F_t 15 0) (F_t 16 0) (F_t 17 0) (F_t 23 0) (F_t 27 0) (F_t 28 0) (F_t 30 0), ia g (Q_t 20) 174 (F_t 20)]) rfl rfl (As := []) (rest := []) rfl hl.1 rfl rfl dX10_told_108 (fun H locs hP hD hS => ?_)
    obtain rfl := Option.some.inj h
    exact k_iret hx hb hr hlk hP hD hS dX10_told_111
  have h := ox_f c_9 h
  by_cases c_11 : x1 = 8
  · have h := ox_t c_11 h
    refine lv_tableIn (off := 111) (tgt := 112) hx hb dX10_told_1 (by rw [c_11]; decide) (by rw [c_11]; decide) (by rw [c_11]; rfl) (by decide) ?_
    refine lv_aload_n hx hb dX10_told_112 rfl (lv_at hl 0 rfl) ?_
    refine va_get (ci := 10) (v := .int (F_t 28 0)) (C := RX10) (T := TX10) (N := 38) hx hb hts (fun w h => .tail _ (u_inX10 w h)) hown hK.1 hP 0 rfl rfl 28 (by decide) (hts _ (.tail _ u_fl_X10_159)) (fun _ h9 => h9) rfl dX10_told_113 ?_
    obtain rfl := Option.some.inj h
    exact k_iret hx hb hr hlk hP hD hS dX10_told_116
  have h := ox_f c_11 h
  by_cases c_12 : x1 = 9
  · have h := ox_t c_12 h
    refine lv_tableIn (off := 116) (tgt := 117) hx hb dX10_told_1 (by rw [c_12]; decide) (by rw [c_12]; decide) (by rw [c_12]; rfl) (by decide) ?_
    refine lv_aload_n hx hb dX10_told_117 rfl (lv_at hl 0 rfl) ?_
    refine va_get (ci := 10) (v := .int (F_t 30 0)) (C := RX10) (T := TX10) (N := 38) hx hb hts (fun w h => .tail _ (u_inX10 w h)) hown hK.1 hP 0 rfl rfl 30 (by decide) (hts _ (.tail _ u_fl_X10_162)) (fun _ h9 => h9) rfl dX10_told_118 ?_
    obtain rfl := Option.some.inj h
    exact k_iret hx hb hr hlk hP hD hS dX10_told_121
  have h := ox_f c_12 h
  by_cases c_13 : x1 = 10
  · have h := ox_t c_13 h
    refine lv_tableIn (off := 121) (tgt := 122) hx hb dX10_told_1 (by rw [c_13]; decide) (by rw [c_13]; decide) (by rw [c_13]; rfl) (by decide) ?_
    refine lv_aload_n hx hb dX10_told_122 rfl (lv_at hl 0 rfl) ?_
    refine va_get (ci := 10) (v := .int (F_t 23 0)) (C := RX10) (T := TX10) (N := 38) hx hb hts (fun w h => .tail _ (u_inX10 w h)) hown hK.1 hP 0 rfl rfl 23 (by decide) (hts _ (.tail _ u_fl_X10_165)) (fun _ h9 => h9) rfl dX10_told_123 ?_
    obtain rfl := Option.some.inj h
    exact k_iret hx hb hr hlk hP hD hS dX10_told_126
  have h := ox_f c_13 h
  refine lv_tableOut (tgt := 127) hx hb dX10_told_1 (tsw_out (hi := 10) (lt_s (lt_s (lt_s (lt_s (lt_s (lt_s (lt_s (lt_s (lt_s (lt_s (lt_s lt_0 c_1) c_2) c_3) c_4) c_5) c_6) c_7) c_9) c_11) c_12) c_13)) (by decide) ?_
  refine lv_ldc (v := (-1000000002 : Int32)) hx hb hown (hts _ (.tail _ u_k_X10_90)) dX10_told_127 ?_
  obtain rfl := Option.some.inj h
  exact k_iret hx hb hr hlk hP hD hS dX10_told_129
set_option maxRecDepth 100000 in
theorem c_X10_told (l : Launch) (g : gG) (q_t : Nat) (Q_t : Ad) (N : Nat) (F_t : St) (x1 : Int32) (o : Int32) (h : x_X10_told N F_t x1 = some o) (sz : Nat) : MetI l yX10_told (.code yX10_told cX10_told 2 (some .int) :: gW) 2 44 [.ref q_t, .int x1] o g [oX10 q_t Q_t (F_t 0 0) (F_t 2 0) (F_t 3 0) (F_t 4 0) (F_t 5 0) (F_t 6 0) (F_t 7 0) (F_t 8 0) (F_t 9 0) (F_t 10 0) (F_t 11 0) (F_t 12 0) (F_t 15 0) (F_t 16 0) (F_t 17 0) (F_t 23 0) (F_t 27 0) (F_t 28 0) (F_t 30 0), ia g (Q_t 20) 174 (F_t 20)] [oX10 q_t Q_t (F_t 0 0) (F_t 2 0) (F_t 3 0) (F_t 4 0) (F_t 5 0) (F_t 6 0) (F_t 7 0) (F_t 8 0) (F_t 9 0) (F_t 10 0) (F_t 11 0) (F_t 12 0) (F_t 15 0) (F_t 16 0) (F_t 17 0) (F_t 23 0) (F_t 27 0) (F_t 28 0) (F_t 30 0), ia g (Q_t 20) 174 (F_t 20)] sz :=
  mkI (av := [.ref q_t, .int x1]) (by decide +kernel) rfl (fun p e s m below meth c A E H locs ls hP hD hS hl => t_X10_told E q_t Q_t N F_t x1 o h H locs ls hP hD hS hl) sz
def x_X10_place (F_t : St) (x1 : Int32) (x2 : Int32) : Option (Int32) :=
  Option.bind (x_X10_isPlace F_t x1) (fun v_1 => if v_1 = 0 then (some (-1000000001 : Int32)) else (Option.bind (x_X10_in x2 (0 : Int32) (2 : Int32)) (fun v_3 => if v_3 = 0 then (some (-1000000002 : Int32)) else (if (2 : Int32) ≤ x2 then (if ((80 : Int32) + x1) < 0 ∨ 174 ≤ ((80 : Int32) + x1).toNatClampNeg then none else some ((F_t 20) ((80 : Int32) + x1).toNatClampNeg)) else (if (((2 : Int32) * x1) + x2) < 0 ∨ 16 ≤ (((2 : Int32) * x1) + x2).toNatClampNeg then none else some ((F_t 18) (((2 : Int32) * x1) + x2).toNatClampNeg))))))
set_option maxHeartbeats 4000000 in
set_option maxRecDepth 100000 in
theorem t_X10_place {p : Program} {l : Launch} {e : Env} {s : State} {m : MethodId} {args : Array Value} {below : List Frame} {meth : Method} {c : Code} {g : gG} {A : Nat → Prop} (E : En p s m args meth c g A cX10_place 3 (.code yX10_place cX10_place 3 (some .int) :: gW) RX10 (some .int)) (q_t : Nat) (Q_t : Ad) (F_t : St) (x1 : Int32) (x2 : Int32) (o : Int32) (h : x_X10_place F_t x1 x2 = some o) : WA p l e (rM 2 43) s m args below meth c g A (MQ below (QI g A o [oX10 q_t Q_t (F_t 0 0) (F_t 2 0) (F_t 3 0) (F_t 4 0) (F_t 5 0) (F_t 6 0) (F_t 7 0) (F_t 8 0) (F_t 9 0) (F_t 10 0) (F_t 11 0) (F_t 12 0) (F_t 15 0) (F_t 16 0) (F_t 17 0) (F_t 23 0) (F_t 27 0) (F_t 28 0) (F_t 30 0), ia g (Q_t 18) 16 (F_t 18), ia g (Q_t 20) 174 (F_t 20)]) args s 0 0 A) 3 0 [oX10 q_t Q_t (F_t 0 0) (F_t 2 0) (F_t 3 0) (F_t 4 0) (F_t 5 0) (F_t 6 0) (F_t 7 0) (F_t 8 0) (F_t 9 0) (F_t 10 0) (F_t 11 0) (F_t 12 0) (F_t 15 0) (F_t 16 0) (F_t 17 0) (F_t 23 0) (F_t 27 0) (F_t 28 0) (F_t 30 0), ia g (Q_t 18) 16 (F_t 18), ia g (Q_t 20) 174 (F_t 20)] [(0, .ref q_t), (1, .int x1), (2, .int x2)] [] := by
  obtain ⟨⟨hx, hb, hml, hown, hts⟩, hr, hK, hA, hlk⟩ := id E
  intro H locs ls hP hD hS hl
  refine lv_aload_n hx hb dX10_place_0 rfl (lv_at hl 0 rfl) ?_
  refine lv_iload_n hx hb dX10_place_1 rfl (lv_at hl 1 rfl) ?_
  obtain ⟨v_1, hv_1, h⟩ := ox_bind h
  refine kVi ⟨hx, hb, hml, hown, hts⟩ (c_X10_isPlace l g q_t Q_t F_t x1 v_1 hv_1 H.size) (gV u_ml_X10_180 u_im_X10_isPlace u_se_X10_isPlace u_ini_X10 u_co_X10_isPlace) hd_X10_isPlace ⟨rfl, rfl⟩ hK hP hD hS hA 0 10 rfl rfl [0] [0, 2, 3] rfl rfl 1 rfl (w2 := [oX10 q_t Q_t (F_t 0 0) (F_t 2 0) (F_t 3 0) (F_t 4 0) (F_t 5 0) (F_t 6 0) (F_t 7 0) (F_t 8 0) (F_t 9 0) (F_t 10 0) (F_t 11 0) (F_t 12 0) (F_t 15 0) (F_t 16 0) (F_t 17 0) (F_t 23 0) (F_t 27 0) (F_t 28 0) (F_t 30 0), ia g (Q_t 18) 16 (F_t 18), ia g (Q_t 20) 174 (F_t 20)]) rfl rfl (As := [.int x1]) (rest := []) rfl hl.1 rfl rfl dX10_place_2 (fun H locs hP hD hS => ?_)
  refine lv_if_ne (tgt := 11) hx hb dX10_place_5 (by decide) (fun c_2 => ?_) (fun c_2 => ?_)
  · have h := ox_f c_2 h
    refine lv_iload_n hx hb dX10_place_11 rfl (lv_at hl 2 rfl) ?_
    refine lv_iconst (v := (0 : Int32)) hx hb dX10_place_12 (by decide) ?_
    refine lv_iconst (v := (2 : Int32)) hx hb dX10_place_13 (by decide) ?_
    obtain ⟨v_3, hv_3, h⟩ := ox_bind h
    refine kSi ⟨hx, hb, hml, hown, hts⟩ (c_X10_in l g x2 (0 : Int32) (2 : Int32) v_3 hv_3 H.size) (gS u_ml_X10_83 u_st_X10_in u_ini_X10 u_co_X10_in) hd_X10_in ⟨rfl, rfl⟩ hK hP hD hS hA [] [0, 1, 2] rfl rfl 0 rfl (w2 := [oX10 q_t Q_t (F_t 0 0) (F_t 2 0) (F_t 3 0) (F_t 4 0) (F_t 5 0) (F_t 6 0) (F_t 7 0) (F_t 8 0) (F_t 9 0) (F_t 10 0) (F_t 11 0) (F_t 12 0) (F_t 15 0) (F_t 16 0) (F_t 17 0) (F_t 23 0) (F_t 27 0) (F_t 28 0) (F_t 30 0), ia g (Q_t 18) 16 (F_t 18), ia g (Q_t 20) 174 (F_t 20)]) rfl rfl (As := [.int x2, .int (0 : Int32), .int (2 : Int32)]) (rest := []) rfl hl.1 rfl rfl dX10_place_14 (fun H locs hP hD hS => ?_)
    refine lv_if_ne (tgt := 23) hx hb dX10_place_17 (by decide) (fun c_4 => ?_) (fun c_4 => ?_)
    · have h := ox_f c_4 h
      refine lv_iload_n hx hb dX10_place_23 rfl (lv_at hl 2 rfl) ?_
      refine lv_iconst (v := (2 : Int32)) hx hb dX10_place_24 (by decide) ?_
      refine lv_icmp_ge (tgt := 41) hx hb dX10_place_25 (by decide) (fun c_5 => ?_) (fun c_5 => ?_)
      · have h := ox_t c_5 h
        refine lv_aload_n hx hb dX10_place_41 rfl (lv_at hl 0 rfl) ?_
        refine va_get (ci := 10) (v := .ref (Q_t 20)) (C := RX10) (T := TX10) (N := 38) hx hb hts (fun w h => .tail _ (u_inX10 w h)) hown hK.1 hP 0 rfl rfl 20 (by decide) (hts _ (.tail _ u_fl_X10_29)) (fun _ h9 => h9) rfl dX10_place_42 ?_
        refine lv_bipush (v := (80 : Int32)) hx hb dX10_place_45 (by decide) ?_
        refine lv_iload_n hx hb dX10_place_47 rfl (lv_at hl 1 rfl) ?_
        refine lv_iadd hx hb dX10_place_48 ?_
        obtain ⟨hi_6, h⟩ := ox_chk h
        refine va_iald hx hb hK.1 hP 2 0 rfl rfl hi_6 dX10_place_49 ?_
        obtain rfl := Option.some.inj h
        exact k_iret hx hb hr hlk hP hD hS dX10_place_50
      · have h := ox_f c_5 h
        refine lv_aload_n hx hb dX10_place_28 rfl (lv_at hl 0 rfl) ?_
        refine va_get (ci := 10) (v := .ref (Q_t 18)) (C := RX10) (T := TX10) (N := 38) hx hb hts (fun w h => .tail _ (u_inX10 w h)) hown hK.1 hP 0 rfl rfl 18 (by decide) (hts _ (.tail _ u_fl_X10_23)) (fun _ h9 => h9) rfl dX10_place_29 ?_
        refine lv_iconst (v := (2 : Int32)) hx hb dX10_place_32 (by decide) ?_
        refine lv_iload_n hx hb dX10_place_33 rfl (lv_at hl 1 rfl) ?_
        refine lv_imul hx hb dX10_place_34 ?_
        refine lv_iload_n hx hb dX10_place_35 rfl (lv_at hl 2 rfl) ?_
        refine lv_iadd hx hb dX10_place_36 ?_
        obtain ⟨hi_7, h⟩ := ox_chk h
        refine va_iald hx hb hK.1 hP 1 0 rfl rfl hi_7 dX10_place_37 ?_
        refine lv_goto (tgt := 50) hx hb dX10_place_38 (by decide) ?_
        obtain rfl := Option.some.inj h
        exact k_iret hx hb hr hlk hP hD hS dX10_place_50
    · have h := ox_t c_4 h
      refine lv_ldc (v := (-1000000002 : Int32)) hx hb hown (hts _ (.tail _ u_k_X10_90)) dX10_place_20 ?_
      obtain rfl := Option.some.inj h
      exact k_iret hx hb hr hlk hP hD hS dX10_place_22
  · have h := ox_t c_2 h
    refine lv_ldc (v := (-1000000001 : Int32)) hx hb hown (hts _ (.tail _ u_k_X10_183)) dX10_place_8 ?_
    obtain rfl := Option.some.inj h
    exact k_iret hx hb hr hlk hP hD hS dX10_place_10
set_option maxRecDepth 100000 in
theorem c_X10_place (l : Launch) (g : gG) (q_t : Nat) (Q_t : Ad) (F_t : St) (x1 : Int32) (x2 : Int32) (o : Int32) (h : x_X10_place F_t x1 x2 = some o) (sz : Nat) : MetI l yX10_place (.code yX10_place cX10_place 3 (some .int) :: gW) 2 43 [.ref q_t, .int x1, .int x2] o g [oX10 q_t Q_t (F_t 0 0) (F_t 2 0) (F_t 3 0) (F_t 4 0) (F_t 5 0) (F_t 6 0) (F_t 7 0) (F_t 8 0) (F_t 9 0) (F_t 10 0) (F_t 11 0) (F_t 12 0) (F_t 15 0) (F_t 16 0) (F_t 17 0) (F_t 23 0) (F_t 27 0) (F_t 28 0) (F_t 30 0), ia g (Q_t 18) 16 (F_t 18), ia g (Q_t 20) 174 (F_t 20)] [oX10 q_t Q_t (F_t 0 0) (F_t 2 0) (F_t 3 0) (F_t 4 0) (F_t 5 0) (F_t 6 0) (F_t 7 0) (F_t 8 0) (F_t 9 0) (F_t 10 0) (F_t 11 0) (F_t 12 0) (F_t 15 0) (F_t 16 0) (F_t 17 0) (F_t 23 0) (F_t 27 0) (F_t 28 0) (F_t 30 0), ia g (Q_t 18) 16 (F_t 18), ia g (Q_t 20) 174 (F_t 20)] sz :=
  mkI (av := [.ref q_t, .int x1, .int x2]) (by decide +kernel) rfl (fun p e s m below meth c A E H locs ls hP hD hS hl => t_X10_place E q_t Q_t F_t x1 x2 o h H locs ls hP hD hS hl) sz
def x_X10_channel (F_t : St) (x1 : Int32) (x2 : Int32) : Option (Int32) :=
  Option.bind (x_X10_isChannel F_t x1) (fun v_1 => if v_1 = 0 then (some (-1000000001 : Int32)) else (Option.bind (x_X10_in x2 (0 : Int32) (5 : Int32)) (fun v_3 => if v_3 = 0 then (some (-1000000002 : Int32)) else (if (3 : Int32) ≤ x2 then (if x2 = (3 : Int32) then (if ((152 : Int32) + x1) < 0 ∨ 174 ≤ ((152 : Int32) + x1).toNatClampNeg then none else some ((F_t 20) ((152 : Int32) + x1).toNatClampNeg)) else (if x2 = (4 : Int32) then (some ((((F_t 20) (172 : Int32).toNatClampNeg) >>> (x1 &&& 31)) &&& (1 : Int32))) else (if ((162 : Int32) + x1) < 0 ∨ 174 ≤ ((162 : Int32) + x1).toNatClampNeg then none else some ((F_t 20) ((162 : Int32) + x1).toNatClampNeg)))) else (if (((3 : Int32) * x1) + x2) < 0 ∨ 30 ≤ (((3 : Int32) * x1) + x2).toNatClampNeg then none else some ((F_t 19) (((3 : Int32) * x1) + x2).toNatClampNeg))))))
set_option maxHeartbeats 4000000 in
set_option maxRecDepth 100000 in
theorem t_X10_channel {p : Program} {l : Launch} {e : Env} {s : State} {m : MethodId} {args : Array Value} {below : List Frame} {meth : Method} {c : Code} {g : gG} {A : Nat → Prop} (E : En p s m args meth c g A cX10_channel 3 (.code yX10_channel cX10_channel 3 (some .int) :: gW) RX10 (some .int)) (q_t : Nat) (Q_t : Ad) (F_t : St) (x1 : Int32) (x2 : Int32) (o : Int32) (h : x_X10_channel F_t x1 x2 = some o) : WA p l e (rM 2 43) s m args below meth c g A (MQ below (QI g A o [oX10 q_t Q_t (F_t 0 0) (F_t 2 0) (F_t 3 0) (F_t 4 0) (F_t 5 0) (F_t 6 0) (F_t 7 0) (F_t 8 0) (F_t 9 0) (F_t 10 0) (F_t 11 0) (F_t 12 0) (F_t 15 0) (F_t 16 0) (F_t 17 0) (F_t 23 0) (F_t 27 0) (F_t 28 0) (F_t 30 0), ia g (Q_t 19) 30 (F_t 19), ia g (Q_t 20) 174 (F_t 20)]) args s 0 0 A) 3 0 [oX10 q_t Q_t (F_t 0 0) (F_t 2 0) (F_t 3 0) (F_t 4 0) (F_t 5 0) (F_t 6 0) (F_t 7 0) (F_t 8 0) (F_t 9 0) (F_t 10 0) (F_t 11 0) (F_t 12 0) (F_t 15 0) (F_t 16 0) (F_t 17 0) (F_t 23 0) (F_t 27 0) (F_t 28 0) (F_t 30 0), ia g (Q_t 19) 30 (F_t 19), ia g (Q_t 20) 174 (F_t 20)] [(0, .ref q_t), (1, .int x1), (2, .int x2)] [] := by
  obtain ⟨⟨hx, hb, hml, hown, hts⟩, hr, hK, hA, hlk⟩ := id E
  intro H locs ls hP hD hS hl
  refine lv_aload_n hx hb dX10_channel_0 rfl (lv_at hl 0 rfl) ?_
  refine lv_iload_n hx hb dX10_channel_1 rfl (lv_at hl 1 rfl) ?_
  obtain ⟨v_1, hv_1, h⟩ := ox_bind h
  refine kVi ⟨hx, hb, hml, hown, hts⟩ (c_X10_isChannel l g q_t Q_t F_t x1 v_1 hv_1 H.size) (gV u_ml_X10_184 u_im_X10_isChannel u_se_X10_isChannel u_ini_X10 u_co_X10_isChannel) hd_X10_isChannel ⟨rfl, rfl⟩ hK hP hD hS hA 0 10 rfl rfl [0] [0, 2, 3] rfl rfl 1 rfl (w2 := [oX10 q_t Q_t (F_t 0 0) (F_t 2 0) (F_t 3 0) (F_t 4 0) (F_t 5 0) (F_t 6 0) (F_t 7 0) (F_t 8 0) (F_t 9 0) (F_t 10 0) (F_t 11 0) (F_t 12 0) (F_t 15 0) (F_t 16 0) (F_t 17 0) (F_t 23 0) (F_t 27 0) (F_t 28 0) (F_t 30 0), ia g (Q_t 19) 30 (F_t 19), ia g (Q_t 20) 174 (F_t 20)]) rfl rfl (As := [.int x1]) (rest := []) rfl hl.1 rfl rfl dX10_channel_2 (fun H locs hP hD hS => ?_)
  refine lv_if_ne (tgt := 11) hx hb dX10_channel_5 (by decide) (fun c_2 => ?_) (fun c_2 => ?_)
  · have h := ox_f c_2 h
    refine lv_iload_n hx hb dX10_channel_11 rfl (lv_at hl 2 rfl) ?_
    refine lv_iconst (v := (0 : Int32)) hx hb dX10_channel_12 (by decide) ?_
    refine lv_iconst (v := (5 : Int32)) hx hb dX10_channel_13 (by decide) ?_
    obtain ⟨v_3, hv_3, h⟩ := ox_bind h
    refine kSi ⟨hx, hb, hml, hown, hts⟩ (c_X10_in l g x2 (0 : Int32) (5 : Int32) v_3 hv_3 H.size) (gS u_ml_X10_83 u_st_X10_in u_ini_X10 u_co_X10_in) hd_X10_in ⟨rfl, rfl⟩ hK hP hD hS hA [] [0, 1, 2] rfl rfl 0 rfl (w2 := [oX10 q_t Q_t (F_t 0 0) (F_t 2 0) (F_t 3 0) (F_t 4 0) (F_t 5 0) (F_t 6 0) (F_t 7 0) (F_t 8 0) (F_t 9 0) (F_t 10 0) (F_t 11 0) (F_t 12 0) (F_t 15 0) (F_t 16 0) (F_t 17 0) (F_t 23 0) (F_t 27 0) (F_t 28 0) (F_t 30 0), ia g (Q_t 19) 30 (F_t 19), ia g (Q_t 20) 174 (F_t 20)]) rfl rfl (As := [.int x2, .int (0 : Int32), .int (5 : Int32)]) (rest := []) rfl hl.1 rfl rfl dX10_channel_14 (fun H locs hP hD hS => ?_)
    refine lv_if_ne (tgt := 23) hx hb dX10_channel_17 (by decide) (fun c_4 => ?_) (fun c_4 => ?_)
    · have h := ox_f c_4 h
      refine lv_iload_n hx hb dX10_channel_23 rfl (lv_at hl 2 rfl) ?_
      refine lv_iconst (v := (3 : Int32)) hx hb dX10_channel_24 (by decide) ?_
      refine lv_icmp_ge (tgt := 41) hx hb dX10_channel_25 (by decide) (fun c_5 => ?_) (fun c_5 => ?_)
      · have h := ox_t c_5 h
        refine lv_iload_n hx hb dX10_channel_41 rfl (lv_at hl 2 rfl) ?_
        refine lv_iconst (v := (3 : Int32)) hx hb dX10_channel_42 (by decide) ?_
        refine lv_icmp_ne (tgt := 59) hx hb dX10_channel_43 (by decide) (fun c_6 => ?_) (fun c_6 => ?_)
        · have h := ox_f c_6 h
          refine lv_iload_n hx hb dX10_channel_59 rfl (lv_at hl 2 rfl) ?_
          refine lv_iconst (v := (4 : Int32)) hx hb dX10_channel_60 (by decide) ?_
          refine lv_icmp_ne (tgt := 79) hx hb dX10_channel_61 (by decide) (fun c_7 => ?_) (fun c_7 => ?_)
          · have h := ox_f c_7 h
            refine lv_aload_n hx hb dX10_channel_79 rfl (lv_at hl 0 rfl) ?_
            refine va_get (ci := 10) (v := .ref (Q_t 20)) (C := RX10) (T := TX10) (N := 38) hx hb hts (fun w h => .tail _ (u_inX10 w h)) hown hK.1 hP 0 rfl rfl 20 (by decide) (hts _ (.tail _ u_fl_X10_29)) (fun _ h9 => h9) rfl dX10_channel_80 ?_
            refine lv_sipush (v := (162 : Int32)) hx hb dX10_channel_83 (by decide) ?_
            refine lv_iload_n hx hb dX10_channel_86 rfl (lv_at hl 1 rfl) ?_
            refine lv_iadd hx hb dX10_channel_87 ?_
            obtain ⟨hi_8, h⟩ := ox_chk h
            refine va_iald hx hb hK.1 hP 2 0 rfl rfl hi_8 dX10_channel_88 ?_
            obtain rfl := Option.some.inj h
            exact k_iret hx hb hr hlk hP hD hS dX10_channel_89
          · have h := ox_t c_7 h
            refine lv_aload_n hx hb dX10_channel_64 rfl (lv_at hl 0 rfl) ?_
            refine va_get (ci := 10) (v := .ref (Q_t 20)) (C := RX10) (T := TX10) (N := 38) hx hb hts (fun w h => .tail _ (u_inX10 w h)) hown hK.1 hP 0 rfl rfl 20 (by decide) (hts _ (.tail _ u_fl_X10_29)) (fun _ h9 => h9) rfl dX10_channel_65 ?_
            refine lv_sipush (v := (172 : Int32)) hx hb dX10_channel_68 (by decide) ?_
            refine va_iald hx hb hK.1 hP 2 0 rfl rfl (by unfold vp_in; decide) dX10_channel_71 ?_
            refine lv_iload_n hx hb dX10_channel_72 rfl (lv_at hl 1 rfl) ?_
            refine lv_ishr hx hb dX10_channel_73 ?_
            refine lv_iconst (v := (1 : Int32)) hx hb dX10_channel_74 (by decide) ?_
            refine lv_iand hx hb dX10_channel_75 ?_
            refine lv_goto (tgt := 89) hx hb dX10_channel_76 (by decide) ?_
            obtain rfl := Option.some.inj h
            exact k_iret hx hb hr hlk hP hD hS dX10_channel_89
        · have h := ox_t c_6 h
          refine lv_aload_n hx hb dX10_channel_46 rfl (lv_at hl 0 rfl) ?_
          refine va_get (ci := 10) (v := .ref (Q_t 20)) (C := RX10) (T := TX10) (N := 38) hx hb hts (fun w h => .tail _ (u_inX10 w h)) hown hK.1 hP 0 rfl rfl 20 (by decide) (hts _ (.tail _ u_fl_X10_29)) (fun _ h9 => h9) rfl dX10_channel_47 ?_
          refine lv_sipush (v := (152 : Int32)) hx hb dX10_channel_50 (by decide) ?_
          refine lv_iload_n hx hb dX10_channel_53 rfl (lv_at hl 1 rfl) ?_
          refine lv_iadd hx hb dX10_channel_54 ?_
          obtain ⟨hi_9, h⟩ := ox_chk h
          refine va_iald hx hb hK.1 hP 2 0 rfl rfl hi_9 dX10_channel_55 ?_
          refine lv_goto (tgt := 89) hx hb dX10_channel_56 (by decide) ?_
          obtain rfl := Option.some.inj h
          exact k_iret hx hb hr hlk hP hD hS dX10_channel_89
      · have h := ox_f c_5 h
        refine lv_aload_n hx hb dX10_channel_28 rfl (lv_at hl 0 rfl) ?_
        refine va_get (ci := 10) (v := .ref (Q_t 19)) (C := RX10) (T := TX10) (N := 38) hx hb hts (fun w h => .tail _ (u_inX10 w h)) hown hK.1 hP 0 rfl rfl 19 (by decide) (hts _ (.tail _ u_fl_X10_26)) (fun _ h9 => h9) rfl dX10_channel_29 ?_
        refine lv_iconst (v := (3 : Int32)) hx hb dX10_channel_32 (by decide) ?_
        refine lv_iload_n hx hb dX10_channel_33 rfl (lv_at hl 1 rfl) ?_
        refine lv_imul hx hb dX10_channel_34 ?_
        refine lv_iload_n hx hb dX10_channel_35 rfl (lv_at hl 2 rfl) ?_
        refine lv_iadd hx hb dX10_channel_36 ?_
        obtain ⟨hi_10, h⟩ := ox_chk h
        refine va_iald hx hb hK.1 hP 1 0 rfl rfl hi_10 dX10_channel_37 ?_
        refine lv_goto (tgt := 89) hx hb dX10_channel_38 (by decide) ?_
        obtain rfl := Option.some.inj h
        exact k_iret hx hb hr hlk hP hD hS dX10_channel_89
    · have h := ox_t c_4 h
      refine lv_ldc (v := (-1000000002 : Int32)) hx hb hown (hts _ (.tail _ u_k_X10_90)) dX10_channel_20 ?_
      obtain rfl := Option.some.inj h
      exact k_iret hx hb hr hlk hP hD hS dX10_channel_22
  · have h := ox_t c_2 h
    refine lv_ldc (v := (-1000000001 : Int32)) hx hb hown (hts _ (.tail _ u_k_X10_183)) dX10_channel_8 ?_
    obtain rfl := Option.some.inj h
    exact k_iret hx hb hr hlk hP hD hS dX10_channel_10
set_option maxRecDepth 100000 in
theorem c_X10_channel (l : Launch) (g : gG) (q_t : Nat) (Q_t : Ad) (F_t : St) (x1 : Int32) (x2 : Int32) (o : Int32) (h : x_X10_channel F_t x1 x2 = some o) (sz : Nat) : MetI l yX10_channel (.code yX10_channel cX10_channel 3 (some .int) :: gW) 2 43 [.ref q_t, .int x1, .int x2] o g [oX10 q_t Q_t (F_t 0 0) (F_t 2 0) (F_t 3 0) (F_t 4 0) (F_t 5 0) (F_t 6 0) (F_t 7 0) (F_t 8 0) (F_t 9 0) (F_t 10 0) (F_t 11 0) (F_t 12 0) (F_t 15 0) (F_t 16 0) (F_t 17 0) (F_t 23 0) (F_t 27 0) (F_t 28 0) (F_t 30 0), ia g (Q_t 19) 30 (F_t 19), ia g (Q_t 20) 174 (F_t 20)] [oX10 q_t Q_t (F_t 0 0) (F_t 2 0) (F_t 3 0) (F_t 4 0) (F_t 5 0) (F_t 6 0) (F_t 7 0) (F_t 8 0) (F_t 9 0) (F_t 10 0) (F_t 11 0) (F_t 12 0) (F_t 15 0) (F_t 16 0) (F_t 17 0) (F_t 23 0) (F_t 27 0) (F_t 28 0) (F_t 30 0), ia g (Q_t 19) 30 (F_t 19), ia g (Q_t 20) 174 (F_t 20)] sz :=
  mkI (av := [.ref q_t, .int x1, .int x2]) (by decide +kernel) rfl (fun p e s m below meth c A E H locs ls hP hD hS hl => t_X10_channel E q_t Q_t F_t x1 x2 o h H locs ls hP hD hS hl) sz
def x_X10_first (F_t : St) (x1 : Int32) (x2 : Int32) : Option (Int32) :=
  Option.bind (x_X10_isPlace F_t x1) (fun v_1 => if v_1 = 0 then (some (-1000000001 : Int32)) else (Option.bind (x_X10_isSaying x2) (fun v_3 => if v_3 = 0 then (some (-1000000001 : Int32)) else (if (((88 : Int32) + ((8 : Int32) * x1)) + x2) < 0 ∨ 174 ≤ (((88 : Int32) + ((8 : Int32) * x1)) + x2).toNatClampNeg then none else some ((F_t 20) (((88 : Int32) + ((8 : Int32) * x1)) + x2).toNatClampNeg)))))
set_option maxHeartbeats 4000000 in
set_option maxRecDepth 100000 in
theorem t_X10_first {p : Program} {l : Launch} {e : Env} {s : State} {m : MethodId} {args : Array Value} {below : List Frame} {meth : Method} {c : Code} {g : gG} {A : Nat → Prop} (E : En p s m args meth c g A cX10_first 3 (.code yX10_first cX10_first 3 (some .int) :: gW) RX10 (some .int)) (q_t : Nat) (Q_t : Ad) (F_t : St) (x1 : Int32) (x2 : Int32) (o : Int32) (h : x_X10_first F_t x1 x2 = some o) : WA p l e (rM 2 43) s m args below meth c g A (MQ below (QI g A o [oX10 q_t Q_t (F_t 0 0) (F_t 2 0) (F_t 3 0) (F_t 4 0) (F_t 5 0) (F_t 6 0) (F_t 7 0) (F_t 8 0) (F_t 9 0) (F_t 10 0) (F_t 11 0) (F_t 12 0) (F_t 15 0) (F_t 16 0) (F_t 17 0) (F_t 23 0) (F_t 27 0) (F_t 28 0) (F_t 30 0), ia g (Q_t 20) 174 (F_t 20)]) args s 0 0 A) 3 0 [oX10 q_t Q_t (F_t 0 0) (F_t 2 0) (F_t 3 0) (F_t 4 0) (F_t 5 0) (F_t 6 0) (F_t 7 0) (F_t 8 0) (F_t 9 0) (F_t 10 0) (F_t 11 0) (F_t 12 0) (F_t 15 0) (F_t 16 0) (F_t 17 0) (F_t 23 0) (F_t 27 0) (F_t 28 0) (F_t 30 0), ia g (Q_t 20) 174 (F_t 20)] [(0, .ref q_t), (1, .int x1), (2, .int x2)] [] := by
  obtain ⟨⟨hx, hb, hml, hown, hts⟩, hr, hK, hA, hlk⟩ := id E
  intro H locs ls hP hD hS hl
  refine lv_aload_n hx hb dX10_first_0 rfl (lv_at hl 0 rfl) ?_
  refine lv_iload_n hx hb dX10_first_1 rfl (lv_at hl 1 rfl) ?_
  obtain ⟨v_1, hv_1, h⟩ := ox_bind h
  refine kVi ⟨hx, hb, hml, hown, hts⟩ (c_X10_isPlace l g q_t Q_t F_t x1 v_1 hv_1 H.size) (gV u_ml_X10_180 u_im_X10_isPlace u_se_X10_isPlace u_ini_X10 u_co_X10_isPlace) hd_X10_isPlace ⟨rfl, rfl⟩ hK hP hD hS hA 0 10 rfl rfl [0] [0, 2] rfl rfl 1 rfl (w2 := [oX10 q_t Q_t (F_t 0 0) (F_t 2 0) (F_t 3 0) (F_t 4 0) (F_t 5 0) (F_t 6 0) (F_t 7 0) (F_t 8 0) (F_t 9 0) (F_t 10 0) (F_t 11 0) (F_t 12 0) (F_t 15 0) (F_t 16 0) (F_t 17 0) (F_t 23 0) (F_t 27 0) (F_t 28 0) (F_t 30 0), ia g (Q_t 20) 174 (F_t 20)]) rfl rfl (As := [.int x1]) (rest := []) rfl hl.1 rfl rfl dX10_first_2 (fun H locs hP hD hS => ?_)
  refine lv_if_eq (tgt := 32) hx hb dX10_first_5 (by decide) (fun c_2 => ?_) (fun c_2 => ?_)
  · have h := ox_t c_2 h
    refine lv_ldc (v := (-1000000001 : Int32)) hx hb hown (hts _ (.tail _ u_k_X10_183)) dX10_first_32 ?_
    obtain rfl := Option.some.inj h
    exact k_iret hx hb hr hlk hP hD hS dX10_first_34
  · have h := ox_f c_2 h
    refine lv_iload_n hx hb dX10_first_8 rfl (lv_at hl 2 rfl) ?_
    obtain ⟨v_3, hv_3, h⟩ := ox_bind h
    refine kSi ⟨hx, hb, hml, hown, hts⟩ (c_X10_isSaying l g x2 v_3 hv_3 H.size) (gS u_ml_X10_187 u_st_X10_isSaying u_ini_X10 u_co_X10_isSaying) hd_X10_isSaying ⟨rfl, rfl⟩ hK hP hD hS hA [] [0, 1] rfl rfl 0 rfl (w2 := [oX10 q_t Q_t (F_t 0 0) (F_t 2 0) (F_t 3 0) (F_t 4 0) (F_t 5 0) (F_t 6 0) (F_t 7 0) (F_t 8 0) (F_t 9 0) (F_t 10 0) (F_t 11 0) (F_t 12 0) (F_t 15 0) (F_t 16 0) (F_t 17 0) (F_t 23 0) (F_t 27 0) (F_t 28 0) (F_t 30 0), ia g (Q_t 20) 174 (F_t 20)]) rfl rfl (As := [.int x2]) (rest := []) rfl hl.1 rfl rfl dX10_first_9 (fun H locs hP hD hS => ?_)
    refine lv_if_eq (tgt := 32) hx hb dX10_first_12 (by decide) (fun c_4 => ?_) (fun c_4 => ?_)
    · have h := ox_t c_4 h
      refine lv_ldc (v := (-1000000001 : Int32)) hx hb hown (hts _ (.tail _ u_k_X10_183)) dX10_first_32 ?_
      obtain rfl := Option.some.inj h
      exact k_iret hx hb hr hlk hP hD hS dX10_first_34
    · have h := ox_f c_4 h
      refine lv_aload_n hx hb dX10_first_15 rfl (lv_at hl 0 rfl) ?_
      refine va_get (ci := 10) (v := .ref (Q_t 20)) (C := RX10) (T := TX10) (N := 38) hx hb hts (fun w h => .tail _ (u_inX10 w h)) hown hK.1 hP 0 rfl rfl 20 (by decide) (hts _ (.tail _ u_fl_X10_29)) (fun _ h9 => h9) rfl dX10_first_16 ?_
      refine lv_bipush (v := (88 : Int32)) hx hb dX10_first_19 (by decide) ?_
      refine lv_bipush (v := (8 : Int32)) hx hb dX10_first_21 (by decide) ?_
      refine lv_iload_n hx hb dX10_first_23 rfl (lv_at hl 1 rfl) ?_
      refine lv_imul hx hb dX10_first_24 ?_
      refine lv_iadd hx hb dX10_first_25 ?_
      refine lv_iload_n hx hb dX10_first_26 rfl (lv_at hl 2 rfl) ?_
      refine lv_iadd hx hb dX10_first_27 ?_
      obtain ⟨hi_5, h⟩ := ox_chk h
      refine va_iald hx hb hK.1 hP 1 0 rfl rfl hi_5 dX10_first_28 ?_
      refine lv_goto (tgt := 34) hx hb dX10_first_29 (by decide) ?_
      obtain rfl := Option.some.inj h
      exact k_iret hx hb hr hlk hP hD hS dX10_first_34
set_option maxRecDepth 100000 in
theorem c_X10_first (l : Launch) (g : gG) (q_t : Nat) (Q_t : Ad) (F_t : St) (x1 : Int32) (x2 : Int32) (o : Int32) (h : x_X10_first F_t x1 x2 = some o) (sz : Nat) : MetI l yX10_first (.code yX10_first cX10_first 3 (some .int) :: gW) 2 43 [.ref q_t, .int x1, .int x2] o g [oX10 q_t Q_t (F_t 0 0) (F_t 2 0) (F_t 3 0) (F_t 4 0) (F_t 5 0) (F_t 6 0) (F_t 7 0) (F_t 8 0) (F_t 9 0) (F_t 10 0) (F_t 11 0) (F_t 12 0) (F_t 15 0) (F_t 16 0) (F_t 17 0) (F_t 23 0) (F_t 27 0) (F_t 28 0) (F_t 30 0), ia g (Q_t 20) 174 (F_t 20)] [oX10 q_t Q_t (F_t 0 0) (F_t 2 0) (F_t 3 0) (F_t 4 0) (F_t 5 0) (F_t 6 0) (F_t 7 0) (F_t 8 0) (F_t 9 0) (F_t 10 0) (F_t 11 0) (F_t 12 0) (F_t 15 0) (F_t 16 0) (F_t 17 0) (F_t 23 0) (F_t 27 0) (F_t 28 0) (F_t 30 0), ia g (Q_t 20) 174 (F_t 20)] sz :=
  mkI (av := [.ref q_t, .int x1, .int x2]) (by decide +kernel) rfl (fun p e s m below meth c A E H locs ls hP hD hS hl => t_X10_first E q_t Q_t F_t x1 x2 o h H locs ls hP hD hS hl) sz
def x_X10_copy_b3 (N : Nat) (n_a0 : Nat) (n_a2 : Nat) (f_a0 : (Nat → Int32)) (f_a2 : (Nat → Int32)) (x1 : Int32) (x3 : Int32) (x4 : Int32) : Option ((Int32 × (Nat → Int32)) ⊕ ((Nat → Int32))) :=
  if (174 : Int32) ≤ x4 then (some (.inr f_a2)) else (if (x1 + x4) < 0 ∨ n_a0 ≤ (x1 + x4).toNatClampNeg then none else if (x3 + x4) < 0 ∨ n_a2 ≤ (x3 + x4).toNatClampNeg then none else xl (f_a0 (x1 + x4).toNatClampNeg) (fun y_4 => some (.inl ((x4 + (1 : Int32)), (upd f_a2 (x3 + x4).toNatClampNeg y_4)))))
set_option maxHeartbeats 4000000 in
set_option maxRecDepth 100000 in
theorem t_X10_copy_b3 {p : Program} {l : Launch} {e : Env} {s : State} {m : MethodId} {args : Array Value} {below : List Frame} {meth : Method} {c : Code} {g : gG} {A : Nat → Prop} {Q : State → Prop} (E : En p s m args meth c g A cX10_copy 5 (.code yX10_copy cX10_copy 5 none :: gW) RX10 none) (q_a0 : Nat) (q_a2 : Nat) (N : Nat) (n_a0 : Nat) (n_a2 : Nat) (f_a0 : (Nat → Int32)) (f_a2 : (Nat → Int32)) (x1 : Int32) (x3 : Int32) (x4 : Int32) (o : (Int32 × (Nat → Int32)) ⊕ ((Nat → Int32))) (h : x_X10_copy_b3 N n_a0 n_a2 f_a0 f_a2 x1 x3 x4 = some o) (hc : ∀ z, o = .inl z → WA p l e (rM 0 0) s m args below meth c g A Q 5 3 [ia g q_a0 n_a0 f_a0, ia g q_a2 n_a2 z.2] [(0, .ref q_a0), (1, .int x1), (2, .ref q_a2), (3, .int x3), (4, .int z.1)] []) (he : ∀ v, o = .inr v → WA p l e (rM 0 0) s m args below meth c g A Q 5 29 [ia g q_a0 n_a0 f_a0, ia g q_a2 n_a2 v] [] []) : WA p l e (rM 0 0) s m args below meth c g A Q 5 3 [ia g q_a0 n_a0 f_a0, ia g q_a2 n_a2 f_a2] [(0, .ref q_a0), (1, .int x1), (2, .ref q_a2), (3, .int x3), (4, .int x4)] [] := by
  obtain ⟨⟨hx, hb, hml, hown, hts⟩, hr, hK, hA, hlk⟩ := id E
  intro H locs ls hP hD hS hl
  refine lv_iload hx hb dX10_copy_3 (lv_at hl 4 rfl) ?_
  refine lv_sipush (v := (174 : Int32)) hx hb dX10_copy_5 (by decide) ?_
  refine lv_icmp_ge (tgt := 29) hx hb dX10_copy_8 (by decide) (fun c_1 => ?_) (fun c_1 => ?_)
  · have h := ox_t c_1 h
    obtain rfl := Option.some.inj h
    exact he _ rfl H locs ls hP hD hS (lv_sub hl [] rfl)
  · have h := ox_f c_1 h
    refine lv_aload_n hx hb dX10_copy_11 rfl (lv_at hl 2 rfl) ?_
    refine lv_iload_n hx hb dX10_copy_12 rfl (lv_at hl 3 rfl) ?_
    refine lv_iload hx hb dX10_copy_13 (lv_at hl 4 rfl) ?_
    refine lv_iadd hx hb dX10_copy_15 ?_
    refine lv_aload_n hx hb dX10_copy_16 rfl (lv_at hl 0 rfl) ?_
    refine lv_iload_n hx hb dX10_copy_17 rfl (lv_at hl 1 rfl) ?_
    refine lv_iload hx hb dX10_copy_18 (lv_at hl 4 rfl) ?_
    refine lv_iadd hx hb dX10_copy_20 ?_
    obtain ⟨hi_2, h⟩ := ox_chk h
    refine va_iald hx hb hK.1 hP 0 0 rfl rfl hi_2 dX10_copy_21 ?_
    obtain ⟨hi_3, h⟩ := ox_chk h
    refine lv_topi (fun y_4 ey_4 => ?_)
    have h := xl_at ey_4 h
    refine va_iast hx hb hK.1 hP hD hS 1 0 rfl rfl hi_3 dX10_copy_22 (fun H locs hP hD hS => ?_)
    have hP : va_P g.1 vwCl [ia g q_a0 n_a0 f_a0, ia g q_a2 n_a2 (upd f_a2 (x3 + x4).toNatClampNeg y_4)] H := hP
    have hD : va_D A [ia g q_a0 n_a0 f_a0, ia g q_a2 n_a2 (upd f_a2 (x3 + x4).toNatClampNeg y_4)] := hD
    refine lv_iinc (v := (x4 + (1 : Int32))) (lv' := [(4, .int (x4 + (1 : Int32))), (0, .ref q_a0), (1, .int x1), (2, .ref q_a2), (3, .int x3)]) hx hb dX10_copy_23 hl (k := 4) rfl rfl (by decide) rfl (fun ls hl => ?_)
    refine lv_goto (tgt := 3) hx hb dX10_copy_26 (by decide) ?_
    obtain rfl := Option.some.inj h
    exact hc _ rfl H locs ls hP hD hS (lv_sub hl [1, 2, 3, 4, 0] rfl)
def x_X10_copy (N : Nat) (n_a0 : Nat) (n_a2 : Nat) (f_a0 : (Nat → Int32)) (f_a2 : (Nat → Int32)) (x1 : Int32) (x3 : Int32) : Option ((Nat → Int32)) :=
  Option.bind (lpc (fun (z : Int32 × (Nat → Int32)) => x_X10_copy_b3 N n_a0 n_a2 f_a0 z.2 x1 x3 z.1) N ((0 : Int32), f_a2)) (fun v_5 => some v_5)
set_option maxHeartbeats 4000000 in
set_option maxRecDepth 100000 in
theorem t_X10_copy {p : Program} {l : Launch} {e : Env} {s : State} {m : MethodId} {args : Array Value} {below : List Frame} {meth : Method} {c : Code} {g : gG} {A : Nat → Prop} (E : En p s m args meth c g A cX10_copy 5 (.code yX10_copy cX10_copy 5 none :: gW) RX10 none) (q_a0 : Nat) (q_a2 : Nat) (N : Nat) (n_a0 : Nat) (n_a2 : Nat) (f_a0 : (Nat → Int32)) (f_a2 : (Nat → Int32)) (x1 : Int32) (x3 : Int32) (o : (Nat → Int32)) (h : x_X10_copy N n_a0 n_a2 f_a0 f_a2 x1 x3 = some o) : WA p l e (rM 0 0) s m args below meth c g A (MQ below (QV g A [ia g q_a0 n_a0 f_a0, ia g q_a2 n_a2 o]) args s 0 0 A) 5 0 [ia g q_a0 n_a0 f_a0, ia g q_a2 n_a2 f_a2] [(0, .ref q_a0), (1, .int x1), (2, .ref q_a2), (3, .int x3)] [] := by
  obtain ⟨⟨hx, hb, hml, hown, hts⟩, hr, hK, hA, hlk⟩ := id E
  intro H locs ls hP hD hS hl
  refine lv_iconst (v := (0 : Int32)) hx hb dX10_copy_0 (by decide) ?_
  refine lv_istore (lv' := [(4, .int (0 : Int32)), (0, .ref q_a0), (1, .int x1), (2, .ref q_a2), (3, .int x3)]) hx hb dX10_copy_1 hl (by decide) rfl (fun ls hl => ?_)
  obtain ⟨v_5, hv_5, h⟩ := ox_bind h
  refine lpc_W (Wh := fun (z : Int32 × (Nat → Int32)) => WA p l e (rM 0 0) s m args below meth c g A (MQ below (QV g A [ia g q_a0 n_a0 f_a0, ia g q_a2 n_a2 o]) args s 0 0 A) 5 3 [ia g q_a0 n_a0 f_a0, ia g q_a2 n_a2 z.2] [(0, .ref q_a0), (1, .int x1), (2, .ref q_a2), (3, .int x3), (4, .int z.1)] []) (We := fun (v : (Nat → Int32)) => WA p l e (rM 0 0) s m args below meth c g A (MQ below (QV g A [ia g q_a0 n_a0 f_a0, ia g q_a2 n_a2 o]) args s 0 0 A) 5 29 [ia g q_a0 n_a0 f_a0, ia g q_a2 n_a2 v] [] []) (fun z r hb hc he => t_X10_copy_b3 E q_a0 q_a2 N n_a0 n_a2 f_a0 z.2 x1 x3 z.1 r hb hc he) N ((0 : Int32), f_a2) v_5 hv_5 ?_ H locs ls hP hD hS (lv_sub hl [1, 2, 3, 4, 0] rfl)
  intro H locs ls hP hD hS hl
  obtain rfl := Option.some.inj h
  exact k_vret hx hb hr hlk hP hD hS dX10_copy_29
set_option maxRecDepth 100000 in
theorem c_X10_copy (l : Launch) (g : gG) (q_a0 : Nat) (q_a2 : Nat) (N : Nat) (n_a0 : Nat) (n_a2 : Nat) (f_a0 : (Nat → Int32)) (f_a2 : (Nat → Int32)) (x1 : Int32) (x3 : Int32) (o : (Nat → Int32)) (h : x_X10_copy N n_a0 n_a2 f_a0 f_a2 x1 x3 = some o) (sz : Nat) : MetV l yX10_copy (.code yX10_copy cX10_copy 5 none :: gW) 0 0 [.ref q_a0, .int x1, .ref q_a2, .int x3] g [ia g q_a0 n_a0 f_a0, ia g q_a2 n_a2 f_a2] [ia g q_a0 n_a0 f_a0, ia g q_a2 n_a2 o] sz :=
  mkV (av := [.ref q_a0, .int x1, .ref q_a2, .int x3]) (by decide +kernel) rfl (fun p e s m below meth c A E H locs ls hP hD hS hl => t_X10_copy E q_a0 q_a2 N n_a0 n_a2 f_a0 f_a2 x1 x3 o h H locs ls hP hD hS hl) sz
def x_X10_note_k50 (N : Nat) (F_t : St) : Option ((Nat → Int32) × Int32) :=
  Option.bind (x_X10_copy N 174 3480 (F_t 20) (F_t 22) (0 : Int32) ((174 : Int32) * (F_t 23 0))) (fun v_1 => xl ((F_t 23 0) + (1 : Int32)) (fun y_2 => some (v_1, y_2)))
set_option maxHeartbeats 4000000 in
set_option maxRecDepth 100000 in
theorem t_X10_note_k50 {p : Program} {l : Launch} {e : Env} {s : State} {m : MethodId} {args : Array Value} {below : List Frame} {meth : Method} {c : Code} {g : gG} {A : Nat → Prop} (E : En p s m args meth c g A cX10_note 2 (.code yX10_note cX10_note 2 none :: gW) RX10 none) (q_t : Nat) (Q_t : Ad) (N : Nat) (F_t : St) (o : (Nat → Int32) × Int32) (h : x_X10_note_k50 N F_t = some o) : WA p l e (rM 1 24) s m args below meth c g A (MQ below (QV g A [oX10 q_t Q_t (F_t 0 0) (F_t 2 0) (F_t 3 0) (F_t 4 0) (F_t 5 0) (F_t 6 0) (F_t 7 0) (F_t 8 0) (F_t 9 0) (F_t 10 0) (F_t 11 0) (F_t 12 0) (F_t 15 0) (F_t 16 0) (F_t 17 0) o.2 (F_t 27 0) (F_t 28 0) (F_t 30 0), ia g (Q_t 20) 174 (F_t 20), ia g (Q_t 22) 3480 o.1]) args s 0 0 A) 2 50 [oX10 q_t Q_t (F_t 0 0) (F_t 2 0) (F_t 3 0) (F_t 4 0) (F_t 5 0) (F_t 6 0) (F_t 7 0) (F_t 8 0) (F_t 9 0) (F_t 10 0) (F_t 11 0) (F_t 12 0) (F_t 15 0) (F_t 16 0) (F_t 17 0) (F_t 23 0) (F_t 27 0) (F_t 28 0) (F_t 30 0), ia g (Q_t 20) 174 (F_t 20), ia g (Q_t 22) 3480 (F_t 22)] [(0, .ref q_t)] [] := by
  obtain ⟨⟨hx, hb, hml, hown, hts⟩, hr, hK, hA, hlk⟩ := id E
  intro H locs ls hP hD hS hl
  refine lv_aload_n hx hb dX10_note_50 rfl (lv_at hl 0 rfl) ?_
  refine va_get (ci := 10) (v := .ref (Q_t 20)) (C := RX10) (T := TX10) (N := 38) hx hb hts (fun w h => .tail _ (u_inX10 w h)) hown hK.1 hP 0 rfl rfl 20 (by decide) (hts _ (.tail _ u_fl_X10_29)) (fun _ h9 => h9) rfl dX10_note_51 ?_
  refine lv_iconst (v := (0 : Int32)) hx hb dX10_note_54 (by decide) ?_
  refine lv_aload_n hx hb dX10_note_55 rfl (lv_at hl 0 rfl) ?_
  refine va_get (ci := 10) (v := .ref (Q_t 22)) (C := RX10) (T := TX10) (N := 38) hx hb hts (fun w h => .tail _ (u_inX10 w h)) hown hK.1 hP 0 rfl rfl 22 (by decide) (hts _ (.tail _ u_fl_X10_35)) (fun _ h9 => h9) rfl dX10_note_56 ?_
  refine lv_sipush (v := (174 : Int32)) hx hb dX10_note_59 (by decide) ?_
  refine lv_aload_n hx hb dX10_note_62 rfl (lv_at hl 0 rfl) ?_
  refine va_get (ci := 10) (v := .int (F_t 23 0)) (C := RX10) (T := TX10) (N := 38) hx hb hts (fun w h => .tail _ (u_inX10 w h)) hown hK.1 hP 0 rfl rfl 23 (by decide) (hts _ (.tail _ u_fl_X10_165)) (fun _ h9 => h9) rfl dX10_note_63 ?_
  refine lv_imul hx hb dX10_note_66 ?_
  obtain ⟨v_1, hv_1, h⟩ := ox_bind h
  refine kSv ⟨hx, hb, hml, hown, hts⟩ (c_X10_copy l g (Q_t 20) (Q_t 22) N 174 3480 (F_t 20) (F_t 22) (0 : Int32) ((174 : Int32) * (F_t 23 0)) v_1 hv_1 H.size) (gS u_ml_X10_190 u_st_X10_copy u_ini_X10 u_co_X10_copy) hd_X10_copy ⟨rfl, rfl⟩ hK hP hD hS hA [1, 2] [2, 0, 1] rfl rfl 2 rfl (w2 := [oX10 q_t Q_t (F_t 0 0) (F_t 2 0) (F_t 3 0) (F_t 4 0) (F_t 5 0) (F_t 6 0) (F_t 7 0) (F_t 8 0) (F_t 9 0) (F_t 10 0) (F_t 11 0) (F_t 12 0) (F_t 15 0) (F_t 16 0) (F_t 17 0) (F_t 23 0) (F_t 27 0) (F_t 28 0) (F_t 30 0), ia g (Q_t 20) 174 (F_t 20), ia g (Q_t 22) 3480 v_1]) rfl rfl (As := [.ref (Q_t 20), .int (0 : Int32), .ref (Q_t 22), .int ((174 : Int32) * (F_t 23 0))]) (rest := []) rfl hl.1 rfl rfl dX10_note_67 (fun H locs hP hD hS => ?_)
  refine lv_aload_n hx hb dX10_note_70 rfl (lv_at hl 0 rfl) ?_
  refine lv_dup hx hb dX10_note_71 rfl ?_
  refine va_get (ci := 10) (v := .int (F_t 23 0)) (C := RX10) (T := TX10) (N := 38) hx hb hts (fun w h => .tail _ (u_inX10 w h)) hown hK.1 hP 0 rfl rfl 23 (by decide) (hts _ (.tail _ u_fl_X10_165)) (fun _ h9 => h9) rfl dX10_note_72 ?_
  refine lv_iconst (v := (1 : Int32)) hx hb dX10_note_75 (by decide) ?_
  refine lv_iadd hx hb dX10_note_76 ?_
  refine lv_topi (fun y_2 ey_2 => ?_)
  have h := xl_at ey_2 h
  refine va_put (ci := 10) (v := .int y_2) (ty := .int) (C := RX10) (T := TX10) (N := 38) hx hb hts (fun w h => .tail _ (u_inX10 w h)) tyX10 tyX10_ok nmX10 hown hK.1 hP hD hS 0 rfl rfl 23 (by decide) (hts _ (.tail _ u_fl_X10_165)) (fun _ h9 => h9) rfl (tyX10_ok 23 (by decide)) rfl rfl (Nat.le_of_ble_eq_true rfl) dX10_note_77 (fun H locs hP hD hS => ?_)
  have hP : va_P g.1 vwCl [oX10 q_t Q_t (F_t 0 0) (F_t 2 0) (F_t 3 0) (F_t 4 0) (F_t 5 0) (F_t 6 0) (F_t 7 0) (F_t 8 0) (F_t 9 0) (F_t 10 0) (F_t 11 0) (F_t 12 0) (F_t 15 0) (F_t 16 0) (F_t 17 0) y_2 (F_t 27 0) (F_t 28 0) (F_t 30 0), ia g (Q_t 20) 174 (F_t 20), ia g (Q_t 22) 3480 v_1] H := hP
  have hD : va_D A [oX10 q_t Q_t (F_t 0 0) (F_t 2 0) (F_t 3 0) (F_t 4 0) (F_t 5 0) (F_t 6 0) (F_t 7 0) (F_t 8 0) (F_t 9 0) (F_t 10 0) (F_t 11 0) (F_t 12 0) (F_t 15 0) (F_t 16 0) (F_t 17 0) y_2 (F_t 27 0) (F_t 28 0) (F_t 30 0), ia g (Q_t 20) 174 (F_t 20), ia g (Q_t 22) 3480 v_1] := hD
  obtain rfl := Option.some.inj h
  exact k_vret hx hb hr hlk hP hD hS dX10_note_80
def x_X10_note_b11 (N : Nat) (F_t : St) (x1 : Int32) : Option ((Int32 × (Nat → Int32)) ⊕ ((Nat → Int32))) :=
  if (3306 : Int32) ≤ x1 then (some (.inr (F_t 22))) else (if (x1 + (174 : Int32)) < 0 ∨ 3480 ≤ (x1 + (174 : Int32)).toNatClampNeg then none else if x1 < 0 ∨ 3480 ≤ x1.toNatClampNeg then none else xl ((F_t 22) (x1 + (174 : Int32)).toNatClampNeg) (fun y_7 => some (.inl ((x1 + (1 : Int32)), (upd (F_t 22) x1.toNatClampNeg y_7)))))
set_option maxHeartbeats 4000000 in
set_option maxRecDepth 100000 in
theorem t_X10_note_b11 {p : Program} {l : Launch} {e : Env} {s : State} {m : MethodId} {args : Array Value} {below : List Frame} {meth : Method} {c : Code} {g : gG} {A : Nat → Prop} {Q : State → Prop} (E : En p s m args meth c g A cX10_note 2 (.code yX10_note cX10_note 2 none :: gW) RX10 none) (q_t : Nat) (Q_t : Ad) (N : Nat) (F_t : St) (x1 : Int32) (o : (Int32 × (Nat → Int32)) ⊕ ((Nat → Int32))) (h : x_X10_note_b11 N F_t x1 = some o) (hc : ∀ z, o = .inl z → WA p l e (rM 1 24) s m args below meth c g A Q 2 11 [oX10 q_t Q_t (F_t 0 0) (F_t 2 0) (F_t 3 0) (F_t 4 0) (F_t 5 0) (F_t 6 0) (F_t 7 0) (F_t 8 0) (F_t 9 0) (F_t 10 0) (F_t 11 0) (F_t 12 0) (F_t 15 0) (F_t 16 0) (F_t 17 0) (F_t 23 0) (F_t 27 0) (F_t 28 0) (F_t 30 0), ia g (Q_t 20) 174 (F_t 20), ia g (Q_t 22) 3480 z.2] [(0, .ref q_t), (1, .int z.1)] []) (he : ∀ v, o = .inr v → WA p l e (rM 1 24) s m args below meth c g A Q 2 40 [oX10 q_t Q_t (F_t 0 0) (F_t 2 0) (F_t 3 0) (F_t 4 0) (F_t 5 0) (F_t 6 0) (F_t 7 0) (F_t 8 0) (F_t 9 0) (F_t 10 0) (F_t 11 0) (F_t 12 0) (F_t 15 0) (F_t 16 0) (F_t 17 0) (F_t 23 0) (F_t 27 0) (F_t 28 0) (F_t 30 0), ia g (Q_t 20) 174 (F_t 20), ia g (Q_t 22) 3480 v] [(0, .ref q_t)] []) : WA p l e (rM 1 24) s m args below meth c g A Q 2 11 [oX10 q_t Q_t (F_t 0 0) (F_t 2 0) (F_t 3 0) (F_t 4 0) (F_t 5 0) (F_t 6 0) (F_t 7 0) (F_t 8 0) (F_t 9 0) (F_t 10 0) (F_t 11 0) (F_t 12 0) (F_t 15 0) (F_t 16 0) (F_t 17 0) (F_t 23 0) (F_t 27 0) (F_t 28 0) (F_t 30 0), ia g (Q_t 20) 174 (F_t 20), ia g (Q_t 22) 3480 (F_t 22)] [(0, .ref q_t), (1, .int x1)] [] := by
  obtain ⟨⟨hx, hb, hml, hown, hts⟩, hr, hK, hA, hlk⟩ := id E
  intro H locs ls hP hD hS hl
  refine lv_iload_n hx hb dX10_note_11 rfl (lv_at hl 1 rfl) ?_
  refine lv_sipush (v := (3306 : Int32)) hx hb dX10_note_12 (by decide) ?_
  refine lv_icmp_ge (tgt := 40) hx hb dX10_note_15 (by decide) (fun c_4 => ?_) (fun c_4 => ?_)
  · have h := ox_t c_4 h
    obtain rfl := Option.some.inj h
    exact he _ rfl H locs ls hP hD hS (lv_sub hl [0] rfl)
  · have h := ox_f c_4 h
    refine lv_aload_n hx hb dX10_note_18 rfl (lv_at hl 0 rfl) ?_
    refine va_get (ci := 10) (v := .ref (Q_t 22)) (C := RX10) (T := TX10) (N := 38) hx hb hts (fun w h => .tail _ (u_inX10 w h)) hown hK.1 hP 0 rfl rfl 22 (by decide) (hts _ (.tail _ u_fl_X10_35)) (fun _ h9 => h9) rfl dX10_note_19 ?_
    refine lv_iload_n hx hb dX10_note_22 rfl (lv_at hl 1 rfl) ?_
    refine lv_aload_n hx hb dX10_note_23 rfl (lv_at hl 0 rfl) ?_
    refine va_get (ci := 10) (v := .ref (Q_t 22)) (C := RX10) (T := TX10) (N := 38) hx hb hts (fun w h => .tail _ (u_inX10 w h)) hown hK.1 hP 0 rfl rfl 22 (by decide) (hts _ (.tail _ u_fl_X10_35)) (fun _ h9 => h9) rfl dX10_note_24 ?_
    refine lv_iload_n hx hb dX10_note_27 rfl (lv_at hl 1 rfl) ?_
    refine lv_sipush (v := (174 : Int32)) hx hb dX10_note_28 (by decide) ?_
    refine lv_iadd hx hb dX10_note_31 ?_
    obtain ⟨hi_5, h⟩ := ox_chk h
    refine va_iald hx hb hK.1 hP 2 0 rfl rfl hi_5 dX10_note_32 ?_
    obtain ⟨hi_6, h⟩ := ox_chk h
    refine lv_topi (fun y_7 ey_7 => ?_)
    have h := xl_at ey_7 h
    refine va_iast hx hb hK.1 hP hD hS 2 0 rfl rfl hi_6 dX10_note_33 (fun H locs hP hD hS => ?_)
    have hP : va_P g.1 vwCl [oX10 q_t Q_t (F_t 0 0) (F_t 2 0) (F_t 3 0) (F_t 4 0) (F_t 5 0) (F_t 6 0) (F_t 7 0) (F_t 8 0) (F_t 9 0) (F_t 10 0) (F_t 11 0) (F_t 12 0) (F_t 15 0) (F_t 16 0) (F_t 17 0) (F_t 23 0) (F_t 27 0) (F_t 28 0) (F_t 30 0), ia g (Q_t 20) 174 (F_t 20), ia g (Q_t 22) 3480 (upd (F_t 22) x1.toNatClampNeg y_7)] H := hP
    have hD : va_D A [oX10 q_t Q_t (F_t 0 0) (F_t 2 0) (F_t 3 0) (F_t 4 0) (F_t 5 0) (F_t 6 0) (F_t 7 0) (F_t 8 0) (F_t 9 0) (F_t 10 0) (F_t 11 0) (F_t 12 0) (F_t 15 0) (F_t 16 0) (F_t 17 0) (F_t 23 0) (F_t 27 0) (F_t 28 0) (F_t 30 0), ia g (Q_t 20) 174 (F_t 20), ia g (Q_t 22) 3480 (upd (F_t 22) x1.toNatClampNeg y_7)] := hD
    refine lv_iinc (v := (x1 + (1 : Int32))) (lv' := [(1, .int (x1 + (1 : Int32))), (0, .ref q_t)]) hx hb dX10_note_34 hl (k := 1) rfl rfl (by decide) rfl (fun ls hl => ?_)
    refine lv_goto (tgt := 11) hx hb dX10_note_37 (by decide) ?_
    obtain rfl := Option.some.inj h
    exact hc _ rfl H locs ls hP hD hS (lv_sub hl [1, 0] rfl)
def x_X10_note (N : Nat) (F_t : St) : Option ((Nat → Int32) × Int32) :=
  if (F_t 23 0) = (20 : Int32) then (Option.bind (lpc (fun (z : Int32 × (Nat → Int32)) => x_X10_note_b11 N (va_up F_t 22 z.2) z.1) N ((0 : Int32), (F_t 22))) (fun v_8 => xl ((F_t 23 0) - (1 : Int32)) (fun y_9 => x_X10_note_k50 N (va_up (va_up F_t 22 v_8) 23 (fun _ => y_9))))) else (x_X10_note_k50 N F_t)
set_option maxHeartbeats 4000000 in
set_option maxRecDepth 100000 in
theorem t_X10_note {p : Program} {l : Launch} {e : Env} {s : State} {m : MethodId} {args : Array Value} {below : List Frame} {meth : Method} {c : Code} {g : gG} {A : Nat → Prop} (E : En p s m args meth c g A cX10_note 2 (.code yX10_note cX10_note 2 none :: gW) RX10 none) (q_t : Nat) (Q_t : Ad) (N : Nat) (F_t : St) (o : (Nat → Int32) × Int32) (h : x_X10_note N F_t = some o) : WA p l e (rM 1 24) s m args below meth c g A (MQ below (QV g A [oX10 q_t Q_t (F_t 0 0) (F_t 2 0) (F_t 3 0) (F_t 4 0) (F_t 5 0) (F_t 6 0) (F_t 7 0) (F_t 8 0) (F_t 9 0) (F_t 10 0) (F_t 11 0) (F_t 12 0) (F_t 15 0) (F_t 16 0) (F_t 17 0) o.2 (F_t 27 0) (F_t 28 0) (F_t 30 0), ia g (Q_t 20) 174 (F_t 20), ia g (Q_t 22) 3480 o.1]) args s 0 0 A) 2 0 [oX10 q_t Q_t (F_t 0 0) (F_t 2 0) (F_t 3 0) (F_t 4 0) (F_t 5 0) (F_t 6 0) (F_t 7 0) (F_t 8 0) (F_t 9 0) (F_t 10 0) (F_t 11 0) (F_t 12 0) (F_t 15 0) (F_t 16 0) (F_t 17 0) (F_t 23 0) (F_t 27 0) (F_t 28 0) (F_t 30 0), ia g (Q_t 20) 174 (F_t 20), ia g (Q_t 22) 3480 (F_t 22)] [(0, .ref q_t)] [] := by
  obtain ⟨⟨hx, hb, hml, hown, hts⟩, hr, hK, hA, hlk⟩ := id E
  intro H locs ls hP hD hS hl
  refine lv_aload_n hx hb dX10_note_0 rfl (lv_at hl 0 rfl) ?_
  refine va_get (ci := 10) (v := .int (F_t 23 0)) (C := RX10) (T := TX10) (N := 38) hx hb hts (fun w h => .tail _ (u_inX10 w h)) hown hK.1 hP 0 rfl rfl 23 (by decide) (hts _ (.tail _ u_fl_X10_165)) (fun _ h9 => h9) rfl dX10_note_1 ?_
  refine lv_bipush (v := (20 : Int32)) hx hb dX10_note_4 (by decide) ?_
  refine lv_icmp_ne (tgt := 50) hx hb dX10_note_6 (by decide) (fun c_3 => ?_) (fun c_3 => ?_)
  · have h := ox_f c_3 h
    exact t_X10_note_k50 E q_t Q_t N F_t _ h H locs ls hP hD hS hl
  · have h := ox_t c_3 h
    refine lv_iconst (v := (0 : Int32)) hx hb dX10_note_9 (by decide) ?_
    refine lv_istore_n (lv' := [(1, .int (0 : Int32)), (0, .ref q_t)]) hx hb dX10_note_10 rfl hl (by decide) rfl (fun ls hl => ?_)
    obtain ⟨v_8, hv_8, h⟩ := ox_bind h
    refine lpc_W (Wh := fun (z : Int32 × (Nat → Int32)) => WA p l e (rM 1 24) s m args below meth c g A (MQ below (QV g A [oX10 q_t Q_t (F_t 0 0) (F_t 2 0) (F_t 3 0) (F_t 4 0) (F_t 5 0) (F_t 6 0) (F_t 7 0) (F_t 8 0) (F_t 9 0) (F_t 10 0) (F_t 11 0) (F_t 12 0) (F_t 15 0) (F_t 16 0) (F_t 17 0) o.2 (F_t 27 0) (F_t 28 0) (F_t 30 0), ia g (Q_t 20) 174 (F_t 20), ia g (Q_t 22) 3480 o.1]) args s 0 0 A) 2 11 [oX10 q_t Q_t (F_t 0 0) (F_t 2 0) (F_t 3 0) (F_t 4 0) (F_t 5 0) (F_t 6 0) (F_t 7 0) (F_t 8 0) (F_t 9 0) (F_t 10 0) (F_t 11 0) (F_t 12 0) (F_t 15 0) (F_t 16 0) (F_t 17 0) (F_t 23 0) (F_t 27 0) (F_t 28 0) (F_t 30 0), ia g (Q_t 20) 174 (F_t 20), ia g (Q_t 22) 3480 z.2] [(0, .ref q_t), (1, .int z.1)] []) (We := fun (v : (Nat → Int32)) => WA p l e (rM 1 24) s m args below meth c g A (MQ below (QV g A [oX10 q_t Q_t (F_t 0 0) (F_t 2 0) (F_t 3 0) (F_t 4 0) (F_t 5 0) (F_t 6 0) (F_t 7 0) (F_t 8 0) (F_t 9 0) (F_t 10 0) (F_t 11 0) (F_t 12 0) (F_t 15 0) (F_t 16 0) (F_t 17 0) o.2 (F_t 27 0) (F_t 28 0) (F_t 30 0), ia g (Q_t 20) 174 (F_t 20), ia g (Q_t 22) 3480 o.1]) args s 0 0 A) 2 40 [oX10 q_t Q_t (F_t 0 0) (F_t 2 0) (F_t 3 0) (F_t 4 0) (F_t 5 0) (F_t 6 0) (F_t 7 0) (F_t 8 0) (F_t 9 0) (F_t 10 0) (F_t 11 0) (F_t 12 0) (F_t 15 0) (F_t 16 0) (F_t 17 0) (F_t 23 0) (F_t 27 0) (F_t 28 0) (F_t 30 0), ia g (Q_t 20) 174 (F_t 20), ia g (Q_t 22) 3480 v] [(0, .ref q_t)] []) (fun z r hb hc he => t_X10_note_b11 E q_t Q_t N (va_up F_t 22 z.2) z.1 r hb hc he) N ((0 : Int32), (F_t 22)) v_8 hv_8 ?_ H locs ls hP hD hS (lv_sub hl [1, 0] rfl)
    intro H locs ls hP hD hS hl
    refine lv_aload_n hx hb dX10_note_40 rfl (lv_at hl 0 rfl) ?_
    refine lv_dup hx hb dX10_note_41 rfl ?_
    refine va_get (ci := 10) (v := .int (F_t 23 0)) (C := RX10) (T := TX10) (N := 38) hx hb hts (fun w h => .tail _ (u_inX10 w h)) hown hK.1 hP 0 rfl rfl 23 (by decide) (hts _ (.tail _ u_fl_X10_165)) (fun _ h9 => h9) rfl dX10_note_42 ?_
    refine lv_iconst (v := (1 : Int32)) hx hb dX10_note_45 (by decide) ?_
    refine lv_isub hx hb dX10_note_46 ?_
    refine lv_topi (fun y_9 ey_9 => ?_)
    have h := xl_at ey_9 h
    refine va_put (ci := 10) (v := .int y_9) (ty := .int) (C := RX10) (T := TX10) (N := 38) hx hb hts (fun w h => .tail _ (u_inX10 w h)) tyX10 tyX10_ok nmX10 hown hK.1 hP hD hS 0 rfl rfl 23 (by decide) (hts _ (.tail _ u_fl_X10_165)) (fun _ h9 => h9) rfl (tyX10_ok 23 (by decide)) rfl rfl (Nat.le_of_ble_eq_true rfl) dX10_note_47 (fun H locs hP hD hS => ?_)
    have hP : va_P g.1 vwCl [oX10 q_t Q_t (F_t 0 0) (F_t 2 0) (F_t 3 0) (F_t 4 0) (F_t 5 0) (F_t 6 0) (F_t 7 0) (F_t 8 0) (F_t 9 0) (F_t 10 0) (F_t 11 0) (F_t 12 0) (F_t 15 0) (F_t 16 0) (F_t 17 0) y_9 (F_t 27 0) (F_t 28 0) (F_t 30 0), ia g (Q_t 20) 174 (F_t 20), ia g (Q_t 22) 3480 v_8] H := hP
    have hD : va_D A [oX10 q_t Q_t (F_t 0 0) (F_t 2 0) (F_t 3 0) (F_t 4 0) (F_t 5 0) (F_t 6 0) (F_t 7 0) (F_t 8 0) (F_t 9 0) (F_t 10 0) (F_t 11 0) (F_t 12 0) (F_t 15 0) (F_t 16 0) (F_t 17 0) y_9 (F_t 27 0) (F_t 28 0) (F_t 30 0), ia g (Q_t 20) 174 (F_t 20), ia g (Q_t 22) 3480 v_8] := hD
    exact t_X10_note_k50 E q_t Q_t N (va_up (va_up F_t 22 v_8) 23 (fun _ => y_9)) _ h H locs ls hP hD hS hl
set_option maxRecDepth 100000 in
theorem c_X10_note (l : Launch) (g : gG) (q_t : Nat) (Q_t : Ad) (N : Nat) (F_t : St) (o : (Nat → Int32) × Int32) (h : x_X10_note N F_t = some o) (sz : Nat) : MetV l yX10_note (.code yX10_note cX10_note 2 none :: gW) 1 24 [.ref q_t] g [oX10 q_t Q_t (F_t 0 0) (F_t 2 0) (F_t 3 0) (F_t 4 0) (F_t 5 0) (F_t 6 0) (F_t 7 0) (F_t 8 0) (F_t 9 0) (F_t 10 0) (F_t 11 0) (F_t 12 0) (F_t 15 0) (F_t 16 0) (F_t 17 0) (F_t 23 0) (F_t 27 0) (F_t 28 0) (F_t 30 0), ia g (Q_t 20) 174 (F_t 20), ia g (Q_t 22) 3480 (F_t 22)] [oX10 q_t Q_t (F_t 0 0) (F_t 2 0) (F_t 3 0) (F_t 4 0) (F_t 5 0) (F_t 6 0) (F_t 7 0) (F_t 8 0) (F_t 9 0) (F_t 10 0) (F_t 11 0) (F_t 12 0) (F_t 15 0) (F_t 16 0) (F_t 17 0) o.2 (F_t 27 0) (F_t 28 0) (F_t 30 0), ia g (Q_t 20) 174 (F_t 20), ia g (Q_t 22) 3480 o.1] sz :=
  mkV (av := [.ref q_t]) (by decide +kernel) rfl (fun p e s m below meth c A E H locs ls hP hD hS hl => t_X10_note E q_t Q_t N F_t o h H locs ls hP hD hS hl) sz
