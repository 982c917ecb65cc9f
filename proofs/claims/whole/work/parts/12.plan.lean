def x_X4_wipe (F_t : St) : Option (Int32 × Int32 × Int32) :=
  some ((0 : Int32), (0 : Int32), (0 : Int32))
set_option maxHeartbeats 4000000 in
set_option maxRecDepth 100000 in
theorem t_X4_wipe {p : Program} {l : Launch} {e : Env} {s : State} {m : MethodId} {args : Array Value} {below : List Frame} {meth : Method} {c : Code} {g : gG} {A : Nat → Prop} (E : En p s m args meth c g A cX4_wipe 1 (.code yX4_wipe cX4_wipe 1 none :: gW) RX4 none) (q_t : Nat) (Q_t : Ad) (F_t : St) (o : Int32 × Int32 × Int32) (h : x_X4_wipe F_t = some o) : WA p l e (rM 0 0) s m args below meth c g A (MQ below (QV g A [oX4 q_t Q_t o.1 o.2.1 o.2.2]) args s 0 0 A) 1 0 [oX4 q_t Q_t (F_t 0 0) (F_t 1 0) (F_t 2 0)] [(0, .ref q_t)] [] := by
  obtain ⟨⟨hx, hb, hml, hown, hts⟩, hr, hK, hA, hlk⟩ := id E
  intro H locs ls hP hD hS hl
  refine lv_aload_n hx hb dX4_wipe_0 rfl (lv_at hl 0 rfl) ?_
  refine lv_iconst (v := (0 : Int32)) hx hb dX4_wipe_1 (by decide) ?_
  refine va_put (ci := 4) (v := .int (0 : Int32)) (ty := .int) (C := RX4) (T := TX4) (N := 9) hx hb hts (fun w h => .tail _ (u_inX4 w h)) tyX4 tyX4_ok nmX4 hown hK.1 hP hD hS 0 rfl rfl 0 (by decide) (hts _ (.tail _ u_fl_X4_9)) (fun _ h9 => h9) rfl (tyX4_ok 0 (by decide)) rfl rfl (Nat.le_of_ble_eq_true rfl) dX4_wipe_2 (fun H locs hP hD hS => ?_)
  have hP : va_P g.1 vwCl [oX4 q_t Q_t (0 : Int32) (F_t 1 0) (F_t 2 0)] H := hP
  have hD : va_D A [oX4 q_t Q_t (0 : Int32) (F_t 1 0) (F_t 2 0)] := hD
  refine lv_aload_n hx hb dX4_wipe_5 rfl (lv_at hl 0 rfl) ?_
  refine lv_iconst (v := (0 : Int32)) hx hb dX4_wipe_6 (by decide) ?_
  refine va_put (ci := 4) (v := .int (0 : Int32)) (ty := .int) (C := RX4) (T := TX4) (N := 9) hx hb hts (fun w h => .tail _ (u_inX4 w h)) tyX4 tyX4_ok nmX4 hown hK.1 hP hD hS 0 rfl rfl 1 (by decide) (hts _ (.tail _ u_fl_X4_15)) (fun _ h9 => h9) rfl (tyX4_ok 1 (by decide)) rfl rfl (Nat.le_of_ble_eq_true rfl) dX4_wipe_7 (fun H locs hP hD hS => ?_)
  have hP : va_P g.1 vwCl [oX4 q_t Q_t (0 : Int32) (0 : Int32) (F_t 2 0)] H := hP
  have hD : va_D A [oX4 q_t Q_t (0 : Int32) (0 : Int32) (F_t 2 0)] := hD
  refine lv_aload_n hx hb dX4_wipe_10 rfl (lv_at hl 0 rfl) ?_
  refine lv_iconst (v := (0 : Int32)) hx hb dX4_wipe_11 (by decide) ?_
  refine va_put (ci := 4) (v := .int (0 : Int32)) (ty := .int) (C := RX4) (T := TX4) (N := 9) hx hb hts (fun w h => .tail _ (u_inX4 w h)) tyX4 tyX4_ok nmX4 hown hK.1 hP hD hS 0 rfl rfl 2 (by decide) (hts _ (.tail _ u_fl_X4_18)) (fun _ h9 => h9) rfl (tyX4_ok 2 (by decide)) rfl rfl (Nat.le_of_ble_eq_true rfl) dX4_wipe_12 (fun H locs hP hD hS => ?_)
  have hP : va_P g.1 vwCl [oX4 q_t Q_t (0 : Int32) (0 : Int32) (0 : Int32)] H := hP
  have hD : va_D A [oX4 q_t Q_t (0 : Int32) (0 : Int32) (0 : Int32)] := hD
  obtain rfl := Option.some.inj h
  exact k_vret hx hb hr hlk hP hD hS dX4_wipe_15
set_option maxRecDepth 100000 in
theorem c_X4_wipe (l : Launch) (g : gG) (q_t : Nat) (Q_t : Ad) (F_t : St) (o : Int32 × Int32 × Int32) (h : x_X4_wipe F_t = some o) (sz : Nat) : MetV l yX4_wipe (.code yX4_wipe cX4_wipe 1 none :: gW) 0 0 [.ref q_t] g [oX4 q_t Q_t (F_t 0 0) (F_t 1 0) (F_t 2 0)] [oX4 q_t Q_t o.1 o.2.1 o.2.2] sz :=
  mkV (av := [.ref q_t]) (by decide +kernel) rfl (fun p e s m below meth c A E H locs ls hP hD hS hl => t_X4_wipe E q_t Q_t F_t o h H locs ls hP hD hS hl) sz
def x_X4_hasPlace (F_t : St) (x1 : Int32) : Option (Int32) :=
  if x1 < 0 then (some (0 : Int32)) else (if (F_t 1 0) ≤ x1 then (some (0 : Int32)) else (some (1 : Int32)))
set_option maxHeartbeats 4000000 in
set_option maxRecDepth 100000 in
theorem t_X4_hasPlace {p : Program} {l : Launch} {e : Env} {s : State} {m : MethodId} {args : Array Value} {below : List Frame} {meth : Method} {c : Code} {g : gG} {A : Nat → Prop} (E : En p s m args meth c g A cX4_hasPlace 2 (.code yX4_hasPlace cX4_hasPlace 2 (some .boolean) :: gW) RX4 (some .boolean)) (q_t : Nat) (Q_t : Ad) (F_t : St) (x1 : Int32) (o : Int32) (h : x_X4_hasPlace F_t x1 = some o) : WA p l e (rM 0 0) s m args below meth c g A (MQ below (QI g A o [oX4 q_t Q_t (F_t 0 0) (F_t 1 0) (F_t 2 0)]) args s 0 0 A) 2 0 [oX4 q_t Q_t (F_t 0 0) (F_t 1 0) (F_t 2 0)] [(0, .ref q_t), (1, .int x1)] [] := by
  obtain ⟨⟨hx, hb, hml, hown, hts⟩, hr, hK, hA, hlk⟩ := id E
  intro H locs ls hP hD hS hl
  refine lv_iload_n hx hb dX4_hasPlace_0 rfl (lv_at hl 1 rfl) ?_
  refine lv_if_lt (tgt := 16) hx hb dX4_hasPlace_1 (by decide) (fun c_1 => ?_) (fun c_1 => ?_)
  · have h := ox_t c_1 h
    refine lv_iconst (v := (0 : Int32)) hx hb dX4_hasPlace_16 (by decide) ?_
    obtain rfl := Option.some.inj h
    exact k_zret hx hb hr hlk (.inl rfl) hP hD hS dX4_hasPlace_17
  · have h := ox_f c_1 h
    refine lv_iload_n hx hb dX4_hasPlace_4 rfl (lv_at hl 1 rfl) ?_
    refine lv_aload_n hx hb dX4_hasPlace_5 rfl (lv_at hl 0 rfl) ?_
    refine va_get (ci := 4) (v := .int (F_t 1 0)) (C := RX4) (T := TX4) (N := 9) hx hb hts (fun w h => .tail _ (u_inX4 w h)) hown hK.1 hP 0 rfl rfl 1 (by decide) (hts _ (.tail _ u_fl_X4_15)) (fun _ h9 => h9) rfl dX4_hasPlace_6 ?_
    refine lv_icmp_ge (tgt := 16) hx hb dX4_hasPlace_9 (by decide) (fun c_2 => ?_) (fun c_2 => ?_)
    · have h := ox_t c_2 h
      refine lv_iconst (v := (0 : Int32)) hx hb dX4_hasPlace_16 (by decide) ?_
      obtain rfl := Option.some.inj h
      exact k_zret hx hb hr hlk (.inl rfl) hP hD hS dX4_hasPlace_17
    · have h := ox_f c_2 h
      refine lv_iconst (v := (1 : Int32)) hx hb dX4_hasPlace_12 (by decide) ?_
      refine lv_goto (tgt := 17) hx hb dX4_hasPlace_13 (by decide) ?_
      obtain rfl := Option.some.inj h
      exact k_zret hx hb hr hlk (.inr rfl) hP hD hS dX4_hasPlace_17
set_option maxRecDepth 100000 in
theorem c_X4_hasPlace (l : Launch) (g : gG) (q_t : Nat) (Q_t : Ad) (F_t : St) (x1 : Int32) (o : Int32) (h : x_X4_hasPlace F_t x1 = some o) (sz : Nat) : MetI l yX4_hasPlace (.code yX4_hasPlace cX4_hasPlace 2 (some .boolean) :: gW) 0 0 [.ref q_t, .int x1] o g [oX4 q_t Q_t (F_t 0 0) (F_t 1 0) (F_t 2 0)] [oX4 q_t Q_t (F_t 0 0) (F_t 1 0) (F_t 2 0)] sz :=
  mkI (av := [.ref q_t, .int x1]) (by decide +kernel) rfl (fun p e s m below meth c A E H locs ls hP hD hS hl => t_X4_hasPlace E q_t Q_t F_t x1 o h H locs ls hP hD hS hl) sz
def x_X4_hasChannel (F_t : St) (x1 : Int32) : Option (Int32) :=
  if x1 < 0 then (some (0 : Int32)) else (if (F_t 2 0) ≤ x1 then (some (0 : Int32)) else (some (1 : Int32)))
set_option maxHeartbeats 4000000 in
set_option maxRecDepth 100000 in
theorem t_X4_hasChannel {p : Program} {l : Launch} {e : Env} {s : State} {m : MethodId} {args : Array Value} {below : List Frame} {meth : Method} {c : Code} {g : gG} {A : Nat → Prop} (E : En p s m args meth c g A cX4_hasChannel 2 (.code yX4_hasChannel cX4_hasChannel 2 (some .boolean) :: gW) RX4 (some .boolean)) (q_t : Nat) (Q_t : Ad) (F_t : St) (x1 : Int32) (o : Int32) (h : x_X4_hasChannel F_t x1 = some o) : WA p l e (rM 0 0) s m args below meth c g A (MQ below (QI g A o [oX4 q_t Q_t (F_t 0 0) (F_t 1 0) (F_t 2 0)]) args s 0 0 A) 2 0 [oX4 q_t Q_t (F_t 0 0) (F_t 1 0) (F_t 2 0)] [(0, .ref q_t), (1, .int x1)] [] := by
  obtain ⟨⟨hx, hb, hml, hown, hts⟩, hr, hK, hA, hlk⟩ := id E
  intro H locs ls hP hD hS hl
  refine lv_iload_n hx hb dX4_hasChannel_0 rfl (lv_at hl 1 rfl) ?_
  refine lv_if_lt (tgt := 16) hx hb dX4_hasChannel_1 (by decide) (fun c_1 => ?_) (fun c_1 => ?_)
  · have h := ox_t c_1 h
    refine lv_iconst (v := (0 : Int32)) hx hb dX4_hasChannel_16 (by decide) ?_
    obtain rfl := Option.some.inj h
    exact k_zret hx hb hr hlk (.inl rfl) hP hD hS dX4_hasChannel_17
  · have h := ox_f c_1 h
    refine lv_iload_n hx hb dX4_hasChannel_4 rfl (lv_at hl 1 rfl) ?_
    refine lv_aload_n hx hb dX4_hasChannel_5 rfl (lv_at hl 0 rfl) ?_
    refine va_get (ci := 4) (v := .int (F_t 2 0)) (C := RX4) (T := TX4) (N := 9) hx hb hts (fun w h => .tail _ (u_inX4 w h)) hown hK.1 hP 0 rfl rfl 2 (by decide) (hts _ (.tail _ u_fl_X4_18)) (fun _ h9 => h9) rfl dX4_hasChannel_6 ?_
    refine lv_icmp_ge (tgt := 16) hx hb dX4_hasChannel_9 (by decide) (fun c_2 => ?_) (fun c_2 => ?_)
    · have h := ox_t c_2 h
      refine lv_iconst (v := (0 : Int32)) hx hb dX4_hasChannel_16 (by decide) ?_
      obtain rfl := Option.some.inj h
      exact k_zret hx hb hr hlk (.inl rfl) hP hD hS dX4_hasChannel_17
    · have h := ox_f c_2 h
      refine lv_iconst (v := (1 : Int32)) hx hb dX4_hasChannel_12 (by decide) ?_
      refine lv_goto (tgt := 17) hx hb dX4_hasChannel_13 (by decide) ?_
      obtain rfl := Option.some.inj h
      exact k_zret hx hb hr hlk (.inr rfl) hP hD hS dX4_hasChannel_17
set_option maxRecDepth 100000 in
theorem c_X4_hasChannel (l : Launch) (g : gG) (q_t : Nat) (Q_t : Ad) (F_t : St) (x1 : Int32) (o : Int32) (h : x_X4_hasChannel F_t x1 = some o) (sz : Nat) : MetI l yX4_hasChannel (.code yX4_hasChannel cX4_hasChannel 2 (some .boolean) :: gW) 0 0 [.ref q_t, .int x1] o g [oX4 q_t Q_t (F_t 0 0) (F_t 1 0) (F_t 2 0)] [oX4 q_t Q_t (F_t 0 0) (F_t 1 0) (F_t 2 0)] sz :=
  mkI (av := [.ref q_t, .int x1]) (by decide +kernel) rfl (fun p e s m below meth c A E H locs ls hP hD hS hl => t_X4_hasChannel E q_t Q_t F_t x1 o h H locs ls hP hD hS hl) sz
def x_X4_joins_b2 (N : Nat) (F_t : St) (x1 : Int32) (x2 : Int32) (x3 : Int32) : Option ((Int32) ⊕ ((Unit) ⊕ (Unit))) :=
  if (F_t 2 0) ≤ x3 then (some (.inr (.inr ()))) else (if x3 < 0 ∨ 10 ≤ x3.toNatClampNeg then none else if ((F_t 5) x3.toNatClampNeg) = x1 then (if x3 < 0 ∨ 10 ≤ x3.toNatClampNeg then none else if ((F_t 6) x3.toNatClampNeg) = x2 then (some (.inr (.inl ()))) else (some (.inl (x3 + (1 : Int32))))) else (some (.inl (x3 + (1 : Int32)))))
set_option maxHeartbeats 4000000 in
set_option maxRecDepth 100000 in
theorem t_X4_joins_b2 {p : Program} {l : Launch} {e : Env} {s : State} {m : MethodId} {args : Array Value} {below : List Frame} {meth : Method} {c : Code} {g : gG} {A : Nat → Prop} {Q : State → Prop} (E : En p s m args meth c g A cX4_joins 4 (.code yX4_joins cX4_joins 4 (some .boolean) :: gW) RX4 (some .boolean)) (q_t : Nat) (Q_t : Ad) (N : Nat) (F_t : St) (x1 : Int32) (x2 : Int32) (x3 : Int32) (o : (Int32) ⊕ ((Unit) ⊕ (Unit))) (h : x_X4_joins_b2 N F_t x1 x2 x3 = some o) (hc : ∀ z, o = .inl z → WA p l e (rM 0 0) s m args below meth c g A Q 4 2 [oX4 q_t Q_t (F_t 0 0) (F_t 1 0) (F_t 2 0), ia g (Q_t 5) 10 (F_t 5), ia g (Q_t 6) 10 (F_t 6)] [(0, .ref q_t), (1, .int x1), (2, .int x2), (3, .int z)] []) (he0 : ∀ v, o = .inr (.inl v) → WA p l e (rM 0 0) s m args below meth c g A Q 4 30 [oX4 q_t Q_t (F_t 0 0) (F_t 1 0) (F_t 2 0), ia g (Q_t 5) 10 (F_t 5), ia g (Q_t 6) 10 (F_t 6)] [] []) (he1 : ∀ v, o = .inr (.inr v) → WA p l e (rM 0 0) s m args below meth c g A Q 4 38 [oX4 q_t Q_t (F_t 0 0) (F_t 1 0) (F_t 2 0), ia g (Q_t 5) 10 (F_t 5), ia g (Q_t 6) 10 (F_t 6)] [] []) : WA p l e (rM 0 0) s m args below meth c g A Q 4 2 [oX4 q_t Q_t (F_t 0 0) (F_t 1 0) (F_t 2 0), ia g (Q_t 5) 10 (F_t 5), ia g (Q_t 6) 10 (F_t 6)] [(0, .ref q_t), (1, .int x1), (2, .int x2), (3, .int x3)] [] := by
  obtain ⟨⟨hx, hb, hml, hown, hts⟩, hr, hK, hA, hlk⟩ := id E
  intro H locs ls hP hD hS hl
  refine lv_iload_n hx hb dX4_joins_2 rfl (lv_at hl 3 rfl) ?_
  refine lv_aload_n hx hb dX4_joins_3 rfl (lv_at hl 0 rfl) ?_
  refine va_get (ci := 4) (v := .int (F_t 2 0)) (C := RX4) (T := TX4) (N := 9) hx hb hts (fun w h => .tail _ (u_inX4 w h)) hown hK.1 hP 0 rfl rfl 2 (by decide) (hts _ (.tail _ u_fl_X4_18)) (fun _ h9 => h9) rfl dX4_joins_4 ?_
  refine lv_icmp_ge (tgt := 38) hx hb dX4_joins_7 (by decide) (fun c_1 => ?_) (fun c_1 => ?_)
  · have h := ox_t c_1 h
    obtain rfl := Option.some.inj h
    exact he1 _ rfl H locs ls hP hD hS (lv_sub hl [] rfl)
  · have h := ox_f c_1 h
    refine lv_aload_n hx hb dX4_joins_10 rfl (lv_at hl 0 rfl) ?_
    refine va_get (ci := 4) (v := .ref (Q_t 5)) (C := RX4) (T := TX4) (N := 9) hx hb hts (fun w h => .tail _ (u_inX4 w h)) hown hK.1 hP 0 rfl rfl 5 (by decide) (hts _ (.tail _ u_fl_X4_28)) (fun _ h9 => h9) rfl dX4_joins_11 ?_
    refine lv_iload_n hx hb dX4_joins_14 rfl (lv_at hl 3 rfl) ?_
    obtain ⟨hi_2, h⟩ := ox_chk h
    refine va_iald hx hb hK.1 hP 1 0 rfl rfl hi_2 dX4_joins_15 ?_
    refine lv_iload_n hx hb dX4_joins_16 rfl (lv_at hl 1 rfl) ?_
    refine lv_icmp_ne (tgt := 32) hx hb dX4_joins_17 (by decide) (fun c_3 => ?_) (fun c_3 => ?_)
    · have h := ox_f c_3 h
      refine lv_iinc (v := (x3 + (1 : Int32))) (lv' := [(3, .int (x3 + (1 : Int32))), (0, .ref q_t), (1, .int x1), (2, .int x2)]) hx hb dX4_joins_32 hl (k := 3) rfl rfl (by decide) rfl (fun ls hl => ?_)
      refine lv_goto (tgt := 2) hx hb dX4_joins_35 (by decide) ?_
      obtain rfl := Option.some.inj h
      exact hc _ rfl H locs ls hP hD hS (lv_sub hl [1, 2, 3, 0] rfl)
    · have h := ox_t c_3 h
      refine lv_aload_n hx hb dX4_joins_20 rfl (lv_at hl 0 rfl) ?_
      refine va_get (ci := 4) (v := .ref (Q_t 6)) (C := RX4) (T := TX4) (N := 9) hx hb hts (fun w h => .tail _ (u_inX4 w h)) hown hK.1 hP 0 rfl rfl 6 (by decide) (hts _ (.tail _ u_fl_X4_31)) (fun _ h9 => h9) rfl dX4_joins_21 ?_
      refine lv_iload_n hx hb dX4_joins_24 rfl (lv_at hl 3 rfl) ?_
      obtain ⟨hi_4, h⟩ := ox_chk h
      refine va_iald hx hb hK.1 hP 2 0 rfl rfl hi_4 dX4_joins_25 ?_
      refine lv_iload_n hx hb dX4_joins_26 rfl (lv_at hl 2 rfl) ?_
      refine lv_icmp_ne (tgt := 32) hx hb dX4_joins_27 (by decide) (fun c_5 => ?_) (fun c_5 => ?_)
      · have h := ox_f c_5 h
        refine lv_iinc (v := (x3 + (1 : Int32))) (lv' := [(3, .int (x3 + (1 : Int32))), (0, .ref q_t), (1, .int x1), (2, .int x2)]) hx hb dX4_joins_32 hl (k := 3) rfl rfl (by decide) rfl (fun ls hl => ?_)
        refine lv_goto (tgt := 2) hx hb dX4_joins_35 (by decide) ?_
        obtain rfl := Option.some.inj h
        exact hc _ rfl H locs ls hP hD hS (lv_sub hl [1, 2, 3, 0] rfl)
      · have h := ox_t c_5 h
        obtain rfl := Option.some.inj h
        exact he0 _ rfl H locs ls hP hD hS (lv_sub hl [] rfl)
def x_X4_joins (N : Nat) (F_t : St) (x1 : Int32) (x2 : Int32) : Option (Int32) :=
  Option.bind (lpc (fun (z : Int32) => x_X4_joins_b2 N F_t x1 x2 z) N (0 : Int32)) (fun v_6 => Sum.elim (fun v_6 => some (1 : Int32)) (fun v_6 => some (0 : Int32)) v_6)
set_option maxHeartbeats 4000000 in
set_option maxRecDepth 100000 in
theorem t_X4_joins {p : Program} {l : Launch} {e : Env} {s : State} {m : MethodId} {args : Array Value} {below : List Frame} {meth : Method} {c : Code} {g : gG} {A : Nat → Prop} (E : En p s m args meth c g A cX4_joins 4 (.code yX4_joins cX4_joins 4 (some .boolean) :: gW) RX4 (some .boolean)) (q_t : Nat) (Q_t : Ad) (N : Nat) (F_t : St) (x1 : Int32) (x2 : Int32) (o : Int32) (h : x_X4_joins N F_t x1 x2 = some o) : WA p l e (rM 0 0) s m args below meth c g A (MQ below (QI g A o [oX4 q_t Q_t (F_t 0 0) (F_t 1 0) (F_t 2 0), ia g (Q_t 5) 10 (F_t 5), ia g (Q_t 6) 10 (F_t 6)]) args s 0 0 A) 4 0 [oX4 q_t Q_t (F_t 0 0) (F_t 1 0) (F_t 2 0), ia g (Q_t 5) 10 (F_t 5), ia g (Q_t 6) 10 (F_t 6)] [(0, .ref q_t), (1, .int x1), (2, .int x2)] [] := by
  obtain ⟨⟨hx, hb, hml, hown, hts⟩, hr, hK, hA, hlk⟩ := id E
  intro H locs ls hP hD hS hl
  refine lv_iconst (v := (0 : Int32)) hx hb dX4_joins_0 (by decide) ?_
  refine lv_istore_n (lv' := [(3, .int (0 : Int32)), (0, .ref q_t), (1, .int x1), (2, .int x2)]) hx hb dX4_joins_1 rfl hl (by decide) rfl (fun ls hl => ?_)
  obtain ⟨v_6, hv_6, h⟩ := ox_bind h
  refine lpc_W (Wh := fun (z : Int32) => WA p l e (rM 0 0) s m args below meth c g A (MQ below (QI g A o [oX4 q_t Q_t (F_t 0 0) (F_t 1 0) (F_t 2 0), ia g (Q_t 5) 10 (F_t 5), ia g (Q_t 6) 10 (F_t 6)]) args s 0 0 A) 4 2 [oX4 q_t Q_t (F_t 0 0) (F_t 1 0) (F_t 2 0), ia g (Q_t 5) 10 (F_t 5), ia g (Q_t 6) 10 (F_t 6)] [(0, .ref q_t), (1, .int x1), (2, .int x2), (3, .int z)] []) (We := Sum.elim (fun (v : Unit) => WA p l e (rM 0 0) s m args below meth c g A (MQ below (QI g A o [oX4 q_t Q_t (F_t 0 0) (F_t 1 0) (F_t 2 0), ia g (Q_t 5) 10 (F_t 5), ia g (Q_t 6) 10 (F_t 6)]) args s 0 0 A) 4 30 [oX4 q_t Q_t (F_t 0 0) (F_t 1 0) (F_t 2 0), ia g (Q_t 5) 10 (F_t 5), ia g (Q_t 6) 10 (F_t 6)] [] []) (fun (v : Unit) => WA p l e (rM 0 0) s m args below meth c g A (MQ below (QI g A o [oX4 q_t Q_t (F_t 0 0) (F_t 1 0) (F_t 2 0), ia g (Q_t 5) 10 (F_t 5), ia g (Q_t 6) 10 (F_t 6)]) args s 0 0 A) 4 38 [oX4 q_t Q_t (F_t 0 0) (F_t 1 0) (F_t 2 0), ia g (Q_t 5) 10 (F_t 5), ia g (Q_t 6) 10 (F_t 6)] [] [])) (fun z r hb hc he => t_X4_joins_b2 E q_t Q_t N F_t x1 x2 z r hb hc (fun v hv => he (.inl v) hv) (fun v hv => he (.inr v) hv)) N (0 : Int32) v_6 hv_6 ?_ H locs ls hP hD hS (lv_sub hl [1, 2, 3, 0] rfl)
  rcases v_6 with v_6 | v_6
  · have h := ox_inl h
    intro H locs ls hP hD hS hl
    refine lv_iconst (v := (1 : Int32)) hx hb dX4_joins_30 (by decide) ?_
    obtain rfl := Option.some.inj h
    exact k_zret hx hb hr hlk (.inr rfl) hP hD hS dX4_joins_31
  · have h := ox_inr h
    intro H locs ls hP hD hS hl
    refine lv_iconst (v := (0 : Int32)) hx hb dX4_joins_38 (by decide) ?_
    obtain rfl := Option.some.inj h
    exact k_zret hx hb hr hlk (.inl rfl) hP hD hS dX4_joins_39
set_option maxRecDepth 100000 in
theorem c_X4_joins (l : Launch) (g : gG) (q_t : Nat) (Q_t : Ad) (N : Nat) (F_t : St) (x1 : Int32) (x2 : Int32) (o : Int32) (h : x_X4_joins N F_t x1 x2 = some o) (sz : Nat) : MetI l yX4_joins (.code yX4_joins cX4_joins 4 (some .boolean) :: gW) 0 0 [.ref q_t, .int x1, .int x2] o g [oX4 q_t Q_t (F_t 0 0) (F_t 1 0) (F_t 2 0), ia g (Q_t 5) 10 (F_t 5), ia g (Q_t 6) 10 (F_t 6)] [oX4 q_t Q_t (F_t 0 0) (F_t 1 0) (F_t 2 0), ia g (Q_t 5) 10 (F_t 5), ia g (Q_t 6) 10 (F_t 6)] sz :=
  mkI (av := [.ref q_t, .int x1, .int x2]) (by decide +kernel) rfl (fun p e s m below meth c A E H locs ls hP hD hS hl => t_X4_joins E q_t Q_t N F_t x1 x2 o h H locs ls hP hD hS hl) sz
def x_X4_mayJoin (N : Nat) (F_t : St) (x1 : Int32) (x2 : Int32) : Option (Int32) :=
  Option.bind (x_X4_hasPlace F_t x1) (fun v_1 => if v_1 = 0 then (some (0 : Int32)) else (Option.bind (x_X4_hasPlace F_t x2) (fun v_3 => if v_3 = 0 then (some (0 : Int32)) else (if x1 = x2 then (some (0 : Int32)) else (if x2 < 0 ∨ 8 ≤ x2.toNatClampNeg then none else if x1 < 0 ∨ 8 ≤ x1.toNatClampNeg then none else if ((F_t 4) x1.toNatClampNeg) ≤ ((F_t 4) x2.toNatClampNeg) then (some (0 : Int32)) else (Option.bind (x_X4_joins N F_t x1 x2) (fun v_9 => if v_9 = 0 then (some (1 : Int32)) else (some (0 : Int32)))))))))
set_option maxHeartbeats 4000000 in
set_option maxRecDepth 100000 in
theorem t_X4_mayJoin {p : Program} {l : Launch} {e : Env} {s : State} {m : MethodId} {args : Array Value} {below : List Frame} {meth : Method} {c : Code} {g : gG} {A : Nat → Prop} (E : En p s m args meth c g A cX4_mayJoin 3 (.code yX4_mayJoin cX4_mayJoin 3 (some .boolean) :: gW) RX4 (some .boolean)) (q_t : Nat) (Q_t : Ad) (N : Nat) (F_t : St) (x1 : Int32) (x2 : Int32) (o : Int32) (h : x_X4_mayJoin N F_t x1 x2 = some o) : WA p l e (rM 1 23) s m args below meth c g A (MQ below (QI g A o [oX4 q_t Q_t (F_t 0 0) (F_t 1 0) (F_t 2 0), ia g (Q_t 4) 8 (F_t 4), ia g (Q_t 5) 10 (F_t 5), ia g (Q_t 6) 10 (F_t 6)]) args s 0 0 A) 3 0 [oX4 q_t Q_t (F_t 0 0) (F_t 1 0) (F_t 2 0), ia g (Q_t 4) 8 (F_t 4), ia g (Q_t 5) 10 (F_t 5), ia g (Q_t 6) 10 (F_t 6)] [(0, .ref q_t), (1, .int x1), (2, .int x2)] [] := by
  obtain ⟨⟨hx, hb, hml, hown, hts⟩, hr, hK, hA, hlk⟩ := id E
  intro H locs ls hP hD hS hl
  refine lv_aload_n hx hb dX4_mayJoin_0 rfl (lv_at hl 0 rfl) ?_
  refine lv_iload_n hx hb dX4_mayJoin_1 rfl (lv_at hl 1 rfl) ?_
  obtain ⟨v_1, hv_1, h⟩ := ox_bind h
  refine kVi ⟨hx, hb, hml, hown, hts⟩ (c_X4_hasPlace l g q_t Q_t F_t x1 v_1 hv_1 H.size) (gV u_ml_X4_40 u_im_X4_hasPlace u_se_X4_hasPlace u_ini_X4 u_co_X4_hasPlace) hd_X4_hasPlace ⟨rfl, rfl⟩ hK hP hD hS hA 0 4 rfl rfl [0] [0, 2, 3, 4] rfl rfl 1 rfl (w2 := [oX4 q_t Q_t (F_t 0 0) (F_t 1 0) (F_t 2 0), ia g (Q_t 4) 8 (F_t 4), ia g (Q_t 5) 10 (F_t 5), ia g (Q_t 6) 10 (F_t 6)]) rfl rfl (As := [.int x1]) (rest := []) rfl hl.1 rfl rfl dX4_mayJoin_2 (fun H locs hP hD hS => ?_)
  refine lv_if_eq (tgt := 49) hx hb dX4_mayJoin_5 (by decide) (fun c_2 => ?_) (fun c_2 => ?_)
  · have h := ox_t c_2 h
    refine lv_iconst (v := (0 : Int32)) hx hb dX4_mayJoin_49 (by decide) ?_
    obtain rfl := Option.some.inj h
    exact k_zret hx hb hr hlk (.inl rfl) hP hD hS dX4_mayJoin_50
  · have h := ox_f c_2 h
    refine lv_aload_n hx hb dX4_mayJoin_8 rfl (lv_at hl 0 rfl) ?_
    refine lv_iload_n hx hb dX4_mayJoin_9 rfl (lv_at hl 2 rfl) ?_
    obtain ⟨v_3, hv_3, h⟩ := ox_bind h
    refine kVi ⟨hx, hb, hml, hown, hts⟩ (c_X4_hasPlace l g q_t Q_t F_t x2 v_3 hv_3 H.size) (gV u_ml_X4_40 u_im_X4_hasPlace u_se_X4_hasPlace u_ini_X4 u_co_X4_hasPlace) hd_X4_hasPlace ⟨rfl, rfl⟩ hK hP hD hS hA 0 4 rfl rfl [0] [0, 2, 3, 4] rfl rfl 1 rfl (w2 := [oX4 q_t Q_t (F_t 0 0) (F_t 1 0) (F_t 2 0), ia g (Q_t 4) 8 (F_t 4), ia g (Q_t 5) 10 (F_t 5), ia g (Q_t 6) 10 (F_t 6)]) rfl rfl (As := [.int x2]) (rest := []) rfl hl.1 rfl rfl dX4_mayJoin_10 (fun H locs hP hD hS => ?_)
    refine lv_if_eq (tgt := 49) hx hb dX4_mayJoin_13 (by decide) (fun c_4 => ?_) (fun c_4 => ?_)
    · have h := ox_t c_4 h
      refine lv_iconst (v := (0 : Int32)) hx hb dX4_mayJoin_49 (by decide) ?_
      obtain rfl := Option.some.inj h
      exact k_zret hx hb hr hlk (.inl rfl) hP hD hS dX4_mayJoin_50
    · have h := ox_f c_4 h
      refine lv_iload_n hx hb dX4_mayJoin_16 rfl (lv_at hl 1 rfl) ?_
      refine lv_iload_n hx hb dX4_mayJoin_17 rfl (lv_at hl 2 rfl) ?_
      refine lv_icmp_eq (tgt := 49) hx hb dX4_mayJoin_18 (by decide) (fun c_5 => ?_) (fun c_5 => ?_)
      · have h := ox_t c_5 h
        refine lv_iconst (v := (0 : Int32)) hx hb dX4_mayJoin_49 (by decide) ?_
        obtain rfl := Option.some.inj h
        exact k_zret hx hb hr hlk (.inl rfl) hP hD hS dX4_mayJoin_50
      · have h := ox_f c_5 h
        refine lv_aload_n hx hb dX4_mayJoin_21 rfl (lv_at hl 0 rfl) ?_
        refine va_get (ci := 4) (v := .ref (Q_t 4)) (C := RX4) (T := TX4) (N := 9) hx hb hts (fun w h => .tail _ (u_inX4 w h)) hown hK.1 hP 0 rfl rfl 4 (by decide) (hts _ (.tail _ u_fl_X4_25)) (fun _ h9 => h9) rfl dX4_mayJoin_22 ?_
        refine lv_iload_n hx hb dX4_mayJoin_25 rfl (lv_at hl 2 rfl) ?_
        obtain ⟨hi_6, h⟩ := ox_chk h
        refine va_iald hx hb hK.1 hP 1 0 rfl rfl hi_6 dX4_mayJoin_26 ?_
        refine lv_aload_n hx hb dX4_mayJoin_27 rfl (lv_at hl 0 rfl) ?_
        refine va_get (ci := 4) (v := .ref (Q_t 4)) (C := RX4) (T := TX4) (N := 9) hx hb hts (fun w h => .tail _ (u_inX4 w h)) hown hK.1 hP 0 rfl rfl 4 (by decide) (hts _ (.tail _ u_fl_X4_25)) (fun _ h9 => h9) rfl dX4_mayJoin_28 ?_
        refine lv_iload_n hx hb dX4_mayJoin_31 rfl (lv_at hl 1 rfl) ?_
        obtain ⟨hi_7, h⟩ := ox_chk h
        refine va_iald hx hb hK.1 hP 1 0 rfl rfl hi_7 dX4_mayJoin_32 ?_
        refine lv_icmp_ge (tgt := 49) hx hb dX4_mayJoin_33 (by decide) (fun c_8 => ?_) (fun c_8 => ?_)
        · have h := ox_t c_8 h
          refine lv_iconst (v := (0 : Int32)) hx hb dX4_mayJoin_49 (by decide) ?_
          obtain rfl := Option.some.inj h
          exact k_zret hx hb hr hlk (.inl rfl) hP hD hS dX4_mayJoin_50
        · have h := ox_f c_8 h
          refine lv_aload_n hx hb dX4_mayJoin_36 rfl (lv_at hl 0 rfl) ?_
          refine lv_iload_n hx hb dX4_mayJoin_37 rfl (lv_at hl 1 rfl) ?_
          refine lv_iload_n hx hb dX4_mayJoin_38 rfl (lv_at hl 2 rfl) ?_
          obtain ⟨v_9, hv_9, h⟩ := ox_bind h
          refine kVi ⟨hx, hb, hml, hown, hts⟩ (c_X4_joins l g q_t Q_t N F_t x1 x2 v_9 hv_9 H.size) (gV u_ml_X4_44 u_im_X4_joins u_se_X4_joins u_ini_X4 u_co_X4_joins) hd_X4_joins ⟨rfl, rfl⟩ hK hP hD hS hA 0 4 rfl rfl [0, 2, 3] [0, 4, 1, 2] rfl rfl 3 rfl (w2 := [oX4 q_t Q_t (F_t 0 0) (F_t 1 0) (F_t 2 0), ia g (Q_t 4) 8 (F_t 4), ia g (Q_t 5) 10 (F_t 5), ia g (Q_t 6) 10 (F_t 6)]) rfl rfl (As := [.int x1, .int x2]) (rest := []) rfl hl.1 rfl rfl dX4_mayJoin_39 (fun H locs hP hD hS => ?_)
          refine lv_if_ne (tgt := 49) hx hb dX4_mayJoin_42 (by decide) (fun c_10 => ?_) (fun c_10 => ?_)
          · have h := ox_f c_10 h
            refine lv_iconst (v := (0 : Int32)) hx hb dX4_mayJoin_49 (by decide) ?_
            obtain rfl := Option.some.inj h
            exact k_zret hx hb hr hlk (.inl rfl) hP hD hS dX4_mayJoin_50
          · have h := ox_t c_10 h
            refine lv_iconst (v := (1 : Int32)) hx hb dX4_mayJoin_45 (by decide) ?_
            refine lv_goto (tgt := 50) hx hb dX4_mayJoin_46 (by decide) ?_
            obtain rfl := Option.some.inj h
            exact k_zret hx hb hr hlk (.inr rfl) hP hD hS dX4_mayJoin_50
set_option maxRecDepth 100000 in
theorem c_X4_mayJoin (l : Launch) (g : gG) (q_t : Nat) (Q_t : Ad) (N : Nat) (F_t : St) (x1 : Int32) (x2 : Int32) (o : Int32) (h : x_X4_mayJoin N F_t x1 x2 = some o) (sz : Nat) : MetI l yX4_mayJoin (.code yX4_mayJoin cX4_mayJoin 3 (some .boolean) :: gW) 1 23 [.ref q_t, .int x1, .int x2] o g [oX4 q_t Q_t (F_t 0 0) (F_t 1 0) (F_t 2 0), ia g (Q_t 4) 8 (F_t 4), ia g (Q_t 5) 10 (F_t 5), ia g (Q_t 6) 10 (F_t 6)] [oX4 q_t Q_t (F_t 0 0) (F_t 1 0) (F_t 2 0), ia g (Q_t 4) 8 (F_t 4), ia g (Q_t 5) 10 (F_t 5), ia g (Q_t 6) 10 (F_t 6)] sz :=
  mkI (av := [.ref q_t, .int x1, .int x2]) (by decide +kernel) rfl (fun p e s m below meth c A E H locs ls hP hD hS hl => t_X4_mayJoin E q_t Q_t N F_t x1 x2 o h H locs ls hP hD hS hl) sz
def x_X4_addPlace (F_t : St) (x1 : Int32) (x2 : Int32) : Option (Int32 × (Nat → Int32) × (Nat → Int32)) :=
  if (F_t 1 0) < (8 : Int32) then (if (F_t 1 0) < 0 ∨ 8 ≤ (F_t 1 0).toNatClampNeg then none else if (F_t 1 0) < 0 ∨ 8 ≤ (F_t 1 0).toNatClampNeg then none else xl ((F_t 1 0) + (1 : Int32)) (fun y_4 => some (y_4, (upd (F_t 3) (F_t 1 0).toNatClampNeg x1), (upd (F_t 4) (F_t 1 0).toNatClampNeg x2)))) else (some ((F_t 1 0), (F_t 3), (F_t 4)))
set_option maxHeartbeats 4000000 in
set_option maxRecDepth 100000 in
theorem t_X4_addPlace {p : Program} {l : Launch} {e : Env} {s : State} {m : MethodId} {args : Array Value} {below : List Frame} {meth : Method} {c : Code} {g : gG} {A : Nat → Prop} (E : En p s m args meth c g A cX4_addPlace 3 (.code yX4_addPlace cX4_addPlace 3 none :: gW) RX4 none) (q_t : Nat) (Q_t : Ad) (F_t : St) (x1 : Int32) (x2 : Int32) (o : Int32 × (Nat → Int32) × (Nat → Int32)) (h : x_X4_addPlace F_t x1 x2 = some o) : WA p l e (rM 0 0) s m args below meth c g A (MQ below (QV g A [oX4 q_t Q_t (F_t 0 0) o.1 (F_t 2 0), ia g (Q_t 3) 8 o.2.1, ia g (Q_t 4) 8 o.2.2]) args s 0 0 A) 3 0 [oX4 q_t Q_t (F_t 0 0) (F_t 1 0) (F_t 2 0), ia g (Q_t 3) 8 (F_t 3), ia g (Q_t 4) 8 (F_t 4)] [(0, .ref q_t), (1, .int x1), (2, .int x2)] [] := by
  obtain ⟨⟨hx, hb, hml, hown, hts⟩, hr, hK, hA, hlk⟩ := id E
  intro H locs ls hP hD hS hl
  refine lv_aload_n hx hb dX4_addPlace_0 rfl (lv_at hl 0 rfl) ?_
  refine va_get (ci := 4) (v := .int (F_t 1 0)) (C := RX4) (T := TX4) (N := 9) hx hb hts (fun w h => .tail _ (u_inX4 w h)) hown hK.1 hP 0 rfl rfl 1 (by decide) (hts _ (.tail _ u_fl_X4_15)) (fun _ h9 => h9) rfl dX4_addPlace_1 ?_
  refine lv_bipush (v := (8 : Int32)) hx hb dX4_addPlace_4 (by decide) ?_
  refine lv_icmp_lt (tgt := 10) hx hb dX4_addPlace_6 (by decide) (fun c_1 => ?_) (fun c_1 => ?_)
  · have h := ox_t c_1 h
    refine lv_aload_n hx hb dX4_addPlace_10 rfl (lv_at hl 0 rfl) ?_
    refine va_get (ci := 4) (v := .ref (Q_t 3)) (C := RX4) (T := TX4) (N := 9) hx hb hts (fun w h => .tail _ (u_inX4 w h)) hown hK.1 hP 0 rfl rfl 3 (by decide) (hts _ (.tail _ u_fl_X4_21)) (fun _ h9 => h9) rfl dX4_addPlace_11 ?_
    refine lv_aload_n hx hb dX4_addPlace_14 rfl (lv_at hl 0 rfl) ?_
    refine va_get (ci := 4) (v := .int (F_t 1 0)) (C := RX4) (T := TX4) (N := 9) hx hb hts (fun w h => .tail _ (u_inX4 w h)) hown hK.1 hP 0 rfl rfl 1 (by decide) (hts _ (.tail _ u_fl_X4_15)) (fun _ h9 => h9) rfl dX4_addPlace_15 ?_
    refine lv_iload_n hx hb dX4_addPlace_18 rfl (lv_at hl 1 rfl) ?_
    obtain ⟨hi_2, h⟩ := ox_chk h
    refine va_iast hx hb hK.1 hP hD hS 1 0 rfl rfl hi_2 dX4_addPlace_19 (fun H locs hP hD hS => ?_)
    have hP : va_P g.1 vwCl [oX4 q_t Q_t (F_t 0 0) (F_t 1 0) (F_t 2 0), ia g (Q_t 3) 8 (upd (F_t 3) (F_t 1 0).toNatClampNeg x1), ia g (Q_t 4) 8 (F_t 4)] H := hP
    have hD : va_D A [oX4 q_t Q_t (F_t 0 0) (F_t 1 0) (F_t 2 0), ia g (Q_t 3) 8 (upd (F_t 3) (F_t 1 0).toNatClampNeg x1), ia g (Q_t 4) 8 (F_t 4)] := hD
    refine lv_aload_n hx hb dX4_addPlace_20 rfl (lv_at hl 0 rfl) ?_
    refine va_get (ci := 4) (v := .ref (Q_t 4)) (C := RX4) (T := TX4) (N := 9) hx hb hts (fun w h => .tail _ (u_inX4 w h)) hown hK.1 hP 0 rfl rfl 4 (by decide) (hts _ (.tail _ u_fl_X4_25)) (fun _ h9 => h9) rfl dX4_addPlace_21 ?_
    refine lv_aload_n hx hb dX4_addPlace_24 rfl (lv_at hl 0 rfl) ?_
    refine va_get (ci := 4) (v := .int (F_t 1 0)) (C := RX4) (T := TX4) (N := 9) hx hb hts (fun w h => .tail _ (u_inX4 w h)) hown hK.1 hP 0 rfl rfl 1 (by decide) (hts _ (.tail _ u_fl_X4_15)) (fun _ h9 => h9) rfl dX4_addPlace_25 ?_
    refine lv_iload_n hx hb dX4_addPlace_28 rfl (lv_at hl 2 rfl) ?_
    obtain ⟨hi_3, h⟩ := ox_chk h
    refine va_iast hx hb hK.1 hP hD hS 2 0 rfl rfl hi_3 dX4_addPlace_29 (fun H locs hP hD hS => ?_)
    have hP : va_P g.1 vwCl [oX4 q_t Q_t (F_t 0 0) (F_t 1 0) (F_t 2 0), ia g (Q_t 3) 8 (upd (F_t 3) (F_t 1 0).toNatClampNeg x1), ia g (Q_t 4) 8 (upd (F_t 4) (F_t 1 0).toNatClampNeg x2)] H := hP
    have hD : va_D A [oX4 q_t Q_t (F_t 0 0) (F_t 1 0) (F_t 2 0), ia g (Q_t 3) 8 (upd (F_t 3) (F_t 1 0).toNatClampNeg x1), ia g (Q_t 4) 8 (upd (F_t 4) (F_t 1 0).toNatClampNeg x2)] := hD
    refine lv_aload_n hx hb dX4_addPlace_30 rfl (lv_at hl 0 rfl) ?_
    refine lv_dup hx hb dX4_addPlace_31 rfl ?_
    refine va_get (ci := 4) (v := .int (F_t 1 0)) (C := RX4) (T := TX4) (N := 9) hx hb hts (fun w h => .tail _ (u_inX4 w h)) hown hK.1 hP 0 rfl rfl 1 (by decide) (hts _ (.tail _ u_fl_X4_15)) (fun _ h9 => h9) rfl dX4_addPlace_32 ?_
    refine lv_iconst (v := (1 : Int32)) hx hb dX4_addPlace_35 (by decide) ?_
    refine lv_iadd hx hb dX4_addPlace_36 ?_
    refine lv_topi (fun y_4 ey_4 => ?_)
    have h := xl_at ey_4 h
    refine va_put (ci := 4) (v := .int y_4) (ty := .int) (C := RX4) (T := TX4) (N := 9) hx hb hts (fun w h => .tail _ (u_inX4 w h)) tyX4 tyX4_ok nmX4 hown hK.1 hP hD hS 0 rfl rfl 1 (by decide) (hts _ (.tail _ u_fl_X4_15)) (fun _ h9 => h9) rfl (tyX4_ok 1 (by decide)) rfl rfl (Nat.le_of_ble_eq_true rfl) dX4_addPlace_37 (fun H locs hP hD hS => ?_)
    have hP : va_P g.1 vwCl [oX4 q_t Q_t (F_t 0 0) y_4 (F_t 2 0), ia g (Q_t 3) 8 (upd (F_t 3) (F_t 1 0).toNatClampNeg x1), ia g (Q_t 4) 8 (upd (F_t 4) (F_t 1 0).toNatClampNeg x2)] H := hP
    have hD : va_D A [oX4 q_t Q_t (F_t 0 0) y_4 (F_t 2 0), ia g (Q_t 3) 8 (upd (F_t 3) (F_t 1 0).toNatClampNeg x1), ia g (Q_t 4) 8 (upd (F_t 4) (F_t 1 0).toNatClampNeg x2)] := hD
    obtain rfl := Option.some.inj h
    exact k_vret hx hb hr hlk hP hD hS dX4_addPlace_40
  · have h := ox_f c_1 h
    obtain rfl := Option.some.inj h
    exact k_vret hx hb hr hlk hP hD hS dX4_addPlace_9
set_option maxRecDepth 100000 in
theorem c_X4_addPlace (l : Launch) (g : gG) (q_t : Nat) (Q_t : Ad) (F_t : St) (x1 : Int32) (x2 : Int32) (o : Int32 × (Nat → Int32) × (Nat → Int32)) (h : x_X4_addPlace F_t x1 x2 = some o) (sz : Nat) : MetV l yX4_addPlace (.code yX4_addPlace cX4_addPlace 3 none :: gW) 0 0 [.ref q_t, .int x1, .int x2] g [oX4 q_t Q_t (F_t 0 0) (F_t 1 0) (F_t 2 0), ia g (Q_t 3) 8 (F_t 3), ia g (Q_t 4) 8 (F_t 4)] [oX4 q_t Q_t (F_t 0 0) o.1 (F_t 2 0), ia g (Q_t 3) 8 o.2.1, ia g (Q_t 4) 8 o.2.2] sz :=
  mkV (av := [.ref q_t, .int x1, .int x2]) (by decide +kernel) rfl (fun p e s m below meth c A E H locs ls hP hD hS hl => t_X4_addPlace E q_t Q_t F_t x1 x2 o h H locs ls hP hD hS hl) sz
def x_X4_addChannel_b25 (N : Nat) (F_t : St) (x1 : Int32) (x2 : Int32) (x3 : Int32) (x4 : Int32) : Option ((Int32 × (Nat → Int32)) ⊕ (Int32 × (Nat → Int32))) :=
  if x4 ≤ 0 then (some (.inr (x4, (F_t 8)))) else (if (x4 - (1 : Int32)) < 0 ∨ 10 ≤ (x4 - (1 : Int32)).toNatClampNeg then none else if ((F_t 8) (x4 - (1 : Int32)).toNatClampNeg) < 0 ∨ 10 ≤ ((F_t 8) (x4 - (1 : Int32)).toNatClampNeg).toNatClampNeg then none else if ((F_t 5) ((F_t 8) (x4 - (1 : Int32)).toNatClampNeg).toNatClampNeg) < 0 ∨ 8 ≤ ((F_t 5) ((F_t 8) (x4 - (1 : Int32)).toNatClampNeg).toNatClampNeg).toNatClampNeg then none else if x1 < 0 ∨ 8 ≤ x1.toNatClampNeg then none else if ((F_t 4) x1.toNatClampNeg) ≤ ((F_t 4) ((F_t 5) ((F_t 8) (x4 - (1 : Int32)).toNatClampNeg).toNatClampNeg).toNatClampNeg) then (some (.inr (x4, (F_t 8)))) else (if (x4 - (1 : Int32)) < 0 ∨ 10 ≤ (x4 - (1 : Int32)).toNatClampNeg then none else if x4 < 0 ∨ 10 ≤ x4.toNatClampNeg then none else xl ((F_t 8) (x4 - (1 : Int32)).toNatClampNeg) (fun y_13 => some (.inl ((x4 + (-1 : Int32)), (upd (F_t 8) x4.toNatClampNeg y_13))))))
set_option maxHeartbeats 4000000 in
set_option maxRecDepth 100000 in
theorem t_X4_addChannel_b25 {p : Program} {l : Launch} {e : Env} {s : State} {m : MethodId} {args : Array Value} {below : List Frame} {meth : Method} {c : Code} {g : gG} {A : Nat → Prop} {Q : State → Prop} (E : En p s m args meth c g A cX4_addChannel 5 (.code yX4_addChannel cX4_addChannel 5 none :: gW) RX4 none) (q_t : Nat) (Q_t : Ad) (N : Nat) (F_t : St) (x1 : Int32) (x2 : Int32) (x3 : Int32) (x4 : Int32) (o : (Int32 × (Nat → Int32)) ⊕ (Int32 × (Nat → Int32))) (h : x_X4_addChannel_b25 N F_t x1 x2 x3 x4 = some o) (hc : ∀ z, o = .inl z → WA p l e (rM 2 45) s m args below meth c g A Q 5 25 [oX4 q_t Q_t (F_t 0 0) (F_t 1 0) (F_t 2 0), ia g (Q_t 4) 8 (F_t 4), ia g (Q_t 5) 10 (F_t 5), ia g (Q_t 6) 10 (F_t 6), ia g (Q_t 7) 10 (F_t 7), ia g (Q_t 8) 10 z.2] [(0, .ref q_t), (1, .int x1), (2, .int x2), (3, .int x3), (4, .int z.1)] []) (he : ∀ v, o = .inr v → WA p l e (rM 2 45) s m args below meth c g A Q 5 80 [oX4 q_t Q_t (F_t 0 0) (F_t 1 0) (F_t 2 0), ia g (Q_t 4) 8 (F_t 4), ia g (Q_t 5) 10 (F_t 5), ia g (Q_t 6) 10 (F_t 6), ia g (Q_t 7) 10 (F_t 7), ia g (Q_t 8) 10 v.2] [(0, .ref q_t), (1, .int x1), (2, .int x2), (3, .int x3), (4, .int v.1)] []) : WA p l e (rM 2 45) s m args below meth c g A Q 5 25 [oX4 q_t Q_t (F_t 0 0) (F_t 1 0) (F_t 2 0), ia g (Q_t 4) 8 (F_t 4), ia g (Q_t 5) 10 (F_t 5), ia g (Q_t 6) 10 (F_t 6), ia g (Q_t 7) 10 (F_t 7), ia g (Q_t 8) 10 (F_t 8)] [(0, .ref q_t), (1, .int x1), (2, .int x2), (3, .int x3), (4, .int x4)] [] := by
  obtain ⟨⟨hx, hb, hml, hown, hts⟩, hr, hK, hA, hlk⟩ := id E
  intro H locs ls hP hD hS hl
  refine lv_iload hx hb dX4_addChannel_25 (lv_at hl 4 rfl) ?_
  refine lv_if_le (tgt := 80) hx hb dX4_addChannel_27 (by decide) (fun c_5 => ?_) (fun c_5 => ?_)
  · have h := ox_t c_5 h
    obtain rfl := Option.some.inj h
    exact he _ rfl H locs ls hP hD hS hl
  · have h := ox_f c_5 h
    refine lv_aload_n hx hb dX4_addChannel_30 rfl (lv_at hl 0 rfl) ?_
    refine va_get (ci := 4) (v := .ref (Q_t 4)) (C := RX4) (T := TX4) (N := 9) hx hb hts (fun w h => .tail _ (u_inX4 w h)) hown hK.1 hP 0 rfl rfl 4 (by decide) (hts _ (.tail _ u_fl_X4_25)) (fun _ h9 => h9) rfl dX4_addChannel_31 ?_
    refine lv_aload_n hx hb dX4_addChannel_34 rfl (lv_at hl 0 rfl) ?_
    refine va_get (ci := 4) (v := .ref (Q_t 5)) (C := RX4) (T := TX4) (N := 9) hx hb hts (fun w h => .tail _ (u_inX4 w h)) hown hK.1 hP 0 rfl rfl 5 (by decide) (hts _ (.tail _ u_fl_X4_28)) (fun _ h9 => h9) rfl dX4_addChannel_35 ?_
    refine lv_aload_n hx hb dX4_addChannel_38 rfl (lv_at hl 0 rfl) ?_
    refine va_get (ci := 4) (v := .ref (Q_t 8)) (C := RX4) (T := TX4) (N := 9) hx hb hts (fun w h => .tail _ (u_inX4 w h)) hown hK.1 hP 0 rfl rfl 8 (by decide) (hts _ (.tail _ u_fl_X4_37)) (fun _ h9 => h9) rfl dX4_addChannel_39 ?_
    refine lv_iload hx hb dX4_addChannel_42 (lv_at hl 4 rfl) ?_
    refine lv_iconst (v := (1 : Int32)) hx hb dX4_addChannel_44 (by decide) ?_
    refine lv_isub hx hb dX4_addChannel_45 ?_
    obtain ⟨hi_6, h⟩ := ox_chk h
    refine va_iald hx hb hK.1 hP 5 0 rfl rfl hi_6 dX4_addChannel_46 ?_
    obtain ⟨hi_7, h⟩ := ox_chk h
    refine va_iald hx hb hK.1 hP 2 0 rfl rfl hi_7 dX4_addChannel_47 ?_
    obtain ⟨hi_8, h⟩ := ox_chk h
    refine va_iald hx hb hK.1 hP 1 0 rfl rfl hi_8 dX4_addChannel_48 ?_
    refine lv_aload_n hx hb dX4_addChannel_49 rfl (lv_at hl 0 rfl) ?_
    refine va_get (ci := 4) (v := .ref (Q_t 4)) (C := RX4) (T := TX4) (N := 9) hx hb hts (fun w h => .tail _ (u_inX4 w h)) hown hK.1 hP 0 rfl rfl 4 (by decide) (hts _ (.tail _ u_fl_X4_25)) (fun _ h9 => h9) rfl dX4_addChannel_50 ?_
    refine lv_iload_n hx hb dX4_addChannel_53 rfl (lv_at hl 1 rfl) ?_
    obtain ⟨hi_9, h⟩ := ox_chk h
    refine va_iald hx hb hK.1 hP 1 0 rfl rfl hi_9 dX4_addChannel_54 ?_
    refine lv_icmp_ge (tgt := 80) hx hb dX4_addChannel_55 (by decide) (fun c_10 => ?_) (fun c_10 => ?_)
    · have h := ox_t c_10 h
      obtain rfl := Option.some.inj h
      exact he _ rfl H locs ls hP hD hS hl
    · have h := ox_f c_10 h
      refine lv_aload_n hx hb dX4_addChannel_58 rfl (lv_at hl 0 rfl) ?_
      refine va_get (ci := 4) (v := .ref (Q_t 8)) (C := RX4) (T := TX4) (N := 9) hx hb hts (fun w h => .tail _ (u_inX4 w h)) hown hK.1 hP 0 rfl rfl 8 (by decide) (hts _ (.tail _ u_fl_X4_37)) (fun _ h9 => h9) rfl dX4_addChannel_59 ?_
      refine lv_iload hx hb dX4_addChannel_62 (lv_at hl 4 rfl) ?_
      refine lv_aload_n hx hb dX4_addChannel_64 rfl (lv_at hl 0 rfl) ?_
      refine va_get (ci := 4) (v := .ref (Q_t 8)) (C := RX4) (T := TX4) (N := 9) hx hb hts (fun w h => .tail _ (u_inX4 w h)) hown hK.1 hP 0 rfl rfl 8 (by decide) (hts _ (.tail _ u_fl_X4_37)) (fun _ h9 => h9) rfl dX4_addChannel_65 ?_
      refine lv_iload hx hb dX4_addChannel_68 (lv_at hl 4 rfl) ?_
      refine lv_iconst (v := (1 : Int32)) hx hb dX4_addChannel_70 (by decide) ?_
      refine lv_isub hx hb dX4_addChannel_71 ?_
      obtain ⟨hi_11, h⟩ := ox_chk h
      refine va_iald hx hb hK.1 hP 5 0 rfl rfl hi_11 dX4_addChannel_72 ?_
      obtain ⟨hi_12, h⟩ := ox_chk h
      refine lv_topi (fun y_13 ey_13 => ?_)
      have h := xl_at ey_13 h
      refine va_iast hx hb hK.1 hP hD hS 5 0 rfl rfl hi_12 dX4_addChannel_73 (fun H locs hP hD hS => ?_)
      have hP : va_P g.1 vwCl [oX4 q_t Q_t (F_t 0 0) (F_t 1 0) (F_t 2 0), ia g (Q_t 4) 8 (F_t 4), ia g (Q_t 5) 10 (F_t 5), ia g (Q_t 6) 10 (F_t 6), ia g (Q_t 7) 10 (F_t 7), ia g (Q_t 8) 10 (upd (F_t 8) x4.toNatClampNeg y_13)] H := hP
      have hD : va_D A [oX4 q_t Q_t (F_t 0 0) (F_t 1 0) (F_t 2 0), ia g (Q_t 4) 8 (F_t 4), ia g (Q_t 5) 10 (F_t 5), ia g (Q_t 6) 10 (F_t 6), ia g (Q_t 7) 10 (F_t 7), ia g (Q_t 8) 10 (upd (F_t 8) x4.toNatClampNeg y_13)] := hD
      refine lv_iinc (v := (x4 + (-1 : Int32))) (lv' := [(4, .int (x4 + (-1 : Int32))), (0, .ref q_t), (1, .int x1), (2, .int x2), (3, .int x3)]) hx hb dX4_addChannel_74 hl (k := 4) rfl rfl (by decide) rfl (fun ls hl => ?_)
      refine lv_goto (tgt := 25) hx hb dX4_addChannel_77 (by decide) ?_
      obtain rfl := Option.some.inj h
      exact hc _ rfl H locs ls hP hD hS (lv_sub hl [1, 2, 3, 4, 0] rfl)
def x_X4_addChannel (N : Nat) (F_t : St) (x1 : Int32) (x2 : Int32) (x3 : Int32) : Option (Int32 × (Nat → Int32) × (Nat → Int32) × (Nat → Int32) × (Nat → Int32)) :=
  if (10 : Int32) ≤ (F_t 2 0) then (some ((F_t 2 0), (F_t 5), (F_t 6), (F_t 7), (F_t 8))) else (Option.bind (x_X4_mayJoin N F_t x1 x2) (fun v_2 => if v_2 = 0 then (some ((F_t 2 0), (F_t 5), (F_t 6), (F_t 7), (F_t 8))) else (xl (F_t 2 0) (fun y_4 => Option.bind (lpc (fun (z : Int32 × (Nat → Int32)) => x_X4_addChannel_b25 N (va_up F_t 8 z.2) x1 x2 x3 z.1) N (y_4, (F_t 8))) (fun v_14 => if v_14.1 < 0 ∨ 10 ≤ v_14.1.toNatClampNeg then none else xl (F_t 2 0) (fun y_16 => if (F_t 2 0) < 0 ∨ 10 ≤ (F_t 2 0).toNatClampNeg then none else if (F_t 2 0) < 0 ∨ 10 ≤ (F_t 2 0).toNatClampNeg then none else if (F_t 2 0) < 0 ∨ 10 ≤ (F_t 2 0).toNatClampNeg then none else xl ((F_t 2 0) + (1 : Int32)) (fun y_20 => some (y_20, (upd (F_t 5) (F_t 2 0).toNatClampNeg x1), (upd (F_t 6) (F_t 2 0).toNatClampNeg x2), (upd (F_t 7) (F_t 2 0).toNatClampNeg x3), (upd v_14.2 v_14.1.toNatClampNeg y_16)))))))))
set_option maxHeartbeats 4000000 in
set_option maxRecDepth 100000 in
theorem t_X4_addChannel {p : Program} {l : Launch} {e : Env} {s : State} {m : MethodId} {args : Array Value} {below : List Frame} {meth : Method} {c : Code} {g : gG} {A : Nat → Prop} (E : En p s m args meth c g A cX4_addChannel 5 (.code yX4_addChannel cX4_addChannel 5 none :: gW) RX4 none) (q_t : Nat) (Q_t : Ad) (N : Nat) (F_t : St) (x1 : Int32) (x2 : Int32) (x3 : Int32) (o : Int32 × (Nat → Int32) × (Nat → Int32) × (Nat → Int32) × (Nat → Int32)) (h : x_X4_addChannel N F_t x1 x2 x3 = some o) : WA p l e (rM 2 45) s m args below meth c g A (MQ below (QV g A [oX4 q_t Q_t (F_t 0 0) (F_t 1 0) o.1, ia g (Q_t 4) 8 (F_t 4), ia g (Q_t 5) 10 o.2.1, ia g (Q_t 6) 10 o.2.2.1, ia g (Q_t 7) 10 o.2.2.2.1, ia g (Q_t 8) 10 o.2.2.2.2]) args s 0 0 A) 5 0 [oX4 q_t Q_t (F_t 0 0) (F_t 1 0) (F_t 2 0), ia g (Q_t 4) 8 (F_t 4), ia g (Q_t 5) 10 (F_t 5), ia g (Q_t 6) 10 (F_t 6), ia g (Q_t 7) 10 (F_t 7), ia g (Q_t 8) 10 (F_t 8)] [(0, .ref q_t), (1, .int x1), (2, .int x2), (3, .int x3)] [] := by
  obtain ⟨⟨hx, hb, hml, hown, hts⟩, hr, hK, hA, hlk⟩ := id E
  intro H locs ls hP hD hS hl
  refine lv_aload_n hx hb dX4_addChannel_0 rfl (lv_at hl 0 rfl) ?_
  refine va_get (ci := 4) (v := .int (F_t 2 0)) (C := RX4) (T := TX4) (N := 9) hx hb hts (fun w h => .tail _ (u_inX4 w h)) hown hK.1 hP 0 rfl rfl 2 (by decide) (hts _ (.tail _ u_fl_X4_18)) (fun _ h9 => h9) rfl dX4_addChannel_1 ?_
  refine lv_bipush (v := (10 : Int32)) hx hb dX4_addChannel_4 (by decide) ?_
  refine lv_icmp_ge (tgt := 18) hx hb dX4_addChannel_6 (by decide) (fun c_1 => ?_) (fun c_1 => ?_)
  · have h := ox_t c_1 h
    obtain rfl := Option.some.inj h
    exact k_vret hx hb hr hlk hP hD hS dX4_addChannel_18
  · have h := ox_f c_1 h
    refine lv_aload_n hx hb dX4_addChannel_9 rfl (lv_at hl 0 rfl) ?_
    refine lv_iload_n hx hb dX4_addChannel_10 rfl (lv_at hl 1 rfl) ?_
    refine lv_iload_n hx hb dX4_addChannel_11 rfl (lv_at hl 2 rfl) ?_
    obtain ⟨v_2, hv_2, h⟩ := ox_bind h
    refine kVi ⟨hx, hb, hml, hown, hts⟩ (c_X4_mayJoin l g q_t Q_t N F_t x1 x2 v_2 hv_2 H.size) (gV u_ml_X4_48 u_im_X4_mayJoin u_se_X4_mayJoin u_ini_X4 u_co_X4_mayJoin) hd_X4_mayJoin ⟨rfl, rfl⟩ hK hP hD hS hA 0 4 rfl rfl [0, 1, 2, 3] [0, 1, 2, 3, 8, 9] rfl rfl 4 rfl (w2 := [oX4 q_t Q_t (F_t 0 0) (F_t 1 0) (F_t 2 0), ia g (Q_t 4) 8 (F_t 4), ia g (Q_t 5) 10 (F_t 5), ia g (Q_t 6) 10 (F_t 6), ia g (Q_t 7) 10 (F_t 7), ia g (Q_t 8) 10 (F_t 8)]) rfl rfl (As := [.int x1, .int x2]) (rest := []) rfl hl.1 rfl rfl dX4_addChannel_12 (fun H locs hP hD hS => ?_)
    refine lv_if_ne (tgt := 19) hx hb dX4_addChannel_15 (by decide) (fun c_3 => ?_) (fun c_3 => ?_)
    · have h := ox_f c_3 h
      refine lv_aload_n hx hb dX4_addChannel_19 rfl (lv_at hl 0 rfl) ?_
      refine va_get (ci := 4) (v := .int (F_t 2 0)) (C := RX4) (T := TX4) (N := 9) hx hb hts (fun w h => .tail _ (u_inX4 w h)) hown hK.1 hP 0 rfl rfl 2 (by decide) (hts _ (.tail _ u_fl_X4_18)) (fun _ h9 => h9) rfl dX4_addChannel_20 ?_
      refine lv_topi (fun y_4 ey_4 => ?_)
      have h := xl_at ey_4 h
      refine lv_istore (lv' := [(4, .int y_4), (0, .ref q_t), (1, .int x1), (2, .int x2), (3, .int x3)]) hx hb dX4_addChannel_23 hl (by decide) rfl (fun ls hl => ?_)
      obtain ⟨v_14, hv_14, h⟩ := ox_bind h
      refine lpc_W (Wh := fun (z : Int32 × (Nat → Int32)) => WA p l e (rM 2 45) s m args below meth c g A (MQ below (QV g A [oX4 q_t Q_t (F_t 0 0) (F_t 1 0) o.1, ia g (Q_t 4) 8 (F_t 4), ia g (Q_t 5) 10 o.2.1, ia g (Q_t 6) 10 o.2.2.1, ia g (Q_t 7) 10 o.2.2.2.1, ia g (Q_t 8) 10 o.2.2.2.2]) args s 0 0 A) 5 25 [oX4 q_t Q_t (F_t 0 0) (F_t 1 0) (F_t 2 0), ia g (Q_t 4) 8 (F_t 4), ia g (Q_t 5) 10 (F_t 5), ia g (Q_t 6) 10 (F_t 6), ia g (Q_t 7) 10 (F_t 7), ia g (Q_t 8) 10 z.2] [(0, .ref q_t), (1, .int x1), (2, .int x2), (3, .int x3), (4, .int z.1)] []) (We := fun (v : Int32 × (Nat → Int32)) => WA p l e (rM 2 45) s m args below meth c g A (MQ below (QV g A [oX4 q_t Q_t (F_t 0 0) (F_t 1 0) o.1, ia g (Q_t 4) 8 (F_t 4), ia g (Q_t 5) 10 o.2.1, ia g (Q_t 6) 10 o.2.2.1, ia g (Q_t 7) 10 o.2.2.2.1, ia g (Q_t 8) 10 o.2.2.2.2]) args s 0 0 A) 5 80 [oX4 q_t Q_t (F_t 0 0) (F_t 1 0) (F_t 2 0), ia g (Q_t 4) 8 (F_t 4), ia g (Q_t 5) 10 (F_t 5), ia g (Q_t 6) 10 (F_t 6), ia g (Q_t 7) 10 (F_t 7), ia g (Q_t 8) 10 v.2] [(0, .ref q_t), (1, .int x1), (2, .int x2), (3, .int x3), (4, .int v.1)] []) (fun z r hb hc he => t_X4_addChannel_b25 E q_t Q_t N (va_up F_t 8 z.2) x1 x2 x3 z.1 r hb hc he) N (y_4, (F_t 8)) v_14 hv_14 ?_ H locs ls hP hD hS (lv_sub hl [1, 2, 3, 4, 0] rfl)
      intro H locs ls hP hD hS hl
      refine lv_aload_n hx hb dX4_addChannel_80 rfl (lv_at hl 0 rfl) ?_
      refine va_get (ci := 4) (v := .ref (Q_t 8)) (C := RX4) (T := TX4) (N := 9) hx hb hts (fun w h => .tail _ (u_inX4 w h)) hown hK.1 hP 0 rfl rfl 8 (by decide) (hts _ (.tail _ u_fl_X4_37)) (fun _ h9 => h9) rfl dX4_addChannel_81 ?_
      refine lv_iload hx hb dX4_addChannel_84 (lv_at hl 4 rfl) ?_
      refine lv_aload_n hx hb dX4_addChannel_86 rfl (lv_at hl 0 rfl) ?_
      refine va_get (ci := 4) (v := .int (F_t 2 0)) (C := RX4) (T := TX4) (N := 9) hx hb hts (fun w h => .tail _ (u_inX4 w h)) hown hK.1 hP 0 rfl rfl 2 (by decide) (hts _ (.tail _ u_fl_X4_18)) (fun _ h9 => h9) rfl dX4_addChannel_87 ?_
      obtain ⟨hi_15, h⟩ := ox_chk h
      refine lv_topi (fun y_16 ey_16 => ?_)
      have h := xl_at ey_16 h
      refine va_iast hx hb hK.1 hP hD hS 5 0 rfl rfl hi_15 dX4_addChannel_90 (fun H locs hP hD hS => ?_)
      have hP : va_P g.1 vwCl [oX4 q_t Q_t (F_t 0 0) (F_t 1 0) (F_t 2 0), ia g (Q_t 4) 8 (F_t 4), ia g (Q_t 5) 10 (F_t 5), ia g (Q_t 6) 10 (F_t 6), ia g (Q_t 7) 10 (F_t 7), ia g (Q_t 8) 10 (upd v_14.2 v_14.1.toNatClampNeg y_16)] H := hP
      have hD : va_D A [oX4 q_t Q_t (F_t 0 0) (F_t 1 0) (F_t 2 0), ia g (Q_t 4) 8 (F_t 4), ia g (Q_t 5) 10 (F_t 5), ia g (Q_t 6) 10 (F_t 6), ia g (Q_t 7) 10 (F_t 7), ia g (Q_t 8) 10 (upd v_14.2 v_14.1.toNatClampNeg y_16)] := hD
      refine lv_aload_n hx hb dX4_addChannel_91 rfl (lv_at hl 0 rfl) ?_
      refine va_get (ci := 4) (v := .ref (Q_t 5)) (C := RX4) (T := TX4) (N := 9) hx hb hts (fun w h => .tail _ (u_inX4 w h)) hown hK.1 hP 0 rfl rfl 5 (by decide) (hts _ (.tail _ u_fl_X4_28)) (fun _ h9 => h9) rfl dX4_addChannel_92 ?_
      refine lv_aload_n hx hb dX4_addChannel_95 rfl (lv_at hl 0 rfl) ?_
      refine va_get (ci := 4) (v := .int (F_t 2 0)) (C := RX4) (T := TX4) (N := 9) hx hb hts (fun w h => .tail _ (u_inX4 w h)) hown hK.1 hP 0 rfl rfl 2 (by decide) (hts _ (.tail _ u_fl_X4_18)) (fun _ h9 => h9) rfl dX4_addChannel_96 ?_
      refine lv_iload_n hx hb dX4_addChannel_99 rfl (lv_at hl 1 rfl) ?_
      obtain ⟨hi_17, h⟩ := ox_chk h
      refine va_iast hx hb hK.1 hP hD hS 2 0 rfl rfl hi_17 dX4_addChannel_100 (fun H locs hP hD hS => ?_)
      have hP : va_P g.1 vwCl [oX4 q_t Q_t (F_t 0 0) (F_t 1 0) (F_t 2 0), ia g (Q_t 4) 8 (F_t 4), ia g (Q_t 5) 10 (upd (F_t 5) (F_t 2 0).toNatClampNeg x1), ia g (Q_t 6) 10 (F_t 6), ia g (Q_t 7) 10 (F_t 7), ia g (Q_t 8) 10 (upd v_14.2 v_14.1.toNatClampNeg y_16)] H := hP
      have hD : va_D A [oX4 q_t Q_t (F_t 0 0) (F_t 1 0) (F_t 2 0), ia g (Q_t 4) 8 (F_t 4), ia g (Q_t 5) 10 (upd (F_t 5) (F_t 2 0).toNatClampNeg x1), ia g (Q_t 6) 10 (F_t 6), ia g (Q_t 7) 10 (F_t 7), ia g (Q_t 8) 10 (upd v_14.2 v_14.1.toNatClampNeg y_16)] := hD
      refine lv_aload_n hx hb dX4_addChannel_101 rfl (lv_at hl 0 rfl) ?_
      refine va_get (ci := 4) (v := .ref (Q_t 6)) (C := RX4) (T := TX4) (N := 9) hx hb hts (fun w h => .tail _ (u_inX4 w h)) hown hK.1 hP 0 rfl rfl 6 (by decide) (hts _ (.tail _ u_fl_X4_31)) (fun _ h9 => h9) rfl dX4_addChannel_102 ?_
      refine lv_aload_n hx hb dX4_addChannel_105 rfl (lv_at hl 0 rfl) ?_
      refine va_get (ci := 4) (v := .int (F_t 2 0)) (C := RX4) (T := TX4) (N := 9) hx hb hts (fun w h => .tail _ (u_inX4 w h)) hown hK.1 hP 0 rfl rfl 2 (by decide) (hts _ (.tail _ u_fl_X4_18)) (fun _ h9 => h9) rfl dX4_addChannel_106 ?_
      refine lv_iload_n hx hb dX4_addChannel_109 rfl (lv_at hl 2 rfl) ?_
      obtain ⟨hi_18, h⟩ := ox_chk h
      refine va_iast hx hb hK.1 hP hD hS 3 0 rfl rfl hi_18 dX4_addChannel_110 (fun H locs hP hD hS => ?_)
      have hP : va_P g.1 vwCl [oX4 q_t Q_t (F_t 0 0) (F_t 1 0) (F_t 2 0), ia g (Q_t 4) 8 (F_t 4), ia g (Q_t 5) 10 (upd (F_t 5) (F_t 2 0).toNatClampNeg x1), ia g (Q_t 6) 10 (upd (F_t 6) (F_t 2 0).toNatClampNeg x2), ia g (Q_t 7) 10 (F_t 7), ia g (Q_t 8) 10 (upd v_14.2 v_14.1.toNatClampNeg y_16)] H := hP
      have hD : va_D A [oX4 q_t Q_t (F_t 0 0) (F_t 1 0) (F_t 2 0), ia g (Q_t 4) 8 (F_t 4), ia g (Q_t 5) 10 (upd (F_t 5) (F_t 2 0).toNatClampNeg x1), ia g (Q_t 6) 10 (upd (F_t 6) (F_t 2 0).toNatClampNeg x2), ia g (Q_t 7) 10 (F_t 7), ia g (Q_t 8) 10 (upd v_14.2 v_14.1.toNatClampNeg y_16)] := hD
      refine lv_aload_n hx hb dX4_addChannel_111 rfl (lv_at hl 0 rfl) ?_
      refine va_get (ci := 4) (v := .ref (Q_t 7)) (C := RX4) (T := TX4) (N := 9) hx hb hts (fun w h => .tail _ (u_inX4 w h)) hown hK.1 hP 0 rfl rfl 7 (by decide) (hts _ (.tail _ u_fl_X4_34)) (fun _ h9 => h9) rfl dX4_addChannel_112 ?_
      refine lv_aload_n hx hb dX4_addChannel_115 rfl (lv_at hl 0 rfl) ?_
      refine va_get (ci := 4) (v := .int (F_t 2 0)) (C := RX4) (T := TX4) (N := 9) hx hb hts (fun w h => .tail _ (u_inX4 w h)) hown hK.1 hP 0 rfl rfl 2 (by decide) (hts _ (.tail _ u_fl_X4_18)) (fun _ h9 => h9) rfl dX4_addChannel_116 ?_
      refine lv_iload_n hx hb dX4_addChannel_119 rfl (lv_at hl 3 rfl) ?_
      obtain ⟨hi_19, h⟩ := ox_chk h
      refine va_iast hx hb hK.1 hP hD hS 4 0 rfl rfl hi_19 dX4_addChannel_120 (fun H locs hP hD hS => ?_)
      have hP : va_P g.1 vwCl [oX4 q_t Q_t (F_t 0 0) (F_t 1 0) (F_t 2 0), ia g (Q_t 4) 8 (F_t 4), ia g (Q_t 5) 10 (upd (F_t 5) (F_t 2 0).toNatClampNeg x1), ia g (Q_t 6) 10 (upd (F_t 6) (F_t 2 0).toNatClampNeg x2), ia g (Q_t 7) 10 (upd (F_t 7) (F_t 2 0).toNatClampNeg x3), ia g (Q_t 8) 10 (upd v_14.2 v_14.1.toNatClampNeg y_16)] H := hP
      have hD : va_D A [oX4 q_t Q_t (F_t 0 0) (F_t 1 0) (F_t 2 0), ia g (Q_t 4) 8 (F_t 4), ia g (Q_t 5) 10 (upd (F_t 5) (F_t 2 0).toNatClampNeg x1), ia g (Q_t 6) 10 (upd (F_t 6) (F_t 2 0).toNatClampNeg x2), ia g (Q_t 7) 10 (upd (F_t 7) (F_t 2 0).toNatClampNeg x3), ia g (Q_t 8) 10 (upd v_14.2 v_14.1.toNatClampNeg y_16)] := hD
      refine lv_aload_n hx hb dX4_addChannel_121 rfl (lv_at hl 0 rfl) ?_
      refine lv_dup hx hb dX4_addChannel_122 rfl ?_
      refine va_get (ci := 4) (v := .int (F_t 2 0)) (C := RX4) (T := TX4) (N := 9) hx hb hts (fun w h => .tail _ (u_inX4 w h)) hown hK.1 hP 0 rfl rfl 2 (by decide) (hts _ (.tail _ u_fl_X4_18)) (fun _ h9 => h9) rfl dX4_addChannel_123 ?_
      refine lv_iconst (v := (1 : Int32)) hx hb dX4_addChannel_126 (by decide) ?_
      refine lv_iadd hx hb dX4_addChannel_127 ?_
      refine lv_topi (fun y_20 ey_20 => ?_)
      have h := xl_at ey_20 h
      refine va_put (ci := 4) (v := .int y_20) (ty := .int) (C := RX4) (T := TX4) (N := 9) hx hb hts (fun w h => .tail _ (u_inX4 w h)) tyX4 tyX4_ok nmX4 hown hK.1 hP hD hS 0 rfl rfl 2 (by decide) (hts _ (.tail _ u_fl_X4_18)) (fun _ h9 => h9) rfl (tyX4_ok 2 (by decide)) rfl rfl (Nat.le_of_ble_eq_true rfl) dX4_addChannel_128 (fun H locs hP hD hS => ?_)
      have hP : va_P g.1 vwCl [oX4 q_t Q_t (F_t 0 0) (F_t 1 0) y_20, ia g (Q_t 4) 8 (F_t 4), ia g (Q_t 5) 10 (upd (F_t 5) (F_t 2 0).toNatClampNeg x1), ia g (Q_t 6) 10 (upd (F_t 6) (F_t 2 0).toNatClampNeg x2), ia g (Q_t 7) 10 (upd (F_t 7) (F_t 2 0).toNatClampNeg x3), ia g (Q_t 8) 10 (upd v_14.2 v_14.1.toNatClampNeg y_16)] H := hP
      have hD : va_D A [oX4 q_t Q_t (F_t 0 0) (F_t 1 0) y_20, ia g (Q_t 4) 8 (F_t 4), ia g (Q_t 5) 10 (upd (F_t 5) (F_t 2 0).toNatClampNeg x1), ia g (Q_t 6) 10 (upd (F_t 6) (F_t 2 0).toNatClampNeg x2), ia g (Q_t 7) 10 (upd (F_t 7) (F_t 2 0).toNatClampNeg x3), ia g (Q_t 8) 10 (upd v_14.2 v_14.1.toNatClampNeg y_16)] := hD
      obtain rfl := Option.some.inj h
      exact k_vret hx hb hr hlk hP hD hS dX4_addChannel_131
    · have h := ox_t c_3 h
      obtain rfl := Option.some.inj h
      exact k_vret hx hb hr hlk hP hD hS dX4_addChannel_18
set_option maxRecDepth 100000 in
theorem c_X4_addChannel (l : Launch) (g : gG) (q_t : Nat) (Q_t : Ad) (N : Nat) (F_t : St) (x1 : Int32) (x2 : Int32) (x3 : Int32) (o : Int32 × (Nat → Int32) × (Nat → Int32) × (Nat → Int32) × (Nat → Int32)) (h : x_X4_addChannel N F_t x1 x2 x3 = some o) (sz : Nat) : MetV l yX4_addChannel (.code yX4_addChannel cX4_addChannel 5 none :: gW) 2 45 [.ref q_t, .int x1, .int x2, .int x3] g [oX4 q_t Q_t (F_t 0 0) (F_t 1 0) (F_t 2 0), ia g (Q_t 4) 8 (F_t 4), ia g (Q_t 5) 10 (F_t 5), ia g (Q_t 6) 10 (F_t 6), ia g (Q_t 7) 10 (F_t 7), ia g (Q_t 8) 10 (F_t 8)] [oX4 q_t Q_t (F_t 0 0) (F_t 1 0) o.1, ia g (Q_t 4) 8 (F_t 4), ia g (Q_t 5) 10 o.2.1, ia g (Q_t 6) 10 o.2.2.1, ia g (Q_t 7) 10 o.2.2.2.1, ia g (Q_t 8) 10 o.2.2.2.2] sz :=
  mkV (av := [.ref q_t, .int x1, .int x2, .int x3]) (by decide +kernel) rfl (fun p e s m below meth c A E H locs ls hP hD hS hl => t_X4_addChannel E q_t Q_t N F_t x1 x2 x3 o h H locs ls hP hD hS hl) sz
def x_X4_goingOn (F_t : St) (x1 : Int32) (x2 : Int32) : Option (Int32) :=
  Option.bind (x_X4_hasPlace F_t x1) (fun v_1 => if v_1 = 0 then (some (0 : Int32)) else (if x1 < 0 ∨ 8 ≤ x1.toNatClampNeg then none else if ((F_t 3) x1.toNatClampNeg) = (3 : Int32) then (some (0 : Int32)) else (if x1 < 0 ∨ 8 ≤ x1.toNatClampNeg then none else if ((F_t 3) x1.toNatClampNeg) = (1 : Int32) then (some (x2 &&& (85 : Int32))) else (some x2))))
set_option maxHeartbeats 4000000 in
set_option maxRecDepth 100000 in
theorem t_X4_goingOn {p : Program} {l : Launch} {e : Env} {s : State} {m : MethodId} {args : Array Value} {below : List Frame} {meth : Method} {c : Code} {g : gG} {A : Nat → Prop} (E : En p s m args meth c g A cX4_goingOn 3 (.code yX4_goingOn cX4_goingOn 3 (some .int) :: gW) RX4 (some .int)) (q_t : Nat) (Q_t : Ad) (F_t : St) (x1 : Int32) (x2 : Int32) (o : Int32) (h : x_X4_goingOn F_t x1 x2 = some o) : WA p l e (rM 1 21) s m args below meth c g A (MQ below (QI g A o [oX4 q_t Q_t (F_t 0 0) (F_t 1 0) (F_t 2 0), ia g (Q_t 3) 8 (F_t 3)]) args s 0 0 A) 3 0 [oX4 q_t Q_t (F_t 0 0) (F_t 1 0) (F_t 2 0), ia g (Q_t 3) 8 (F_t 3)] [(0, .ref q_t), (1, .int x1), (2, .int x2)] [] := by
  obtain ⟨⟨hx, hb, hml, hown, hts⟩, hr, hK, hA, hlk⟩ := id E
  intro H locs ls hP hD hS hl
  refine lv_aload_n hx hb dX4_goingOn_0 rfl (lv_at hl 0 rfl) ?_
  refine lv_iload_n hx hb dX4_goingOn_1 rfl (lv_at hl 1 rfl) ?_
  obtain ⟨v_1, hv_1, h⟩ := ox_bind h
  refine kVi ⟨hx, hb, hml, hown, hts⟩ (c_X4_hasPlace l g q_t Q_t F_t x1 v_1 hv_1 H.size) (gV u_ml_X4_40 u_im_X4_hasPlace u_se_X4_hasPlace u_ini_X4 u_co_X4_hasPlace) hd_X4_hasPlace ⟨rfl, rfl⟩ hK hP hD hS hA 0 4 rfl rfl [0] [0, 2] rfl rfl 1 rfl (w2 := [oX4 q_t Q_t (F_t 0 0) (F_t 1 0) (F_t 2 0), ia g (Q_t 3) 8 (F_t 3)]) rfl rfl (As := [.int x1]) (rest := []) rfl hl.1 rfl rfl dX4_goingOn_2 (fun H locs hP hD hS => ?_)
  refine lv_if_eq (tgt := 18) hx hb dX4_goingOn_5 (by decide) (fun c_2 => ?_) (fun c_2 => ?_)
  · have h := ox_t c_2 h
    refine lv_iconst (v := (0 : Int32)) hx hb dX4_goingOn_18 (by decide) ?_
    obtain rfl := Option.some.inj h
    exact k_iret hx hb hr hlk hP hD hS dX4_goingOn_19
  · have h := ox_f c_2 h
    refine lv_aload_n hx hb dX4_goingOn_8 rfl (lv_at hl 0 rfl) ?_
    refine va_get (ci := 4) (v := .ref (Q_t 3)) (C := RX4) (T := TX4) (N := 9) hx hb hts (fun w h => .tail _ (u_inX4 w h)) hown hK.1 hP 0 rfl rfl 3 (by decide) (hts _ (.tail _ u_fl_X4_21)) (fun _ h9 => h9) rfl dX4_goingOn_9 ?_
    refine lv_iload_n hx hb dX4_goingOn_12 rfl (lv_at hl 1 rfl) ?_
    obtain ⟨hi_3, h⟩ := ox_chk h
    refine va_iald hx hb hK.1 hP 1 0 rfl rfl hi_3 dX4_goingOn_13 ?_
    refine lv_iconst (v := (3 : Int32)) hx hb dX4_goingOn_14 (by decide) ?_
    refine lv_icmp_ne (tgt := 20) hx hb dX4_goingOn_15 (by decide) (fun c_4 => ?_) (fun c_4 => ?_)
    · have h := ox_f c_4 h
      refine lv_aload_n hx hb dX4_goingOn_20 rfl (lv_at hl 0 rfl) ?_
      refine va_get (ci := 4) (v := .ref (Q_t 3)) (C := RX4) (T := TX4) (N := 9) hx hb hts (fun w h => .tail _ (u_inX4 w h)) hown hK.1 hP 0 rfl rfl 3 (by decide) (hts _ (.tail _ u_fl_X4_21)) (fun _ h9 => h9) rfl dX4_goingOn_21 ?_
      refine lv_iload_n hx hb dX4_goingOn_24 rfl (lv_at hl 1 rfl) ?_
      obtain ⟨hi_5, h⟩ := ox_chk h
      refine va_iald hx hb hK.1 hP 1 0 rfl rfl hi_5 dX4_goingOn_25 ?_
      refine lv_iconst (v := (1 : Int32)) hx hb dX4_goingOn_26 (by decide) ?_
      refine lv_icmp_ne (tgt := 37) hx hb dX4_goingOn_27 (by decide) (fun c_6 => ?_) (fun c_6 => ?_)
      · have h := ox_f c_6 h
        refine lv_iload_n hx hb dX4_goingOn_37 rfl (lv_at hl 2 rfl) ?_
        obtain rfl := Option.some.inj h
        exact k_iret hx hb hr hlk hP hD hS dX4_goingOn_38
      · have h := ox_t c_6 h
        refine lv_iload_n hx hb dX4_goingOn_30 rfl (lv_at hl 2 rfl) ?_
        refine lv_bipush (v := (85 : Int32)) hx hb dX4_goingOn_31 (by decide) ?_
        refine lv_iand hx hb dX4_goingOn_33 ?_
        refine lv_goto (tgt := 38) hx hb dX4_goingOn_34 (by decide) ?_
        obtain rfl := Option.some.inj h
        exact k_iret hx hb hr hlk hP hD hS dX4_goingOn_38
    · have h := ox_t c_4 h
      refine lv_iconst (v := (0 : Int32)) hx hb dX4_goingOn_18 (by decide) ?_
      obtain rfl := Option.some.inj h
      exact k_iret hx hb hr hlk hP hD hS dX4_goingOn_19
set_option maxRecDepth 100000 in
theorem c_X4_goingOn (l : Launch) (g : gG) (q_t : Nat) (Q_t : Ad) (F_t : St) (x1 : Int32) (x2 : Int32) (o : Int32) (h : x_X4_goingOn F_t x1 x2 = some o) (sz : Nat) : MetI l yX4_goingOn (.code yX4_goingOn cX4_goingOn 3 (some .int) :: gW) 1 21 [.ref q_t, .int x1, .int x2] o g [oX4 q_t Q_t (F_t 0 0) (F_t 1 0) (F_t 2 0), ia g (Q_t 3) 8 (F_t 3)] [oX4 q_t Q_t (F_t 0 0) (F_t 1 0) (F_t 2 0), ia g (Q_t 3) 8 (F_t 3)] sz :=
  mkI (av := [.ref q_t, .int x1, .int x2]) (by decide +kernel) rfl (fun p e s m below meth c A E H locs ls hP hD hS hl => t_X4_goingOn E q_t Q_t F_t x1 x2 o h H locs ls hP hD hS hl) sz
