def x_X5_add (F_t : St) (x1 : Int32) : Option (Int32 × (Nat → Int32) × Int32) :=
  if (F_t 1 0) < (240 : Int32) then (if (F_t 1 0) < 0 ∨ 240 ≤ (F_t 1 0).toNatClampNeg then none else xl ((F_t 1 0) + (1 : Int32)) (fun y_3 => some ((1 : Int32), (upd (F_t 0) (F_t 1 0).toNatClampNeg x1), y_3))) else (some ((0 : Int32), (F_t 0), (F_t 1 0)))
set_option maxHeartbeats 4000000 in
set_option maxRecDepth 100000 in
theorem t_X5_add {p : Program} {l : Launch} {e : Env} {s : State} {m : MethodId} {args : Array Value} {below : List Frame} {meth : Method} {c : Code} {g : gG} {A : Nat → Prop} (E : En p s m args meth c g A cX5_add 2 (.code yX5_add cX5_add 2 (some .boolean) :: gW) RX5 (some .boolean)) (q_t : Nat) (Q_t : Ad) (F_t : St) (x1 : Int32) (o : Int32 × (Nat → Int32) × Int32) (h : x_X5_add F_t x1 = some o) : WA p l e (rM 0 0) s m args below meth c g A (MQ below (QI g A o.1 [oX5 q_t Q_t o.2.2 (F_t 2 0) (F_t 3 0) (F_t 4 0) (F_t 5 0), ia g (Q_t 0) 240 o.2.1]) args s 0 0 A) 2 0 [oX5 q_t Q_t (F_t 1 0) (F_t 2 0) (F_t 3 0) (F_t 4 0) (F_t 5 0), ia g (Q_t 0) 240 (F_t 0)] [(0, .ref q_t), (1, .int x1)] [] := by
  obtain ⟨⟨hx, hb, hml, hown, hts⟩, hr, hK, hA, hlk⟩ := id E
  intro H locs ls hP hD hS hl
  refine lv_aload_n hx hb dX5_add_0 rfl (lv_at hl 0 rfl) ?_
  refine va_get (ci := 5) (v := .int (F_t 1 0)) (C := RX5) (T := TX5) (N := 6) hx hb hts (fun w h => .tail _ (u_inX5 w h)) hown hK.1 hP 0 rfl rfl 1 (by decide) (hts _ (.tail _ u_fl_X5_15)) (fun _ h9 => h9) rfl dX5_add_1 ?_
  refine lv_sipush (v := (240 : Int32)) hx hb dX5_add_4 (by decide) ?_
  refine lv_icmp_lt (tgt := 12) hx hb dX5_add_7 (by decide) (fun c_1 => ?_) (fun c_1 => ?_)
  · have h := ox_t c_1 h
    refine lv_aload_n hx hb dX5_add_12 rfl (lv_at hl 0 rfl) ?_
    refine va_get (ci := 5) (v := .ref (Q_t 0)) (C := RX5) (T := TX5) (N := 6) hx hb hts (fun w h => .tail _ (u_inX5 w h)) hown hK.1 hP 0 rfl rfl 0 (by decide) (hts _ (.tail _ u_fl_X5_9)) (fun _ h9 => h9) rfl dX5_add_13 ?_
    refine lv_aload_n hx hb dX5_add_16 rfl (lv_at hl 0 rfl) ?_
    refine va_get (ci := 5) (v := .int (F_t 1 0)) (C := RX5) (T := TX5) (N := 6) hx hb hts (fun w h => .tail _ (u_inX5 w h)) hown hK.1 hP 0 rfl rfl 1 (by decide) (hts _ (.tail _ u_fl_X5_15)) (fun _ h9 => h9) rfl dX5_add_17 ?_
    refine lv_iload_n hx hb dX5_add_20 rfl (lv_at hl 1 rfl) ?_
    obtain ⟨hi_2, h⟩ := ox_chk h
    refine va_iast hx hb hK.1 hP hD hS 1 0 rfl rfl hi_2 dX5_add_21 (fun H locs hP hD hS => ?_)
    have hP : va_P g.1 vwCl [oX5 q_t Q_t (F_t 1 0) (F_t 2 0) (F_t 3 0) (F_t 4 0) (F_t 5 0), ia g (Q_t 0) 240 (upd (F_t 0) (F_t 1 0).toNatClampNeg x1)] H := hP
    have hD : va_D A [oX5 q_t Q_t (F_t 1 0) (F_t 2 0) (F_t 3 0) (F_t 4 0) (F_t 5 0), ia g (Q_t 0) 240 (upd (F_t 0) (F_t 1 0).toNatClampNeg x1)] := hD
    refine lv_aload_n hx hb dX5_add_22 rfl (lv_at hl 0 rfl) ?_
    refine lv_dup hx hb dX5_add_23 rfl ?_
    refine va_get (ci := 5) (v := .int (F_t 1 0)) (C := RX5) (T := TX5) (N := 6) hx hb hts (fun w h => .tail _ (u_inX5 w h)) hown hK.1 hP 0 rfl rfl 1 (by decide) (hts _ (.tail _ u_fl_X5_15)) (fun _ h9 => h9) rfl dX5_add_24 ?_
    refine lv_iconst (v := (1 : Int32)) hx hb dX5_add_27 (by decide) ?_
    refine lv_iadd hx hb dX5_add_28 ?_
    refine lv_topi (fun y_3 ey_3 => ?_)
    have h := xl_at ey_3 h
    refine va_put (ci := 5) (v := .int y_3) (ty := .int) (C := RX5) (T := TX5) (N := 6) hx hb hts (fun w h => .tail _ (u_inX5 w h)) tyX5 tyX5_ok nmX5 hown hK.1 hP hD hS 0 rfl rfl 1 (by decide) (hts _ (.tail _ u_fl_X5_15)) (fun _ h9 => h9) rfl (tyX5_ok 1 (by decide)) rfl rfl (Nat.le_of_ble_eq_true rfl) dX5_add_29 (fun H locs hP hD hS => ?_)
    have hP : va_P g.1 vwCl [oX5 q_t Q_t y_3 (F_t 2 0) (F_t 3 0) (F_t 4 0) (F_t 5 0), ia g (Q_t 0) 240 (upd (F_t 0) (F_t 1 0).toNatClampNeg x1)] H := hP
    have hD : va_D A [oX5 q_t Q_t y_3 (F_t 2 0) (F_t 3 0) (F_t 4 0) (F_t 5 0), ia g (Q_t 0) 240 (upd (F_t 0) (F_t 1 0).toNatClampNeg x1)] := hD
    refine lv_iconst (v := (1 : Int32)) hx hb dX5_add_32 (by decide) ?_
    obtain rfl := Option.some.inj h
    exact k_zret hx hb hr hlk (.inr rfl) hP hD hS dX5_add_33
  · have h := ox_f c_1 h
    refine lv_iconst (v := (0 : Int32)) hx hb dX5_add_10 (by decide) ?_
    obtain rfl := Option.some.inj h
    exact k_zret hx hb hr hlk (.inl rfl) hP hD hS dX5_add_11
set_option maxRecDepth 100000 in
theorem c_X5_add (l : Launch) (g : gG) (q_t : Nat) (Q_t : Ad) (F_t : St) (x1 : Int32) (o : Int32 × (Nat → Int32) × Int32) (h : x_X5_add F_t x1 = some o) (sz : Nat) : MetI l yX5_add (.code yX5_add cX5_add 2 (some .boolean) :: gW) 0 0 [.ref q_t, .int x1] o.1 g [oX5 q_t Q_t (F_t 1 0) (F_t 2 0) (F_t 3 0) (F_t 4 0) (F_t 5 0), ia g (Q_t 0) 240 (F_t 0)] [oX5 q_t Q_t o.2.2 (F_t 2 0) (F_t 3 0) (F_t 4 0) (F_t 5 0), ia g (Q_t 0) 240 o.2.1] sz :=
  mkI (av := [.ref q_t, .int x1]) (by decide +kernel) rfl (fun p e s m below meth c A E H locs ls hP hD hS hl => t_X5_add E q_t Q_t F_t x1 o h H locs ls hP hD hS hl) sz
def x_X5_current (F_t : St) : Option (Int32) :=
  if (F_t 4 0) < 0 then (some (-1 : Int32)) else (if (F_t 1 0) ≤ (F_t 4 0) then (some (-1 : Int32)) else (if (240 : Int32) ≤ (F_t 4 0) then (some (-1 : Int32)) else (if (F_t 4 0) < 0 ∨ 240 ≤ (F_t 4 0).toNatClampNeg then none else some ((F_t 0) (F_t 4 0).toNatClampNeg))))
set_option maxHeartbeats 4000000 in
set_option maxRecDepth 100000 in
theorem t_X5_current {p : Program} {l : Launch} {e : Env} {s : State} {m : MethodId} {args : Array Value} {below : List Frame} {meth : Method} {c : Code} {g : gG} {A : Nat → Prop} (E : En p s m args meth c g A cX5_current 1 (.code yX5_current cX5_current 1 (some .int) :: gW) RX5 (some .int)) (q_t : Nat) (Q_t : Ad) (F_t : St) (o : Int32) (h : x_X5_current F_t = some o) : WA p l e (rM 0 0) s m args below meth c g A (MQ below (QI g A o [oX5 q_t Q_t (F_t 1 0) (F_t 2 0) (F_t 3 0) (F_t 4 0) (F_t 5 0), ia g (Q_t 0) 240 (F_t 0)]) args s 0 0 A) 1 0 [oX5 q_t Q_t (F_t 1 0) (F_t 2 0) (F_t 3 0) (F_t 4 0) (F_t 5 0), ia g (Q_t 0) 240 (F_t 0)] [(0, .ref q_t)] [] := by
  obtain ⟨⟨hx, hb, hml, hown, hts⟩, hr, hK, hA, hlk⟩ := id E
  intro H locs ls hP hD hS hl
  refine lv_aload_n hx hb dX5_current_0 rfl (lv_at hl 0 rfl) ?_
  refine va_get (ci := 5) (v := .int (F_t 4 0)) (C := RX5) (T := TX5) (N := 6) hx hb hts (fun w h => .tail _ (u_inX5 w h)) hown hK.1 hP 0 rfl rfl 4 (by decide) (hts _ (.tail _ u_fl_X5_25)) (fun _ h9 => h9) rfl dX5_current_1 ?_
  refine lv_if_lt (tgt := 40) hx hb dX5_current_4 (by decide) (fun c_1 => ?_) (fun c_1 => ?_)
  · have h := ox_t c_1 h
    refine lv_iconst (v := (-1 : Int32)) hx hb dX5_current_40 (by decide) ?_
    obtain rfl := Option.some.inj h
    exact k_iret hx hb hr hlk hP hD hS dX5_current_41
  · have h := ox_f c_1 h
    refine lv_aload_n hx hb dX5_current_7 rfl (lv_at hl 0 rfl) ?_
    refine va_get (ci := 5) (v := .int (F_t 4 0)) (C := RX5) (T := TX5) (N := 6) hx hb hts (fun w h => .tail _ (u_inX5 w h)) hown hK.1 hP 0 rfl rfl 4 (by decide) (hts _ (.tail _ u_fl_X5_25)) (fun _ h9 => h9) rfl dX5_current_8 ?_
    refine lv_aload_n hx hb dX5_current_11 rfl (lv_at hl 0 rfl) ?_
    refine va_get (ci := 5) (v := .int (F_t 1 0)) (C := RX5) (T := TX5) (N := 6) hx hb hts (fun w h => .tail _ (u_inX5 w h)) hown hK.1 hP 0 rfl rfl 1 (by decide) (hts _ (.tail _ u_fl_X5_15)) (fun _ h9 => h9) rfl dX5_current_12 ?_
    refine lv_icmp_ge (tgt := 40) hx hb dX5_current_15 (by decide) (fun c_2 => ?_) (fun c_2 => ?_)
    · have h := ox_t c_2 h
      refine lv_iconst (v := (-1 : Int32)) hx hb dX5_current_40 (by decide) ?_
      obtain rfl := Option.some.inj h
      exact k_iret hx hb hr hlk hP hD hS dX5_current_41
    · have h := ox_f c_2 h
      refine lv_aload_n hx hb dX5_current_18 rfl (lv_at hl 0 rfl) ?_
      refine va_get (ci := 5) (v := .int (F_t 4 0)) (C := RX5) (T := TX5) (N := 6) hx hb hts (fun w h => .tail _ (u_inX5 w h)) hown hK.1 hP 0 rfl rfl 4 (by decide) (hts _ (.tail _ u_fl_X5_25)) (fun _ h9 => h9) rfl dX5_current_19 ?_
      refine lv_sipush (v := (240 : Int32)) hx hb dX5_current_22 (by decide) ?_
      refine lv_icmp_ge (tgt := 40) hx hb dX5_current_25 (by decide) (fun c_3 => ?_) (fun c_3 => ?_)
      · have h := ox_t c_3 h
        refine lv_iconst (v := (-1 : Int32)) hx hb dX5_current_40 (by decide) ?_
        obtain rfl := Option.some.inj h
        exact k_iret hx hb hr hlk hP hD hS dX5_current_41
      · have h := ox_f c_3 h
        refine lv_aload_n hx hb dX5_current_28 rfl (lv_at hl 0 rfl) ?_
        refine va_get (ci := 5) (v := .ref (Q_t 0)) (C := RX5) (T := TX5) (N := 6) hx hb hts (fun w h => .tail _ (u_inX5 w h)) hown hK.1 hP 0 rfl rfl 0 (by decide) (hts _ (.tail _ u_fl_X5_9)) (fun _ h9 => h9) rfl dX5_current_29 ?_
        refine lv_aload_n hx hb dX5_current_32 rfl (lv_at hl 0 rfl) ?_
        refine va_get (ci := 5) (v := .int (F_t 4 0)) (C := RX5) (T := TX5) (N := 6) hx hb hts (fun w h => .tail _ (u_inX5 w h)) hown hK.1 hP 0 rfl rfl 4 (by decide) (hts _ (.tail _ u_fl_X5_25)) (fun _ h9 => h9) rfl dX5_current_33 ?_
        obtain ⟨hi_4, h⟩ := ox_chk h
        refine va_iald hx hb hK.1 hP 1 0 rfl rfl hi_4 dX5_current_36 ?_
        refine lv_goto (tgt := 41) hx hb dX5_current_37 (by decide) ?_
        obtain rfl := Option.some.inj h
        exact k_iret hx hb hr hlk hP hD hS dX5_current_41
set_option maxRecDepth 100000 in
theorem c_X5_current (l : Launch) (g : gG) (q_t : Nat) (Q_t : Ad) (F_t : St) (o : Int32) (h : x_X5_current F_t = some o) (sz : Nat) : MetI l yX5_current (.code yX5_current cX5_current 1 (some .int) :: gW) 0 0 [.ref q_t] o g [oX5 q_t Q_t (F_t 1 0) (F_t 2 0) (F_t 3 0) (F_t 4 0) (F_t 5 0), ia g (Q_t 0) 240 (F_t 0)] [oX5 q_t Q_t (F_t 1 0) (F_t 2 0) (F_t 3 0) (F_t 4 0) (F_t 5 0), ia g (Q_t 0) 240 (F_t 0)] sz :=
  mkI (av := [.ref q_t]) (by decide +kernel) rfl (fun p e s m below meth c A E H locs ls hP hD hS hl => t_X5_current E q_t Q_t F_t o h H locs ls hP hD hS hl) sz
def x_X5_isFigure (x0 : Int32) : Option (Int32) :=
  if x0 < (48 : Int32) then (some (0 : Int32)) else (if (57 : Int32) < x0 then (some (0 : Int32)) else (some (1 : Int32)))
set_option maxHeartbeats 4000000 in
set_option maxRecDepth 100000 in
theorem t_X5_isFigure {p : Program} {l : Launch} {e : Env} {s : State} {m : MethodId} {args : Array Value} {below : List Frame} {meth : Method} {c : Code} {g : gG} {A : Nat → Prop} (E : En p s m args meth c g A cX5_isFigure 1 (.code yX5_isFigure cX5_isFigure 1 (some .boolean) :: gW) RX5 (some .boolean)) (x0 : Int32) (o : Int32) (h : x_X5_isFigure x0 = some o) : WA p l e (rM 0 0) s m args below meth c g A (MQ below (QI g A o []) args s 0 0 A) 1 0 [] [(0, .int x0)] [] := by
  obtain ⟨⟨hx, hb, hml, hown, hts⟩, hr, hK, hA, hlk⟩ := id E
  intro H locs ls hP hD hS hl
  refine lv_iload_n hx hb dX5_isFigure_0 rfl (lv_at hl 0 rfl) ?_
  refine lv_bipush (v := (48 : Int32)) hx hb dX5_isFigure_1 (by decide) ?_
  refine lv_icmp_lt (tgt := 16) hx hb dX5_isFigure_3 (by decide) (fun c_1 => ?_) (fun c_1 => ?_)
  · have h := ox_t c_1 h
    refine lv_iconst (v := (0 : Int32)) hx hb dX5_isFigure_16 (by decide) ?_
    obtain rfl := Option.some.inj h
    exact k_zret hx hb hr hlk (.inl rfl) hP hD hS dX5_isFigure_17
  · have h := ox_f c_1 h
    refine lv_iload_n hx hb dX5_isFigure_6 rfl (lv_at hl 0 rfl) ?_
    refine lv_bipush (v := (57 : Int32)) hx hb dX5_isFigure_7 (by decide) ?_
    refine lv_icmp_gt (tgt := 16) hx hb dX5_isFigure_9 (by decide) (fun c_2 => ?_) (fun c_2 => ?_)
    · have h := ox_t c_2 h
      refine lv_iconst (v := (0 : Int32)) hx hb dX5_isFigure_16 (by decide) ?_
      obtain rfl := Option.some.inj h
      exact k_zret hx hb hr hlk (.inl rfl) hP hD hS dX5_isFigure_17
    · have h := ox_f c_2 h
      refine lv_iconst (v := (1 : Int32)) hx hb dX5_isFigure_12 (by decide) ?_
      refine lv_goto (tgt := 17) hx hb dX5_isFigure_13 (by decide) ?_
      obtain rfl := Option.some.inj h
      exact k_zret hx hb hr hlk (.inr rfl) hP hD hS dX5_isFigure_17
set_option maxRecDepth 100000 in
theorem c_X5_isFigure (l : Launch) (g : gG)  (x0 : Int32) (o : Int32) (h : x_X5_isFigure x0 = some o) (sz : Nat) : MetI l yX5_isFigure (.code yX5_isFigure cX5_isFigure 1 (some .boolean) :: gW) 0 0 [.int x0] o g [] [] sz :=
  mkI (av := [.int x0]) (by decide +kernel) rfl (fun p e s m below meth c A E H locs ls hP hD hS hl => t_X5_isFigure E  x0 o h H locs ls hP hD hS hl) sz
def x_X5_blame (F_t : St) (x1 : Int32) (x2 : Int32) : Option (Int32 × Int32) :=
  some (x1, x2)
set_option maxHeartbeats 4000000 in
set_option maxRecDepth 100000 in
theorem t_X5_blame {p : Program} {l : Launch} {e : Env} {s : State} {m : MethodId} {args : Array Value} {below : List Frame} {meth : Method} {c : Code} {g : gG} {A : Nat → Prop} (E : En p s m args meth c g A cX5_blame 3 (.code yX5_blame cX5_blame 3 none :: gW) RX5 none) (q_t : Nat) (Q_t : Ad) (F_t : St) (x1 : Int32) (x2 : Int32) (o : Int32 × Int32) (h : x_X5_blame F_t x1 x2 = some o) : WA p l e (rM 0 0) s m args below meth c g A (MQ below (QV g A [oX5 q_t Q_t (F_t 1 0) o.1 o.2 (F_t 4 0) (F_t 5 0)]) args s 0 0 A) 3 0 [oX5 q_t Q_t (F_t 1 0) (F_t 2 0) (F_t 3 0) (F_t 4 0) (F_t 5 0)] [(0, .ref q_t), (1, .int x1), (2, .int x2)] [] := by
  obtain ⟨⟨hx, hb, hml, hown, hts⟩, hr, hK, hA, hlk⟩ := id E
  intro H locs ls hP hD hS hl
  refine lv_aload_n hx hb dX5_blame_0 rfl (lv_at hl 0 rfl) ?_
  refine lv_iload_n hx hb dX5_blame_1 rfl (lv_at hl 1 rfl) ?_
  refine va_put (ci := 5) (v := .int x1) (ty := .int) (C := RX5) (T := TX5) (N := 6) hx hb hts (fun w h => .tail _ (u_inX5 w h)) tyX5 tyX5_ok nmX5 hown hK.1 hP hD hS 0 rfl rfl 2 (by decide) (hts _ (.tail _ u_fl_X5_19)) (fun _ h9 => h9) rfl (tyX5_ok 2 (by decide)) rfl rfl (Nat.le_of_ble_eq_true rfl) dX5_blame_2 (fun H locs hP hD hS => ?_)
  have hP : va_P g.1 vwCl [oX5 q_t Q_t (F_t 1 0) x1 (F_t 3 0) (F_t 4 0) (F_t 5 0)] H := hP
  have hD : va_D A [oX5 q_t Q_t (F_t 1 0) x1 (F_t 3 0) (F_t 4 0) (F_t 5 0)] := hD
  refine lv_aload_n hx hb dX5_blame_5 rfl (lv_at hl 0 rfl) ?_
  refine lv_iload_n hx hb dX5_blame_6 rfl (lv_at hl 2 rfl) ?_
  refine va_put (ci := 5) (v := .int x2) (ty := .int) (C := RX5) (T := TX5) (N := 6) hx hb hts (fun w h => .tail _ (u_inX5 w h)) tyX5 tyX5_ok nmX5 hown hK.1 hP hD hS 0 rfl rfl 3 (by decide) (hts _ (.tail _ u_fl_X5_22)) (fun _ h9 => h9) rfl (tyX5_ok 3 (by decide)) rfl rfl (Nat.le_of_ble_eq_true rfl) dX5_blame_7 (fun H locs hP hD hS => ?_)
  have hP : va_P g.1 vwCl [oX5 q_t Q_t (F_t 1 0) x1 x2 (F_t 4 0) (F_t 5 0)] H := hP
  have hD : va_D A [oX5 q_t Q_t (F_t 1 0) x1 x2 (F_t 4 0) (F_t 5 0)] := hD
  obtain rfl := Option.some.inj h
  exact k_vret hx hb hr hlk hP hD hS dX5_blame_10
set_option maxRecDepth 100000 in
theorem c_X5_blame (l : Launch) (g : gG) (q_t : Nat) (Q_t : Ad) (F_t : St) (x1 : Int32) (x2 : Int32) (o : Int32 × Int32) (h : x_X5_blame F_t x1 x2 = some o) (sz : Nat) : MetV l yX5_blame (.code yX5_blame cX5_blame 3 none :: gW) 0 0 [.ref q_t, .int x1, .int x2] g [oX5 q_t Q_t (F_t 1 0) (F_t 2 0) (F_t 3 0) (F_t 4 0) (F_t 5 0)] [oX5 q_t Q_t (F_t 1 0) o.1 o.2 (F_t 4 0) (F_t 5 0)] sz :=
  mkV (av := [.ref q_t, .int x1, .int x2]) (by decide +kernel) rfl (fun p e s m below meth c A E H locs ls hP hD hS hl => t_X5_blame E q_t Q_t F_t x1 x2 o h H locs ls hP hD hS hl) sz
def x_X5_skipBlanks_b0 (N : Nat) (F_t : St) : Option ((Int32) ⊕ (Int32)) :=
  if (F_t 1 0) ≤ (F_t 4 0) then (some (.inr (F_t 4 0))) else (Option.bind (x_X5_current F_t) (fun v_2 => if v_2 = (32 : Int32) then (xl ((F_t 4 0) + (1 : Int32)) (fun y_4 => some (.inl y_4))) else (some (.inr (F_t 4 0)))))
set_option maxHeartbeats 4000000 in
set_option maxRecDepth 100000 in
theorem t_X5_skipBlanks_b0 {p : Program} {l : Launch} {e : Env} {s : State} {m : MethodId} {args : Array Value} {below : List Frame} {meth : Method} {c : Code} {g : gG} {A : Nat → Prop} {Q : State → Prop} (E : En p s m args meth c g A cX5_skipBlanks 1 (.code yX5_skipBlanks cX5_skipBlanks 1 none :: gW) RX5 none) (q_t : Nat) (Q_t : Ad) (N : Nat) (F_t : St) (o : (Int32) ⊕ (Int32)) (h : x_X5_skipBlanks_b0 N F_t = some o) (hc : ∀ z, o = .inl z → WA p l e (rM 1 20) s m args below meth c g A Q 1 0 [oX5 q_t Q_t (F_t 1 0) (F_t 2 0) (F_t 3 0) z (F_t 5 0), ia g (Q_t 0) 240 (F_t 0)] [(0, .ref q_t)] []) (he : ∀ v, o = .inr v → WA p l e (rM 1 20) s m args below meth c g A Q 1 33 [oX5 q_t Q_t (F_t 1 0) (F_t 2 0) (F_t 3 0) v (F_t 5 0), ia g (Q_t 0) 240 (F_t 0)] [] []) : WA p l e (rM 1 20) s m args below meth c g A Q 1 0 [oX5 q_t Q_t (F_t 1 0) (F_t 2 0) (F_t 3 0) (F_t 4 0) (F_t 5 0), ia g (Q_t 0) 240 (F_t 0)] [(0, .ref q_t)] [] := by
  obtain ⟨⟨hx, hb, hml, hown, hts⟩, hr, hK, hA, hlk⟩ := id E
  intro H locs ls hP hD hS hl
  refine lv_aload_n hx hb dX5_skipBlanks_0 rfl (lv_at hl 0 rfl) ?_
  refine va_get (ci := 5) (v := .int (F_t 4 0)) (C := RX5) (T := TX5) (N := 6) hx hb hts (fun w h => .tail _ (u_inX5 w h)) hown hK.1 hP 0 rfl rfl 4 (by decide) (hts _ (.tail _ u_fl_X5_25)) (fun _ h9 => h9) rfl dX5_skipBlanks_1 ?_
  refine lv_aload_n hx hb dX5_skipBlanks_4 rfl (lv_at hl 0 rfl) ?_
  refine va_get (ci := 5) (v := .int (F_t 1 0)) (C := RX5) (T := TX5) (N := 6) hx hb hts (fun w h => .tail _ (u_inX5 w h)) hown hK.1 hP 0 rfl rfl 1 (by decide) (hts _ (.tail _ u_fl_X5_15)) (fun _ h9 => h9) rfl dX5_skipBlanks_5 ?_
  refine lv_icmp_ge (tgt := 33) hx hb dX5_skipBlanks_8 (by decide) (fun c_1 => ?_) (fun c_1 => ?_)
  · have h := ox_t c_1 h
    obtain rfl := Option.some.inj h
    exact he _ rfl H locs ls hP hD hS (lv_sub hl [] rfl)
  · have h := ox_f c_1 h
    refine lv_aload_n hx hb dX5_skipBlanks_11 rfl (lv_at hl 0 rfl) ?_
    obtain ⟨v_2, hv_2, h⟩ := ox_bind h
    refine kVi ⟨hx, hb, hml, hown, hts⟩ (c_X5_current l g q_t Q_t F_t v_2 hv_2 H.size) (gV u_ml_X5_43 u_im_X5_current u_se_X5_current u_ini_X5 u_co_X5_current) hd_X5_current ⟨rfl, rfl⟩ hK hP hD hS hA 0 5 rfl rfl [0, 1] [0, 1] rfl rfl 2 rfl (w2 := [oX5 q_t Q_t (F_t 1 0) (F_t 2 0) (F_t 3 0) (F_t 4 0) (F_t 5 0), ia g (Q_t 0) 240 (F_t 0)]) rfl rfl (As := []) (rest := []) rfl hl.1 rfl rfl dX5_skipBlanks_12 (fun H locs hP hD hS => ?_)
    refine lv_bipush (v := (32 : Int32)) hx hb dX5_skipBlanks_15 (by decide) ?_
    refine lv_icmp_ne (tgt := 33) hx hb dX5_skipBlanks_17 (by decide) (fun c_3 => ?_) (fun c_3 => ?_)
    · have h := ox_f c_3 h
      obtain rfl := Option.some.inj h
      exact he _ rfl H locs ls hP hD hS (lv_sub hl [] rfl)
    · have h := ox_t c_3 h
      refine lv_aload_n hx hb dX5_skipBlanks_20 rfl (lv_at hl 0 rfl) ?_
      refine lv_dup hx hb dX5_skipBlanks_21 rfl ?_
      refine va_get (ci := 5) (v := .int (F_t 4 0)) (C := RX5) (T := TX5) (N := 6) hx hb hts (fun w h => .tail _ (u_inX5 w h)) hown hK.1 hP 0 rfl rfl 4 (by decide) (hts _ (.tail _ u_fl_X5_25)) (fun _ h9 => h9) rfl dX5_skipBlanks_22 ?_
      refine lv_iconst (v := (1 : Int32)) hx hb dX5_skipBlanks_25 (by decide) ?_
      refine lv_iadd hx hb dX5_skipBlanks_26 ?_
      refine lv_topi (fun y_4 ey_4 => ?_)
      have h := xl_at ey_4 h
      refine va_put (ci := 5) (v := .int y_4) (ty := .int) (C := RX5) (T := TX5) (N := 6) hx hb hts (fun w h => .tail _ (u_inX5 w h)) tyX5 tyX5_ok nmX5 hown hK.1 hP hD hS 0 rfl rfl 4 (by decide) (hts _ (.tail _ u_fl_X5_25)) (fun _ h9 => h9) rfl (tyX5_ok 4 (by decide)) rfl rfl (Nat.le_of_ble_eq_true rfl) dX5_skipBlanks_27 (fun H locs hP hD hS => ?_)
      have hP : va_P g.1 vwCl [oX5 q_t Q_t (F_t 1 0) (F_t 2 0) (F_t 3 0) y_4 (F_t 5 0), ia g (Q_t 0) 240 (F_t 0)] H := hP
      have hD : va_D A [oX5 q_t Q_t (F_t 1 0) (F_t 2 0) (F_t 3 0) y_4 (F_t 5 0), ia g (Q_t 0) 240 (F_t 0)] := hD
      refine lv_goto (tgt := 0) hx hb dX5_skipBlanks_30 (by decide) ?_
      obtain rfl := Option.some.inj h
      exact hc _ rfl H locs ls hP hD hS hl
def x_X5_skipBlanks (N : Nat) (F_t : St) : Option (Int32) :=
  Option.bind (lpc (fun (z : Int32) => x_X5_skipBlanks_b0 N (va_up F_t 4 (fun _ => z))) N (F_t 4 0)) (fun v_5 => some v_5)
set_option maxHeartbeats 4000000 in
set_option maxRecDepth 100000 in
theorem t_X5_skipBlanks {p : Program} {l : Launch} {e : Env} {s : State} {m : MethodId} {args : Array Value} {below : List Frame} {meth : Method} {c : Code} {g : gG} {A : Nat → Prop} (E : En p s m args meth c g A cX5_skipBlanks 1 (.code yX5_skipBlanks cX5_skipBlanks 1 none :: gW) RX5 none) (q_t : Nat) (Q_t : Ad) (N : Nat) (F_t : St) (o : Int32) (h : x_X5_skipBlanks N F_t = some o) : WA p l e (rM 1 20) s m args below meth c g A (MQ below (QV g A [oX5 q_t Q_t (F_t 1 0) (F_t 2 0) (F_t 3 0) o (F_t 5 0), ia g (Q_t 0) 240 (F_t 0)]) args s 0 0 A) 1 0 [oX5 q_t Q_t (F_t 1 0) (F_t 2 0) (F_t 3 0) (F_t 4 0) (F_t 5 0), ia g (Q_t 0) 240 (F_t 0)] [(0, .ref q_t)] [] := by
  obtain ⟨⟨hx, hb, hml, hown, hts⟩, hr, hK, hA, hlk⟩ := id E
  intro H locs ls hP hD hS hl
  obtain ⟨v_5, hv_5, h⟩ := ox_bind h
  refine lpc_W (Wh := fun (z : Int32) => WA p l e (rM 1 20) s m args below meth c g A (MQ below (QV g A [oX5 q_t Q_t (F_t 1 0) (F_t 2 0) (F_t 3 0) o (F_t 5 0), ia g (Q_t 0) 240 (F_t 0)]) args s 0 0 A) 1 0 [oX5 q_t Q_t (F_t 1 0) (F_t 2 0) (F_t 3 0) z (F_t 5 0), ia g (Q_t 0) 240 (F_t 0)] [(0, .ref q_t)] []) (We := fun (v : Int32) => WA p l e (rM 1 20) s m args below meth c g A (MQ below (QV g A [oX5 q_t Q_t (F_t 1 0) (F_t 2 0) (F_t 3 0) o (F_t 5 0), ia g (Q_t 0) 240 (F_t 0)]) args s 0 0 A) 1 33 [oX5 q_t Q_t (F_t 1 0) (F_t 2 0) (F_t 3 0) v (F_t 5 0), ia g (Q_t 0) 240 (F_t 0)] [] []) (fun z r hb hc he => t_X5_skipBlanks_b0 E q_t Q_t N (va_up F_t 4 (fun _ => z)) r hb hc he) N (F_t 4 0) v_5 hv_5 ?_ H locs ls hP hD hS hl
  intro H locs ls hP hD hS hl
  obtain rfl := Option.some.inj h
  exact k_vret hx hb hr hlk hP hD hS dX5_skipBlanks_33
set_option maxRecDepth 100000 in
theorem c_X5_skipBlanks (l : Launch) (g : gG) (q_t : Nat) (Q_t : Ad) (N : Nat) (F_t : St) (o : Int32) (h : x_X5_skipBlanks N F_t = some o) (sz : Nat) : MetV l yX5_skipBlanks (.code yX5_skipBlanks cX5_skipBlanks 1 none :: gW) 1 20 [.ref q_t] g [oX5 q_t Q_t (F_t 1 0) (F_t 2 0) (F_t 3 0) (F_t 4 0) (F_t 5 0), ia g (Q_t 0) 240 (F_t 0)] [oX5 q_t Q_t (F_t 1 0) (F_t 2 0) (F_t 3 0) o (F_t 5 0), ia g (Q_t 0) 240 (F_t 0)] sz :=
  mkV (av := [.ref q_t]) (by decide +kernel) rfl (fun p e s m below meth c A E H locs ls hP hD hS hl => t_X5_skipBlanks E q_t Q_t N F_t o h H locs ls hP hD hS hl) sz
def x_X5_closes (N : Nat) (F_t : St) : Option (Int32 × Int32 × Int32 × Int32) :=
  if (F_t 2 0) = 0 then (Option.bind (x_X5_skipBlanks N F_t) (fun v_2 => Option.bind (x_X5_current (va_up F_t 4 (fun _ => v_2))) (fun v_3 => if v_3 = (59 : Int32) then (xl (v_2 + (1 : Int32)) (fun y_5 => some ((1 : Int32), (F_t 2 0), (F_t 3 0), y_5))) else (Option.bind (x_X5_blame (va_up F_t 4 (fun _ => v_2)) (1 : Int32) v_2) (fun v_6 => some ((0 : Int32), v_6.1, v_6.2, v_2)))))) else (some ((0 : Int32), (F_t 2 0), (F_t 3 0), (F_t 4 0)))
set_option maxHeartbeats 4000000 in
set_option maxRecDepth 100000 in
theorem t_X5_closes {p : Program} {l : Launch} {e : Env} {s : State} {m : MethodId} {args : Array Value} {below : List Frame} {meth : Method} {c : Code} {g : gG} {A : Nat → Prop} (E : En p s m args meth c g A cX5_closes 1 (.code yX5_closes cX5_closes 1 (some .boolean) :: gW) RX5 (some .boolean)) (q_t : Nat) (Q_t : Ad) (N : Nat) (F_t : St) (o : Int32 × Int32 × Int32 × Int32) (h : x_X5_closes N F_t = some o) : WA p l e (rM 2 40) s m args below meth c g A (MQ below (QI g A o.1 [oX5 q_t Q_t (F_t 1 0) o.2.1 o.2.2.1 o.2.2.2 (F_t 5 0), ia g (Q_t 0) 240 (F_t 0)]) args s 0 0 A) 1 0 [oX5 q_t Q_t (F_t 1 0) (F_t 2 0) (F_t 3 0) (F_t 4 0) (F_t 5 0), ia g (Q_t 0) 240 (F_t 0)] [(0, .ref q_t)] [] := by
  obtain ⟨⟨hx, hb, hml, hown, hts⟩, hr, hK, hA, hlk⟩ := id E
  intro H locs ls hP hD hS hl
  refine lv_aload_n hx hb dX5_closes_0 rfl (lv_at hl 0 rfl) ?_
  refine va_get (ci := 5) (v := .int (F_t 2 0)) (C := RX5) (T := TX5) (N := 6) hx hb hts (fun w h => .tail _ (u_inX5 w h)) hown hK.1 hP 0 rfl rfl 2 (by decide) (hts _ (.tail _ u_fl_X5_19)) (fun _ h9 => h9) rfl dX5_closes_1 ?_
  refine lv_if_eq (tgt := 9) hx hb dX5_closes_4 (by decide) (fun c_1 => ?_) (fun c_1 => ?_)
  · have h := ox_t c_1 h
    refine lv_aload_n hx hb dX5_closes_9 rfl (lv_at hl 0 rfl) ?_
    obtain ⟨v_2, hv_2, h⟩ := ox_bind h
    refine kVv ⟨hx, hb, hml, hown, hts⟩ (c_X5_skipBlanks l g q_t Q_t N F_t v_2 hv_2 H.size) (gV u_ml_X5_36 u_im_X5_skipBlanks u_se_X5_skipBlanks u_ini_X5 u_co_X5_skipBlanks) hd_X5_skipBlanks ⟨rfl, rfl⟩ hK hP hD hS hA 0 5 rfl rfl [0, 1] [0, 1] rfl rfl 2 rfl (w2 := [oX5 q_t Q_t (F_t 1 0) (F_t 2 0) (F_t 3 0) v_2 (F_t 5 0), ia g (Q_t 0) 240 (F_t 0)]) rfl rfl (As := []) (rest := []) rfl hl.1 rfl rfl dX5_closes_10 (fun H locs hP hD hS => ?_)
    refine lv_aload_n hx hb dX5_closes_13 rfl (lv_at hl 0 rfl) ?_
    obtain ⟨v_3, hv_3, h⟩ := ox_bind h
    refine kVi ⟨hx, hb, hml, hown, hts⟩ (c_X5_current l g q_t Q_t (va_up F_t 4 (fun _ => v_2)) v_3 hv_3 H.size) (gV u_ml_X5_43 u_im_X5_current u_se_X5_current u_ini_X5 u_co_X5_current) hd_X5_current ⟨rfl, rfl⟩ hK hP hD hS hA 0 5 rfl rfl [0, 1] [0, 1] rfl rfl 2 rfl (w2 := [oX5 q_t Q_t (F_t 1 0) (F_t 2 0) (F_t 3 0) v_2 (F_t 5 0), ia g (Q_t 0) 240 (F_t 0)]) rfl rfl (As := []) (rest := []) rfl hl.1 rfl rfl dX5_closes_14 (fun H locs hP hD hS => ?_)
    refine lv_bipush (v := (59 : Int32)) hx hb dX5_closes_17 (by decide) ?_
    refine lv_icmp_eq (tgt := 33) hx hb dX5_closes_19 (by decide) (fun c_4 => ?_) (fun c_4 => ?_)
    · have h := ox_t c_4 h
      refine lv_aload_n hx hb dX5_closes_33 rfl (lv_at hl 0 rfl) ?_
      refine lv_dup hx hb dX5_closes_34 rfl ?_
      refine va_get (ci := 5) (v := .int v_2) (C := RX5) (T := TX5) (N := 6) hx hb hts (fun w h => .tail _ (u_inX5 w h)) hown hK.1 hP 0 rfl rfl 4 (by decide) (hts _ (.tail _ u_fl_X5_25)) (fun _ h9 => h9) rfl dX5_closes_35 ?_
      refine lv_iconst (v := (1 : Int32)) hx hb dX5_closes_38 (by decide) ?_
      refine lv_iadd hx hb dX5_closes_39 ?_
      refine lv_topi (fun y_5 ey_5 => ?_)
      have h := xl_at ey_5 h
      refine va_put (ci := 5) (v := .int y_5) (ty := .int) (C := RX5) (T := TX5) (N := 6) hx hb hts (fun w h => .tail _ (u_inX5 w h)) tyX5 tyX5_ok nmX5 hown hK.1 hP hD hS 0 rfl rfl 4 (by decide) (hts _ (.tail _ u_fl_X5_25)) (fun _ h9 => h9) rfl (tyX5_ok 4 (by decide)) rfl rfl (Nat.le_of_ble_eq_true rfl) dX5_closes_40 (fun H locs hP hD hS => ?_)
      have hP : va_P g.1 vwCl [oX5 q_t Q_t (F_t 1 0) (F_t 2 0) (F_t 3 0) y_5 (F_t 5 0), ia g (Q_t 0) 240 (F_t 0)] H := hP
      have hD : va_D A [oX5 q_t Q_t (F_t 1 0) (F_t 2 0) (F_t 3 0) y_5 (F_t 5 0), ia g (Q_t 0) 240 (F_t 0)] := hD
      refine lv_iconst (v := (1 : Int32)) hx hb dX5_closes_43 (by decide) ?_
      obtain rfl := Option.some.inj h
      exact k_zret hx hb hr hlk (.inr rfl) hP hD hS dX5_closes_44
    · have h := ox_f c_4 h
      refine lv_aload_n hx hb dX5_closes_22 rfl (lv_at hl 0 rfl) ?_
      refine lv_iconst (v := (1 : Int32)) hx hb dX5_closes_23 (by decide) ?_
      refine lv_aload_n hx hb dX5_closes_24 rfl (lv_at hl 0 rfl) ?_
      refine va_get (ci := 5) (v := .int v_2) (C := RX5) (T := TX5) (N := 6) hx hb hts (fun w h => .tail _ (u_inX5 w h)) hown hK.1 hP 0 rfl rfl 4 (by decide) (hts _ (.tail _ u_fl_X5_25)) (fun _ h9 => h9) rfl dX5_closes_25 ?_
      obtain ⟨v_6, hv_6, h⟩ := ox_bind h
      refine kVv ⟨hx, hb, hml, hown, hts⟩ (c_X5_blame l g q_t Q_t (va_up F_t 4 (fun _ => v_2)) (1 : Int32) v_2 v_6 hv_6 H.size) (gV u_ml_X5_50 u_im_X5_blame u_se_X5_blame u_ini_X5 u_co_X5_blame) hd_X5_blame ⟨rfl, rfl⟩ hK hP hD hS hA 0 5 rfl rfl [0] [0, 2] rfl rfl 1 rfl (w2 := [oX5 q_t Q_t (F_t 1 0) v_6.1 v_6.2 v_2 (F_t 5 0), ia g (Q_t 0) 240 (F_t 0)]) rfl rfl (As := [.int (1 : Int32), .int v_2]) (rest := []) rfl hl.1 rfl rfl dX5_closes_28 (fun H locs hP hD hS => ?_)
      refine lv_iconst (v := (0 : Int32)) hx hb dX5_closes_31 (by decide) ?_
      obtain rfl := Option.some.inj h
      exact k_zret hx hb hr hlk (.inl rfl) hP hD hS dX5_closes_32
  · have h := ox_f c_1 h
    refine lv_iconst (v := (0 : Int32)) hx hb dX5_closes_7 (by decide) ?_
    obtain rfl := Option.some.inj h
    exact k_zret hx hb hr hlk (.inl rfl) hP hD hS dX5_closes_8
set_option maxRecDepth 100000 in
theorem c_X5_closes (l : Launch) (g : gG) (q_t : Nat) (Q_t : Ad) (N : Nat) (F_t : St) (o : Int32 × Int32 × Int32 × Int32) (h : x_X5_closes N F_t = some o) (sz : Nat) : MetI l yX5_closes (.code yX5_closes cX5_closes 1 (some .boolean) :: gW) 2 40 [.ref q_t] o.1 g [oX5 q_t Q_t (F_t 1 0) (F_t 2 0) (F_t 3 0) (F_t 4 0) (F_t 5 0), ia g (Q_t 0) 240 (F_t 0)] [oX5 q_t Q_t (F_t 1 0) o.2.1 o.2.2.1 o.2.2.2 (F_t 5 0), ia g (Q_t 0) 240 (F_t 0)] sz :=
  mkI (av := [.ref q_t]) (by decide +kernel) rfl (fun p e s m below meth c A E H locs ls hP hD hS hl => t_X5_closes E q_t Q_t N F_t o h H locs ls hP hD hS hl) sz
def x_X5_number_k127 (N : Nat) (F_t : St) (x3 : Int32) : Option (Int32 × Int32 × Int32 × Int32 × Int32) :=
  Option.bind (x_X5_blame F_t (2 : Int32) (F_t 5 0)) (fun v_1 => some (x3, v_1.1, v_1.2, (F_t 4 0), (F_t 5 0)))
set_option maxHeartbeats 4000000 in
set_option maxRecDepth 100000 in
theorem t_X5_number_k127 {p : Program} {l : Launch} {e : Env} {s : State} {m : MethodId} {args : Array Value} {below : List Frame} {meth : Method} {c : Code} {g : gG} {A : Nat → Prop} (E : En p s m args meth c g A cX5_number 5 (.code yX5_number cX5_number 5 (some .int) :: gW) RX5 (some .int)) (q_t : Nat) (Q_t : Ad) (N : Nat) (F_t : St) (x3 : Int32) (o : Int32 × Int32 × Int32 × Int32 × Int32) (h : x_X5_number_k127 N F_t x3 = some o) : WA p l e (rM 2 40) s m args below meth c g A (MQ below (QI g A o.1 [oX5 q_t Q_t (F_t 1 0) o.2.1 o.2.2.1 o.2.2.2.1 o.2.2.2.2, ia g (Q_t 0) 240 (F_t 0)]) args s 0 0 A) 5 127 [oX5 q_t Q_t (F_t 1 0) (F_t 2 0) (F_t 3 0) (F_t 4 0) (F_t 5 0), ia g (Q_t 0) 240 (F_t 0)] [(0, .ref q_t), (3, .int x3)] [] := by
  obtain ⟨⟨hx, hb, hml, hown, hts⟩, hr, hK, hA, hlk⟩ := id E
  intro H locs ls hP hD hS hl
  refine lv_aload_n hx hb dX5_number_127 rfl (lv_at hl 0 rfl) ?_
  refine lv_iconst (v := (2 : Int32)) hx hb dX5_number_128 (by decide) ?_
  refine lv_aload_n hx hb dX5_number_129 rfl (lv_at hl 0 rfl) ?_
  refine va_get (ci := 5) (v := .int (F_t 5 0)) (C := RX5) (T := TX5) (N := 6) hx hb hts (fun w h => .tail _ (u_inX5 w h)) hown hK.1 hP 0 rfl rfl 5 (by decide) (hts _ (.tail _ u_fl_X5_28)) (fun _ h9 => h9) rfl dX5_number_130 ?_
  obtain ⟨v_1, hv_1, h⟩ := ox_bind h
  refine kVv ⟨hx, hb, hml, hown, hts⟩ (c_X5_blame l g q_t Q_t F_t (2 : Int32) (F_t 5 0) v_1 hv_1 H.size) (gV u_ml_X5_50 u_im_X5_blame u_se_X5_blame u_ini_X5 u_co_X5_blame) hd_X5_blame ⟨rfl, rfl⟩ hK hP hD hS hA 0 5 rfl rfl [0] [0, 2] rfl rfl 1 rfl (w2 := [oX5 q_t Q_t (F_t 1 0) v_1.1 v_1.2 (F_t 4 0) (F_t 5 0), ia g (Q_t 0) 240 (F_t 0)]) rfl rfl (As := [.int (2 : Int32), .int (F_t 5 0)]) (rest := []) rfl hl.1 rfl rfl dX5_number_133 (fun H locs hP hD hS => ?_)
  refine lv_iload_n hx hb dX5_number_136 rfl (lv_at hl 1 rfl) ?_
  obtain rfl := Option.some.inj h
  exact k_iret hx hb hr hlk hP hD hS dX5_number_137
def x_X5_number_b23_k70 (N : Nat) (F_t : St) (x1 : Int32) (x2 : Int32) (x3 : Int32) : Option ((Int32 × Int32) ⊕ (Int32 × Int32)) :=
  xl ((F_t 4 0) + (1 : Int32)) (fun y_4 => some (.inl (x3, y_4)))
set_option maxHeartbeats 4000000 in
set_option maxRecDepth 100000 in
theorem t_X5_number_b23_k70 {p : Program} {l : Launch} {e : Env} {s : State} {m : MethodId} {args : Array Value} {below : List Frame} {meth : Method} {c : Code} {g : gG} {A : Nat → Prop} {Q : State → Prop} (E : En p s m args meth c g A cX5_number 5 (.code yX5_number cX5_number 5 (some .int) :: gW) RX5 (some .int)) (q_t : Nat) (Q_t : Ad) (N : Nat) (F_t : St) (x1 : Int32) (x2 : Int32) (x3 : Int32) (o : (Int32 × Int32) ⊕ (Int32 × Int32)) (h : x_X5_number_b23_k70 N F_t x1 x2 x3 = some o) (hc : ∀ z, o = .inl z → WA p l e (rM 2 40) s m args below meth c g A Q 5 23 [oX5 q_t Q_t (F_t 1 0) (F_t 2 0) (F_t 3 0) z.2 (F_t 5 0), ia g (Q_t 0) 240 (F_t 0)] [(0, .ref q_t), (1, .int x1), (2, .int x2), (3, .int z.1)] []) (he : ∀ v, o = .inr v → WA p l e (rM 2 40) s m args below meth c g A Q 5 83 [oX5 q_t Q_t (F_t 1 0) (F_t 2 0) (F_t 3 0) v.2 (F_t 5 0), ia g (Q_t 0) 240 (F_t 0)] [(0, .ref q_t), (1, .int x1), (2, .int x2), (3, .int v.1)] []) : WA p l e (rM 2 40) s m args below meth c g A Q 5 70 [oX5 q_t Q_t (F_t 1 0) (F_t 2 0) (F_t 3 0) (F_t 4 0) (F_t 5 0), ia g (Q_t 0) 240 (F_t 0)] [(0, .ref q_t), (1, .int x1), (2, .int x2), (3, .int x3)] [] := by
  obtain ⟨⟨hx, hb, hml, hown, hts⟩, hr, hK, hA, hlk⟩ := id E
  intro H locs ls hP hD hS hl
  refine lv_aload_n hx hb dX5_number_70 rfl (lv_at hl 0 rfl) ?_
  refine lv_dup hx hb dX5_number_71 rfl ?_
  refine va_get (ci := 5) (v := .int (F_t 4 0)) (C := RX5) (T := TX5) (N := 6) hx hb hts (fun w h => .tail _ (u_inX5 w h)) hown hK.1 hP 0 rfl rfl 4 (by decide) (hts _ (.tail _ u_fl_X5_25)) (fun _ h9 => h9) rfl dX5_number_72 ?_
  refine lv_iconst (v := (1 : Int32)) hx hb dX5_number_75 (by decide) ?_
  refine lv_iadd hx hb dX5_number_76 ?_
  refine lv_topi (fun y_4 ey_4 => ?_)
  have h := xl_at ey_4 h
  refine va_put (ci := 5) (v := .int y_4) (ty := .int) (C := RX5) (T := TX5) (N := 6) hx hb hts (fun w h => .tail _ (u_inX5 w h)) tyX5 tyX5_ok nmX5 hown hK.1 hP hD hS 0 rfl rfl 4 (by decide) (hts _ (.tail _ u_fl_X5_25)) (fun _ h9 => h9) rfl (tyX5_ok 4 (by decide)) rfl rfl (Nat.le_of_ble_eq_true rfl) dX5_number_77 (fun H locs hP hD hS => ?_)
  have hP : va_P g.1 vwCl [oX5 q_t Q_t (F_t 1 0) (F_t 2 0) (F_t 3 0) y_4 (F_t 5 0), ia g (Q_t 0) 240 (F_t 0)] H := hP
  have hD : va_D A [oX5 q_t Q_t (F_t 1 0) (F_t 2 0) (F_t 3 0) y_4 (F_t 5 0), ia g (Q_t 0) 240 (F_t 0)] := hD
  refine lv_goto (tgt := 23) hx hb dX5_number_80 (by decide) ?_
  obtain rfl := Option.some.inj h
  exact hc _ rfl H locs ls hP hD hS hl
def x_X5_number_b23 (N : Nat) (F_t : St) (x1 : Int32) (x2 : Int32) (x3 : Int32) : Option ((Int32 × Int32) ⊕ (Int32 × Int32)) :=
  if (F_t 1 0) ≤ (F_t 4 0) then (some (.inr (x3, (F_t 4 0)))) else (Option.bind (x_X5_current F_t) (fun v_6 => Option.bind (x_X5_isFigure v_6) (fun v_7 => if v_7 = 0 then (some (.inr (x3, (F_t 4 0)))) else (if (3 : Int32) ≤ ((F_t 4 0) - (F_t 5 0)) then (x_X5_number_b23_k70 N F_t x1 x2 x3) else (Option.bind (x_X5_current F_t) (fun v_10 => xl (((x3 * (10 : Int32)) + v_10) - (48 : Int32)) (fun y_11 => x_X5_number_b23_k70 N F_t x1 x2 y_11)))))))
set_option maxHeartbeats 4000000 in
set_option maxRecDepth 100000 in
theorem t_X5_number_b23 {p : Program} {l : Launch} {e : Env} {s : State} {m : MethodId} {args : Array Value} {below : List Frame} {meth : Method} {c : Code} {g : gG} {A : Nat → Prop} {Q : State → Prop} (E : En p s m args meth c g A cX5_number 5 (.code yX5_number cX5_number 5 (some .int) :: gW) RX5 (some .int)) (q_t : Nat) (Q_t : Ad) (N : Nat) (F_t : St) (x1 : Int32) (x2 : Int32) (x3 : Int32) (o : (Int32 × Int32) ⊕ (Int32 × Int32)) (h : x_X5_number_b23 N F_t x1 x2 x3 = some o) (hc : ∀ z, o = .inl z → WA p l e (rM 2 40) s m args below meth c g A Q 5 23 [oX5 q_t Q_t (F_t 1 0) (F_t 2 0) (F_t 3 0) z.2 (F_t 5 0), ia g (Q_t 0) 240 (F_t 0)] [(0, .ref q_t), (1, .int x1), (2, .int x2), (3, .int z.1)] []) (he : ∀ v, o = .inr v → WA p l e (rM 2 40) s m args below meth c g A Q 5 83 [oX5 q_t Q_t (F_t 1 0) (F_t 2 0) (F_t 3 0) v.2 (F_t 5 0), ia g (Q_t 0) 240 (F_t 0)] [(0, .ref q_t), (1, .int x1), (2, .int x2), (3, .int v.1)] []) : WA p l e (rM 2 40) s m args below meth c g A Q 5 23 [oX5 q_t Q_t (F_t 1 0) (F_t 2 0) (F_t 3 0) (F_t 4 0) (F_t 5 0), ia g (Q_t 0) 240 (F_t 0)] [(0, .ref q_t), (1, .int x1), (2, .int x2), (3, .int x3)] [] := by
  obtain ⟨⟨hx, hb, hml, hown, hts⟩, hr, hK, hA, hlk⟩ := id E
  intro H locs ls hP hD hS hl
  refine lv_aload_n hx hb dX5_number_23 rfl (lv_at hl 0 rfl) ?_
  refine va_get (ci := 5) (v := .int (F_t 4 0)) (C := RX5) (T := TX5) (N := 6) hx hb hts (fun w h => .tail _ (u_inX5 w h)) hown hK.1 hP 0 rfl rfl 4 (by decide) (hts _ (.tail _ u_fl_X5_25)) (fun _ h9 => h9) rfl dX5_number_24 ?_
  refine lv_aload_n hx hb dX5_number_27 rfl (lv_at hl 0 rfl) ?_
  refine va_get (ci := 5) (v := .int (F_t 1 0)) (C := RX5) (T := TX5) (N := 6) hx hb hts (fun w h => .tail _ (u_inX5 w h)) hown hK.1 hP 0 rfl rfl 1 (by decide) (hts _ (.tail _ u_fl_X5_15)) (fun _ h9 => h9) rfl dX5_number_28 ?_
  refine lv_icmp_ge (tgt := 83) hx hb dX5_number_31 (by decide) (fun c_5 => ?_) (fun c_5 => ?_)
  · have h := ox_t c_5 h
    obtain rfl := Option.some.inj h
    exact he _ rfl H locs ls hP hD hS hl
  · have h := ox_f c_5 h
    refine lv_aload_n hx hb dX5_number_34 rfl (lv_at hl 0 rfl) ?_
    obtain ⟨v_6, hv_6, h⟩ := ox_bind h
    refine kVi ⟨hx, hb, hml, hown, hts⟩ (c_X5_current l g q_t Q_t F_t v_6 hv_6 H.size) (gV u_ml_X5_43 u_im_X5_current u_se_X5_current u_ini_X5 u_co_X5_current) hd_X5_current ⟨rfl, rfl⟩ hK hP hD hS hA 0 5 rfl rfl [0, 1] [0, 1] rfl rfl 2 rfl (w2 := [oX5 q_t Q_t (F_t 1 0) (F_t 2 0) (F_t 3 0) (F_t 4 0) (F_t 5 0), ia g (Q_t 0) 240 (F_t 0)]) rfl rfl (As := []) (rest := []) rfl hl.1 rfl rfl dX5_number_35 (fun H locs hP hD hS => ?_)
    obtain ⟨v_7, hv_7, h⟩ := ox_bind h
    refine kSi ⟨hx, hb, hml, hown, hts⟩ (c_X5_isFigure l g v_6 v_7 hv_7 H.size) (gS u_ml_X5_92 u_st_X5_isFigure u_ini_X5 u_co_X5_isFigure) hd_X5_isFigure ⟨rfl, rfl⟩ hK hP hD hS hA [] [0, 1] rfl rfl 0 rfl (w2 := [oX5 q_t Q_t (F_t 1 0) (F_t 2 0) (F_t 3 0) (F_t 4 0) (F_t 5 0), ia g (Q_t 0) 240 (F_t 0)]) rfl rfl (As := [.int v_6]) (rest := []) rfl hl.1 rfl rfl dX5_number_38 (fun H locs hP hD hS => ?_)
    refine lv_if_eq (tgt := 83) hx hb dX5_number_41 (by decide) (fun c_8 => ?_) (fun c_8 => ?_)
    · have h := ox_t c_8 h
      obtain rfl := Option.some.inj h
      exact he _ rfl H locs ls hP hD hS hl
    · have h := ox_f c_8 h
      refine lv_aload_n hx hb dX5_number_44 rfl (lv_at hl 0 rfl) ?_
      refine va_get (ci := 5) (v := .int (F_t 4 0)) (C := RX5) (T := TX5) (N := 6) hx hb hts (fun w h => .tail _ (u_inX5 w h)) hown hK.1 hP 0 rfl rfl 4 (by decide) (hts _ (.tail _ u_fl_X5_25)) (fun _ h9 => h9) rfl dX5_number_45 ?_
      refine lv_aload_n hx hb dX5_number_48 rfl (lv_at hl 0 rfl) ?_
      refine va_get (ci := 5) (v := .int (F_t 5 0)) (C := RX5) (T := TX5) (N := 6) hx hb hts (fun w h => .tail _ (u_inX5 w h)) hown hK.1 hP 0 rfl rfl 5 (by decide) (hts _ (.tail _ u_fl_X5_28)) (fun _ h9 => h9) rfl dX5_number_49 ?_
      refine lv_isub hx hb dX5_number_52 ?_
      refine lv_iconst (v := (3 : Int32)) hx hb dX5_number_53 (by decide) ?_
      refine lv_icmp_ge (tgt := 70) hx hb dX5_number_54 (by decide) (fun c_9 => ?_) (fun c_9 => ?_)
      · have h := ox_t c_9 h
        exact t_X5_number_b23_k70 E q_t Q_t N F_t x1 x2 x3 _ h hc he H locs ls hP hD hS hl
      · have h := ox_f c_9 h
        refine lv_iload_n hx hb dX5_number_57 rfl (lv_at hl 3 rfl) ?_
        refine lv_bipush (v := (10 : Int32)) hx hb dX5_number_58 (by decide) ?_
        refine lv_imul hx hb dX5_number_60 ?_
        refine lv_aload_n hx hb dX5_number_61 rfl (lv_at hl 0 rfl) ?_
        obtain ⟨v_10, hv_10, h⟩ := ox_bind h
        refine kVi ⟨hx, hb, hml, hown, hts⟩ (c_X5_current l g q_t Q_t F_t v_10 hv_10 H.size) (gV u_ml_X5_43 u_im_X5_current u_se_X5_current u_ini_X5 u_co_X5_current) hd_X5_current ⟨rfl, rfl⟩ hK hP hD hS hA 0 5 rfl rfl [0, 1] [0, 1] rfl rfl 2 rfl (w2 := [oX5 q_t Q_t (F_t 1 0) (F_t 2 0) (F_t 3 0) (F_t 4 0) (F_t 5 0), ia g (Q_t 0) 240 (F_t 0)]) rfl rfl (As := []) (rest := [.int (x3 * (10 : Int32))]) rfl hl.1 rfl rfl dX5_number_62 (fun H locs hP hD hS => ?_)
        refine lv_iadd hx hb dX5_number_65 ?_
        refine lv_bipush (v := (48 : Int32)) hx hb dX5_number_66 (by decide) ?_
        refine lv_isub hx hb dX5_number_68 ?_
        refine lv_topi (fun y_11 ey_11 => ?_)
        have h := xl_at ey_11 h
        refine lv_istore_n (lv' := [(3, .int y_11), (0, .ref q_t), (1, .int x1), (2, .int x2)]) hx hb dX5_number_69 rfl hl (by decide) rfl (fun ls hl => ?_)
        exact t_X5_number_b23_k70 E q_t Q_t N F_t x1 x2 y_11 _ h hc he H locs ls hP hD hS (lv_sub hl [1, 2, 3, 0] rfl)
def x_X5_number (N : Nat) (F_t : St) (x1 : Int32) (x2 : Int32) : Option (Int32 × Int32 × Int32 × Int32 × Int32) :=
  if (F_t 2 0) = 0 then (Option.bind (x_X5_skipBlanks N F_t) (fun v_3 => Option.bind (lpc (fun (z : Int32 × Int32) => x_X5_number_b23 N (va_up (va_up F_t 4 (fun _ => z.2)) 5 (fun _ => v_3)) x1 x2 z.1) N ((0 : Int32), v_3)) (fun v_12 => xl (v_12.2 - v_3) (fun y_13 => if y_13 = 0 then (Option.bind (x_X5_blame (va_up (va_up F_t 4 (fun _ => v_12.2)) 5 (fun _ => v_3)) (1 : Int32) v_12.2) (fun v_18 => some (v_12.1, v_18.1, v_18.2, v_12.2, v_3))) else (if (3 : Int32) < y_13 then (x_X5_number_k127 N (va_up (va_up F_t 4 (fun _ => v_12.2)) 5 (fun _ => v_3)) v_12.1) else (if v_12.1 < x1 then (x_X5_number_k127 N (va_up (va_up F_t 4 (fun _ => v_12.2)) 5 (fun _ => v_3)) v_12.1) else (if v_12.1 ≤ x2 then (some (v_12.1, (F_t 2 0), (F_t 3 0), v_12.2, v_3)) else (x_X5_number_k127 N (va_up (va_up F_t 4 (fun _ => v_12.2)) 5 (fun _ => v_3)) v_12.1)))))))) else (some ((0 : Int32), (F_t 2 0), (F_t 3 0), (F_t 4 0), (F_t 5 0)))
set_option maxHeartbeats 4000000 in
set_option maxRecDepth 100000 in
theorem t_X5_number {p : Program} {l : Launch} {e : Env} {s : State} {m : MethodId} {args : Array Value} {below : List Frame} {meth : Method} {c : Code} {g : gG} {A : Nat → Prop} (E : En p s m args meth c g A cX5_number 5 (.code yX5_number cX5_number 5 (some .int) :: gW) RX5 (some .int)) (q_t : Nat) (Q_t : Ad) (N : Nat) (F_t : St) (x1 : Int32) (x2 : Int32) (o : Int32 × Int32 × Int32 × Int32 × Int32) (h : x_X5_number N F_t x1 x2 = some o) : WA p l e (rM 2 40) s m args below meth c g A (MQ below (QI g A o.1 [oX5 q_t Q_t (F_t 1 0) o.2.1 o.2.2.1 o.2.2.2.1 o.2.2.2.2, ia g (Q_t 0) 240 (F_t 0)]) args s 0 0 A) 5 0 [oX5 q_t Q_t (F_t 1 0) (F_t 2 0) (F_t 3 0) (F_t 4 0) (F_t 5 0), ia g (Q_t 0) 240 (F_t 0)] [(0, .ref q_t), (1, .int x1), (2, .int x2)] [] := by
  obtain ⟨⟨hx, hb, hml, hown, hts⟩, hr, hK, hA, hlk⟩ := id E
  intro H locs ls hP hD hS hl
  refine lv_aload_n hx hb dX5_number_0 rfl (lv_at hl 0 rfl) ?_
  refine va_get (ci := 5) (v := .int (F_t 2 0)) (C := RX5) (T := TX5) (N := 6) hx hb hts (fun w h => .tail _ (u_inX5 w h)) hown hK.1 hP 0 rfl rfl 2 (by decide) (hts _ (.tail _ u_fl_X5_19)) (fun _ h9 => h9) rfl dX5_number_1 ?_
  refine lv_if_eq (tgt := 9) hx hb dX5_number_4 (by decide) (fun c_2 => ?_) (fun c_2 => ?_)
  · have h := ox_t c_2 h
    refine lv_aload_n hx hb dX5_number_9 rfl (lv_at hl 0 rfl) ?_
    obtain ⟨v_3, hv_3, h⟩ := ox_bind h
    refine kVv ⟨hx, hb, hml, hown, hts⟩ (c_X5_skipBlanks l g q_t Q_t N F_t v_3 hv_3 H.size) (gV u_ml_X5_36 u_im_X5_skipBlanks u_se_X5_skipBlanks u_ini_X5 u_co_X5_skipBlanks) hd_X5_skipBlanks ⟨rfl, rfl⟩ hK hP hD hS hA 0 5 rfl rfl [0, 1] [0, 1] rfl rfl 2 rfl (w2 := [oX5 q_t Q_t (F_t 1 0) (F_t 2 0) (F_t 3 0) v_3 (F_t 5 0), ia g (Q_t 0) 240 (F_t 0)]) rfl rfl (As := []) (rest := []) rfl hl.1 rfl rfl dX5_number_10 (fun H locs hP hD hS => ?_)
    refine lv_aload_n hx hb dX5_number_13 rfl (lv_at hl 0 rfl) ?_
    refine lv_aload_n hx hb dX5_number_14 rfl (lv_at hl 0 rfl) ?_
    refine va_get (ci := 5) (v := .int v_3) (C := RX5) (T := TX5) (N := 6) hx hb hts (fun w h => .tail _ (u_inX5 w h)) hown hK.1 hP 0 rfl rfl 4 (by decide) (hts _ (.tail _ u_fl_X5_25)) (fun _ h9 => h9) rfl dX5_number_15 ?_
    refine va_put (ci := 5) (v := .int v_3) (ty := .int) (C := RX5) (T := TX5) (N := 6) hx hb hts (fun w h => .tail _ (u_inX5 w h)) tyX5 tyX5_ok nmX5 hown hK.1 hP hD hS 0 rfl rfl 5 (by decide) (hts _ (.tail _ u_fl_X5_28)) (fun _ h9 => h9) rfl (tyX5_ok 5 (by decide)) rfl rfl (Nat.le_of_ble_eq_true rfl) dX5_number_18 (fun H locs hP hD hS => ?_)
    have hP : va_P g.1 vwCl [oX5 q_t Q_t (F_t 1 0) (F_t 2 0) (F_t 3 0) v_3 v_3, ia g (Q_t 0) 240 (F_t 0)] H := hP
    have hD : va_D A [oX5 q_t Q_t (F_t 1 0) (F_t 2 0) (F_t 3 0) v_3 v_3, ia g (Q_t 0) 240 (F_t 0)] := hD
    refine lv_iconst (v := (0 : Int32)) hx hb dX5_number_21 (by decide) ?_
    refine lv_istore_n (lv' := [(3, .int (0 : Int32)), (0, .ref q_t), (1, .int x1), (2, .int x2)]) hx hb dX5_number_22 rfl hl (by decide) rfl (fun ls hl => ?_)
    obtain ⟨v_12, hv_12, h⟩ := ox_bind h
    refine lpc_W (Wh := fun (z : Int32 × Int32) => WA p l e (rM 2 40) s m args below meth c g A (MQ below (QI g A o.1 [oX5 q_t Q_t (F_t 1 0) o.2.1 o.2.2.1 o.2.2.2.1 o.2.2.2.2, ia g (Q_t 0) 240 (F_t 0)]) args s 0 0 A) 5 23 [oX5 q_t Q_t (F_t 1 0) (F_t 2 0) (F_t 3 0) z.2 v_3, ia g (Q_t 0) 240 (F_t 0)] [(0, .ref q_t), (1, .int x1), (2, .int x2), (3, .int z.1)] []) (We := fun (v : Int32 × Int32) => WA p l e (rM 2 40) s m args below meth c g A (MQ below (QI g A o.1 [oX5 q_t Q_t (F_t 1 0) o.2.1 o.2.2.1 o.2.2.2.1 o.2.2.2.2, ia g (Q_t 0) 240 (F_t 0)]) args s 0 0 A) 5 83 [oX5 q_t Q_t (F_t 1 0) (F_t 2 0) (F_t 3 0) v.2 v_3, ia g (Q_t 0) 240 (F_t 0)] [(0, .ref q_t), (1, .int x1), (2, .int x2), (3, .int v.1)] []) (fun z r hb hc he => t_X5_number_b23 E q_t Q_t N (va_up (va_up F_t 4 (fun _ => z.2)) 5 (fun _ => v_3)) x1 x2 z.1 r hb hc he) N ((0 : Int32), v_3) v_12 hv_12 ?_ H locs ls hP hD hS (lv_sub hl [1, 2, 3, 0] rfl)
    intro H locs ls hP hD hS hl
    refine lv_aload_n hx hb dX5_number_83 rfl (lv_at hl 0 rfl) ?_
    refine va_get (ci := 5) (v := .int v_12.2) (C := RX5) (T := TX5) (N := 6) hx hb hts (fun w h => .tail _ (u_inX5 w h)) hown hK.1 hP 0 rfl rfl 4 (by decide) (hts _ (.tail _ u_fl_X5_25)) (fun _ h9 => h9) rfl dX5_number_84 ?_
    refine lv_aload_n hx hb dX5_number_87 rfl (lv_at hl 0 rfl) ?_
    refine va_get (ci := 5) (v := .int v_3) (C := RX5) (T := TX5) (N := 6) hx hb hts (fun w h => .tail _ (u_inX5 w h)) hown hK.1 hP 0 rfl rfl 5 (by decide) (hts _ (.tail _ u_fl_X5_28)) (fun _ h9 => h9) rfl dX5_number_88 ?_
    refine lv_isub hx hb dX5_number_91 ?_
    refine lv_topi (fun y_13 ey_13 => ?_)
    have h := xl_at ey_13 h
    refine lv_istore (lv' := [(4, .int y_13), (0, .ref q_t), (1, .int x1), (2, .int x2), (3, .int v_12.1)]) hx hb dX5_number_92 hl (by decide) rfl (fun ls hl => ?_)
    refine lv_iload hx hb dX5_number_94 (lv_at hl 0 rfl) ?_
    refine lv_if_ne (tgt := 111) hx hb dX5_number_96 (by decide) (fun c_14 => ?_) (fun c_14 => ?_)
    · have h := ox_f c_14 h
      refine lv_iload hx hb dX5_number_111 (lv_at hl 0 rfl) ?_
      refine lv_iconst (v := (3 : Int32)) hx hb dX5_number_113 (by decide) ?_
      refine lv_icmp_gt (tgt := 127) hx hb dX5_number_114 (by decide) (fun c_15 => ?_) (fun c_15 => ?_)
      · have h := ox_t c_15 h
        exact t_X5_number_k127 E q_t Q_t N (va_up (va_up F_t 4 (fun _ => v_12.2)) 5 (fun _ => v_3)) v_12.1 _ h H locs ls hP hD hS (lv_sub hl [1, 4] rfl)
      · have h := ox_f c_15 h
        refine lv_iload_n hx hb dX5_number_117 rfl (lv_at hl 4 rfl) ?_
        refine lv_iload_n hx hb dX5_number_118 rfl (lv_at hl 2 rfl) ?_
        refine lv_icmp_lt (tgt := 127) hx hb dX5_number_119 (by decide) (fun c_16 => ?_) (fun c_16 => ?_)
        · have h := ox_t c_16 h
          exact t_X5_number_k127 E q_t Q_t N (va_up (va_up F_t 4 (fun _ => v_12.2)) 5 (fun _ => v_3)) v_12.1 _ h H locs ls hP hD hS (lv_sub hl [1, 4] rfl)
        · have h := ox_f c_16 h
          refine lv_iload_n hx hb dX5_number_122 rfl (lv_at hl 4 rfl) ?_
          refine lv_iload_n hx hb dX5_number_123 rfl (lv_at hl 3 rfl) ?_
          refine lv_icmp_le (tgt := 136) hx hb dX5_number_124 (by decide) (fun c_17 => ?_) (fun c_17 => ?_)
          · have h := ox_t c_17 h
            refine lv_iload_n hx hb dX5_number_136 rfl (lv_at hl 4 rfl) ?_
            obtain rfl := Option.some.inj h
            exact k_iret hx hb hr hlk hP hD hS dX5_number_137
          · have h := ox_f c_17 h
            exact t_X5_number_k127 E q_t Q_t N (va_up (va_up F_t 4 (fun _ => v_12.2)) 5 (fun _ => v_3)) v_12.1 _ h H locs ls hP hD hS (lv_sub hl [1, 4] rfl)
    · have h := ox_t c_14 h
      refine lv_aload_n hx hb dX5_number_99 rfl (lv_at hl 1 rfl) ?_
      refine lv_iconst (v := (1 : Int32)) hx hb dX5_number_100 (by decide) ?_
      refine lv_aload_n hx hb dX5_number_101 rfl (lv_at hl 1 rfl) ?_
      refine va_get (ci := 5) (v := .int v_12.2) (C := RX5) (T := TX5) (N := 6) hx hb hts (fun w h => .tail _ (u_inX5 w h)) hown hK.1 hP 0 rfl rfl 4 (by decide) (hts _ (.tail _ u_fl_X5_25)) (fun _ h9 => h9) rfl dX5_number_102 ?_
      obtain ⟨v_18, hv_18, h⟩ := ox_bind h
      refine kVv ⟨hx, hb, hml, hown, hts⟩ (c_X5_blame l g q_t Q_t (va_up (va_up F_t 4 (fun _ => v_12.2)) 5 (fun _ => v_3)) (1 : Int32) v_12.2 v_18 hv_18 H.size) (gV u_ml_X5_50 u_im_X5_blame u_se_X5_blame u_ini_X5 u_co_X5_blame) hd_X5_blame ⟨rfl, rfl⟩ hK hP hD hS hA 0 5 rfl rfl [0] [0, 2] rfl rfl 1 rfl (w2 := [oX5 q_t Q_t (F_t 1 0) v_18.1 v_18.2 v_12.2 v_3, ia g (Q_t 0) 240 (F_t 0)]) rfl rfl (As := [.int (1 : Int32), .int v_12.2]) (rest := []) rfl hl.1 rfl rfl dX5_number_105 (fun H locs hP hD hS => ?_)
      refine lv_goto (tgt := 136) hx hb dX5_number_108 (by decide) ?_
      refine lv_iload_n hx hb dX5_number_136 rfl (lv_at hl 4 rfl) ?_
      obtain rfl := Option.some.inj h
      exact k_iret hx hb hr hlk hP hD hS dX5_number_137
  · have h := ox_f c_2 h
    refine lv_iconst (v := (0 : Int32)) hx hb dX5_number_7 (by decide) ?_
    obtain rfl := Option.some.inj h
    exact k_iret hx hb hr hlk hP hD hS dX5_number_8
set_option maxRecDepth 100000 in
theorem c_X5_number (l : Launch) (g : gG) (q_t : Nat) (Q_t : Ad) (N : Nat) (F_t : St) (x1 : Int32) (x2 : Int32) (o : Int32 × Int32 × Int32 × Int32 × Int32) (h : x_X5_number N F_t x1 x2 = some o) (sz : Nat) : MetI l yX5_number (.code yX5_number cX5_number 5 (some .int) :: gW) 2 40 [.ref q_t, .int x1, .int x2] o.1 g [oX5 q_t Q_t (F_t 1 0) (F_t 2 0) (F_t 3 0) (F_t 4 0) (F_t 5 0), ia g (Q_t 0) 240 (F_t 0)] [oX5 q_t Q_t (F_t 1 0) o.2.1 o.2.2.1 o.2.2.2.1 o.2.2.2.2, ia g (Q_t 0) 240 (F_t 0)] sz :=
  mkI (av := [.ref q_t, .int x1, .int x2]) (by decide +kernel) rfl (fun p e s m below meth c A E H locs ls hP hD hS hl => t_X5_number E q_t Q_t N F_t x1 x2 o h H locs ls hP hD hS hl) sz
def x_X5_hasRoomFor (F_a2 : St) (x1 : Int32) : Option (Int32) :=
  if x1 = (115 : Int32) then (if (F_a2 0 0) = 0 then (some (1 : Int32)) else (some (0 : Int32))) else (if x1 = (112 : Int32) then (if (8 : Int32) ≤ (F_a2 1 0) then (some (0 : Int32)) else (some (1 : Int32))) else (if (10 : Int32) ≤ (F_a2 2 0) then (some (0 : Int32)) else (some (1 : Int32))))
set_option maxHeartbeats 4000000 in
set_option maxRecDepth 100000 in
theorem t_X5_hasRoomFor {p : Program} {l : Launch} {e : Env} {s : State} {m : MethodId} {args : Array Value} {below : List Frame} {meth : Method} {c : Code} {g : gG} {A : Nat → Prop} (E : En p s m args meth c g A cX5_hasRoomFor 3 (.code yX5_hasRoomFor cX5_hasRoomFor 3 (some .boolean) :: gW) RX5 (some .boolean)) (q_a2 : Nat) (Q_a2 : Ad) (q_t : Nat) (F_a2 : St) (x1 : Int32) (o : Int32) (h : x_X5_hasRoomFor F_a2 x1 = some o) : WA p l e (rM 0 0) s m args below meth c g A (MQ below (QI g A o [oX4 q_a2 Q_a2 (F_a2 0 0) (F_a2 1 0) (F_a2 2 0)]) args s 0 0 A) 3 0 [oX4 q_a2 Q_a2 (F_a2 0 0) (F_a2 1 0) (F_a2 2 0)] [(1, .int x1), (2, .ref q_a2)] [] := by
  obtain ⟨⟨hx, hb, hml, hown, hts⟩, hr, hK, hA, hlk⟩ := id E
  intro H locs ls hP hD hS hl
  refine lv_iload_n hx hb dX5_hasRoomFor_0 rfl (lv_at hl 0 rfl) ?_
  refine lv_bipush (v := (115 : Int32)) hx hb dX5_hasRoomFor_1 (by decide) ?_
  refine lv_icmp_ne (tgt := 19) hx hb dX5_hasRoomFor_3 (by decide) (fun c_1 => ?_) (fun c_1 => ?_)
  · have h := ox_f c_1 h
    refine lv_iload_n hx hb dX5_hasRoomFor_19 rfl (lv_at hl 0 rfl) ?_
    refine lv_bipush (v := (112 : Int32)) hx hb dX5_hasRoomFor_20 (by decide) ?_
    refine lv_icmp_ne (tgt := 42) hx hb dX5_hasRoomFor_22 (by decide) (fun c_2 => ?_) (fun c_2 => ?_)
    · have h := ox_f c_2 h
      refine lv_aload_n hx hb dX5_hasRoomFor_42 rfl (lv_at hl 1 rfl) ?_
      refine va_get (ci := 4) (v := .int (F_a2 2 0)) (C := RX4) (T := TX4) (N := 9) hx hb hts (fun w h => .tail _ (u_inX4 w h)) hown hK.1 hP 0 rfl rfl 2 (by decide) (hts _ (.tail _ u_fl_X5_70)) (fun _ h9 => h9) rfl dX5_hasRoomFor_43 ?_
      refine lv_bipush (v := (10 : Int32)) hx hb dX5_hasRoomFor_46 (by decide) ?_
      refine lv_icmp_ge (tgt := 55) hx hb dX5_hasRoomFor_48 (by decide) (fun c_3 => ?_) (fun c_3 => ?_)
      · have h := ox_t c_3 h
        refine lv_iconst (v := (0 : Int32)) hx hb dX5_hasRoomFor_55 (by decide) ?_
        obtain rfl := Option.some.inj h
        exact k_zret hx hb hr hlk (.inl rfl) hP hD hS dX5_hasRoomFor_56
      · have h := ox_f c_3 h
        refine lv_iconst (v := (1 : Int32)) hx hb dX5_hasRoomFor_51 (by decide) ?_
        refine lv_goto (tgt := 56) hx hb dX5_hasRoomFor_52 (by decide) ?_
        obtain rfl := Option.some.inj h
        exact k_zret hx hb hr hlk (.inr rfl) hP hD hS dX5_hasRoomFor_56
    · have h := ox_t c_2 h
      refine lv_aload_n hx hb dX5_hasRoomFor_25 rfl (lv_at hl 1 rfl) ?_
      refine va_get (ci := 4) (v := .int (F_a2 1 0)) (C := RX4) (T := TX4) (N := 9) hx hb hts (fun w h => .tail _ (u_inX4 w h)) hown hK.1 hP 0 rfl rfl 1 (by decide) (hts _ (.tail _ u_fl_X5_67)) (fun _ h9 => h9) rfl dX5_hasRoomFor_26 ?_
      refine lv_bipush (v := (8 : Int32)) hx hb dX5_hasRoomFor_29 (by decide) ?_
      refine lv_icmp_ge (tgt := 38) hx hb dX5_hasRoomFor_31 (by decide) (fun c_4 => ?_) (fun c_4 => ?_)
      · have h := ox_t c_4 h
        refine lv_iconst (v := (0 : Int32)) hx hb dX5_hasRoomFor_38 (by decide) ?_
        refine lv_goto (tgt := 56) hx hb dX5_hasRoomFor_39 (by decide) ?_
        obtain rfl := Option.some.inj h
        exact k_zret hx hb hr hlk (.inl rfl) hP hD hS dX5_hasRoomFor_56
      · have h := ox_f c_4 h
        refine lv_iconst (v := (1 : Int32)) hx hb dX5_hasRoomFor_34 (by decide) ?_
        refine lv_goto (tgt := 56) hx hb dX5_hasRoomFor_35 (by decide) ?_
        obtain rfl := Option.some.inj h
        exact k_zret hx hb hr hlk (.inr rfl) hP hD hS dX5_hasRoomFor_56
  · have h := ox_t c_1 h
    refine lv_aload_n hx hb dX5_hasRoomFor_6 rfl (lv_at hl 1 rfl) ?_
    refine va_get (ci := 4) (v := .int (F_a2 0 0)) (C := RX4) (T := TX4) (N := 9) hx hb hts (fun w h => .tail _ (u_inX4 w h)) hown hK.1 hP 0 rfl rfl 0 (by decide) (hts _ (.tail _ u_fl_X5_47)) (fun _ h9 => h9) rfl dX5_hasRoomFor_7 ?_
    refine lv_if_ne (tgt := 17) hx hb dX5_hasRoomFor_10 (by decide) (fun c_5 => ?_) (fun c_5 => ?_)
    · have h := ox_f c_5 h
      refine lv_iconst (v := (0 : Int32)) hx hb dX5_hasRoomFor_17 (by decide) ?_
      obtain rfl := Option.some.inj h
      exact k_zret hx hb hr hlk (.inl rfl) hP hD hS dX5_hasRoomFor_18
    · have h := ox_t c_5 h
      refine lv_iconst (v := (1 : Int32)) hx hb dX5_hasRoomFor_13 (by decide) ?_
      refine lv_goto (tgt := 18) hx hb dX5_hasRoomFor_14 (by decide) ?_
      obtain rfl := Option.some.inj h
      exact k_zret hx hb hr hlk (.inr rfl) hP hD hS dX5_hasRoomFor_18
set_option maxRecDepth 100000 in
theorem c_X5_hasRoomFor (l : Launch) (g : gG) (q_a2 : Nat) (Q_a2 : Ad) (q_t : Nat) (F_a2 : St) (x1 : Int32) (o : Int32) (h : x_X5_hasRoomFor F_a2 x1 = some o) (sz : Nat) : MetI l yX5_hasRoomFor (.code yX5_hasRoomFor cX5_hasRoomFor 3 (some .boolean) :: gW) 0 0 [.ref q_t, .int x1, .ref q_a2] o g [oX4 q_a2 Q_a2 (F_a2 0 0) (F_a2 1 0) (F_a2 2 0)] [oX4 q_a2 Q_a2 (F_a2 0 0) (F_a2 1 0) (F_a2 2 0)] sz :=
  mkI (av := [.ref q_t, .int x1, .ref q_a2]) (by decide +kernel) rfl (fun p e s m below meth c A E H locs ls hP hD hS hl => t_X5_hasRoomFor E q_a2 Q_a2 q_t F_a2 x1 o h H locs ls hP hD hS (lv_sub hl [1, 2] rfl)) sz
def x_X5_readRoom (N : Nat) (F_t : St) (F_a1 : St) : Option (Int32 × Int32 × Int32 × Int32 × Int32) :=
  Option.bind (x_X5_number N F_t (1 : Int32) (99 : Int32)) (fun v_1 => Option.bind (x_X5_closes N (va_up (va_up (va_up (va_up F_t 2 (fun _ => v_1.2.1)) 3 (fun _ => v_1.2.2.1)) 4 (fun _ => v_1.2.2.2.1)) 5 (fun _ => v_1.2.2.2.2))) (fun v_2 => if v_2.1 = 0 then (some (v_2.2.1, v_2.2.2.1, v_2.2.2.2, v_1.2.2.2.2, (F_a1 0 0))) else (some (v_2.2.1, v_2.2.2.1, v_2.2.2.2, v_1.2.2.2.2, v_1.1))))
set_option maxHeartbeats 4000000 in
set_option maxRecDepth 100000 in
theorem t_X5_readRoom {p : Program} {l : Launch} {e : Env} {s : State} {m : MethodId} {args : Array Value} {below : List Frame} {meth : Method} {c : Code} {g : gG} {A : Nat → Prop} (E : En p s m args meth c g A cX5_readRoom 3 (.code yX5_readRoom cX5_readRoom 3 none :: gW) RX5 none) (q_t : Nat) (Q_t : Ad) (q_a1 : Nat) (Q_a1 : Ad) (N : Nat) (F_t : St) (F_a1 : St) (o : Int32 × Int32 × Int32 × Int32 × Int32) (h : x_X5_readRoom N F_t F_a1 = some o) : WA p l e (rM 3 64) s m args below meth c g A (MQ below (QV g A [oX5 q_t Q_t (F_t 1 0) o.1 o.2.1 o.2.2.1 o.2.2.2.1, ia g (Q_t 0) 240 (F_t 0), oX4 q_a1 Q_a1 o.2.2.2.2 (F_a1 1 0) (F_a1 2 0)]) args s 0 0 A) 3 0 [oX5 q_t Q_t (F_t 1 0) (F_t 2 0) (F_t 3 0) (F_t 4 0) (F_t 5 0), ia g (Q_t 0) 240 (F_t 0), oX4 q_a1 Q_a1 (F_a1 0 0) (F_a1 1 0) (F_a1 2 0)] [(0, .ref q_t), (1, .ref q_a1)] [] := by
  obtain ⟨⟨hx, hb, hml, hown, hts⟩, hr, hK, hA, hlk⟩ := id E
  intro H locs ls hP hD hS hl
  refine lv_aload_n hx hb dX5_readRoom_0 rfl (lv_at hl 0 rfl) ?_
  refine lv_iconst (v := (1 : Int32)) hx hb dX5_readRoom_1 (by decide) ?_
  refine lv_bipush (v := (99 : Int32)) hx hb dX5_readRoom_2 (by decide) ?_
  obtain ⟨v_1, hv_1, h⟩ := ox_bind h
  refine kVi ⟨hx, hb, hml, hown, hts⟩ (c_X5_number l g q_t Q_t N F_t (1 : Int32) (99 : Int32) v_1 hv_1 H.size) (gV u_ml_X5_73 u_im_X5_number u_se_X5_number u_ini_X5 u_co_X5_number) hd_X5_number ⟨rfl, rfl⟩ hK hP hD hS hA 0 5 rfl rfl [0, 1] [0, 1, 4] rfl rfl 2 rfl (w2 := [oX5 q_t Q_t (F_t 1 0) v_1.2.1 v_1.2.2.1 v_1.2.2.2.1 v_1.2.2.2.2, ia g (Q_t 0) 240 (F_t 0), oX4 q_a1 Q_a1 (F_a1 0 0) (F_a1 1 0) (F_a1 2 0)]) rfl rfl (As := [.int (1 : Int32), .int (99 : Int32)]) (rest := []) rfl hl.1 rfl rfl dX5_readRoom_4 (fun H locs hP hD hS => ?_)
  refine lv_istore_n (lv' := [(2, .int v_1.1), (0, .ref q_t), (1, .ref q_a1)]) hx hb dX5_readRoom_7 rfl hl (by decide) rfl (fun ls hl => ?_)
  refine lv_aload_n hx hb dX5_readRoom_8 rfl (lv_at hl 1 rfl) ?_
  obtain ⟨v_2, hv_2, h⟩ := ox_bind h
  refine kVi ⟨hx, hb, hml, hown, hts⟩ (c_X5_closes l g q_t Q_t N (va_up (va_up (va_up (va_up F_t 2 (fun _ => v_1.2.1)) 3 (fun _ => v_1.2.2.1)) 4 (fun _ => v_1.2.2.2.1)) 5 (fun _ => v_1.2.2.2.2)) v_2 hv_2 H.size) (gV u_ml_X5_77 u_im_X5_closes u_se_X5_closes u_ini_X5 u_co_X5_closes) hd_X5_closes ⟨rfl, rfl⟩ hK hP hD hS hA 0 5 rfl rfl [0, 1] [0, 1, 4] rfl rfl 2 rfl (w2 := [oX5 q_t Q_t (F_t 1 0) v_2.2.1 v_2.2.2.1 v_2.2.2.2 v_1.2.2.2.2, ia g (Q_t 0) 240 (F_t 0), oX4 q_a1 Q_a1 (F_a1 0 0) (F_a1 1 0) (F_a1 2 0)]) rfl rfl (As := []) (rest := []) rfl hl.1 rfl rfl dX5_readRoom_9 (fun H locs hP hD hS => ?_)
  refine lv_if_eq (tgt := 20) hx hb dX5_readRoom_12 (by decide) (fun c_3 => ?_) (fun c_3 => ?_)
  · have h := ox_t c_3 h
    obtain rfl := Option.some.inj h
    exact k_vret hx hb hr hlk hP hD hS dX5_readRoom_20
  · have h := ox_f c_3 h
    refine lv_aload_n hx hb dX5_readRoom_15 rfl (lv_at hl 2 rfl) ?_
    refine lv_iload_n hx hb dX5_readRoom_16 rfl (lv_at hl 0 rfl) ?_
    refine va_put (ci := 4) (v := .int v_1.1) (ty := .int) (C := RX4) (T := TX4) (N := 9) hx hb hts (fun w h => .tail _ (u_inX4 w h)) tyX4 tyX4_ok nmX4 hown hK.1 hP hD hS 2 rfl rfl 0 (by decide) (hts _ (.tail _ u_fl_X5_47)) (fun _ h9 => h9) rfl (tyX4_ok 0 (by decide)) rfl rfl (Nat.le_of_ble_eq_true rfl) dX5_readRoom_17 (fun H locs hP hD hS => ?_)
    have hP : va_P g.1 vwCl [oX5 q_t Q_t (F_t 1 0) v_2.2.1 v_2.2.2.1 v_2.2.2.2 v_1.2.2.2.2, ia g (Q_t 0) 240 (F_t 0), oX4 q_a1 Q_a1 v_1.1 (F_a1 1 0) (F_a1 2 0)] H := hP
    have hD : va_D A [oX5 q_t Q_t (F_t 1 0) v_2.2.1 v_2.2.2.1 v_2.2.2.2 v_1.2.2.2.2, ia g (Q_t 0) 240 (F_t 0), oX4 q_a1 Q_a1 v_1.1 (F_a1 1 0) (F_a1 2 0)] := hD
    obtain rfl := Option.some.inj h
    exact k_vret hx hb hr hlk hP hD hS dX5_readRoom_20
set_option maxRecDepth 100000 in
theorem c_X5_readRoom (l : Launch) (g : gG) (q_t : Nat) (Q_t : Ad) (q_a1 : Nat) (Q_a1 : Ad) (N : Nat) (F_t : St) (F_a1 : St) (o : Int32 × Int32 × Int32 × Int32 × Int32) (h : x_X5_readRoom N F_t F_a1 = some o) (sz : Nat) : MetV l yX5_readRoom (.code yX5_readRoom cX5_readRoom 3 none :: gW) 3 64 [.ref q_t, .ref q_a1] g [oX5 q_t Q_t (F_t 1 0) (F_t 2 0) (F_t 3 0) (F_t 4 0) (F_t 5 0), ia g (Q_t 0) 240 (F_t 0), oX4 q_a1 Q_a1 (F_a1 0 0) (F_a1 1 0) (F_a1 2 0)] [oX5 q_t Q_t (F_t 1 0) o.1 o.2.1 o.2.2.1 o.2.2.2.1, ia g (Q_t 0) 240 (F_t 0), oX4 q_a1 Q_a1 o.2.2.2.2 (F_a1 1 0) (F_a1 2 0)] sz :=
  mkV (av := [.ref q_t, .ref q_a1]) (by decide +kernel) rfl (fun p e s m below meth c A E H locs ls hP hD hS hl => t_X5_readRoom E q_t Q_t q_a1 Q_a1 N F_t F_a1 o h H locs ls hP hD hS hl) sz
def x_X5_readPlace (N : Nat) (F_t : St) (F_a1 : St) : Option (Int32 × Int32 × Int32 × Int32 × Int32 × (Nat → Int32) × (Nat → Int32)) :=
  Option.bind (x_X5_number N F_t (0 : Int32) (3 : Int32)) (fun v_1 => Option.bind (x_X5_number N (va_up (va_up (va_up (va_up F_t 2 (fun _ => v_1.2.1)) 3 (fun _ => v_1.2.2.1)) 4 (fun _ => v_1.2.2.2.1)) 5 (fun _ => v_1.2.2.2.2)) (0 : Int32) (99 : Int32)) (fun v_2 => Option.bind (x_X5_closes N (va_up (va_up (va_up (va_up F_t 2 (fun _ => v_2.2.1)) 3 (fun _ => v_2.2.2.1)) 4 (fun _ => v_2.2.2.2.1)) 5 (fun _ => v_2.2.2.2.2))) (fun v_3 => if v_3.1 = 0 then (some (v_3.2.1, v_3.2.2.1, v_3.2.2.2, v_2.2.2.2.2, (F_a1 1 0), (F_a1 3), (F_a1 4))) else (Option.bind (x_X4_addPlace F_a1 v_1.1 v_2.1) (fun v_5 => some (v_3.2.1, v_3.2.2.1, v_3.2.2.2, v_2.2.2.2.2, v_5.1, v_5.2.1, v_5.2.2))))))
set_option maxHeartbeats 4000000 in
set_option maxRecDepth 100000 in
theorem t_X5_readPlace {p : Program} {l : Launch} {e : Env} {s : State} {m : MethodId} {args : Array Value} {below : List Frame} {meth : Method} {c : Code} {g : gG} {A : Nat → Prop} (E : En p s m args meth c g A cX5_readPlace 4 (.code yX5_readPlace cX5_readPlace 4 none :: gW) RX5 none) (q_t : Nat) (Q_t : Ad) (q_a1 : Nat) (Q_a1 : Ad) (N : Nat) (F_t : St) (F_a1 : St) (o : Int32 × Int32 × Int32 × Int32 × Int32 × (Nat → Int32) × (Nat → Int32)) (h : x_X5_readPlace N F_t F_a1 = some o) : WA p l e (rM 3 64) s m args below meth c g A (MQ below (QV g A [oX5 q_t Q_t (F_t 1 0) o.1 o.2.1 o.2.2.1 o.2.2.2.1, ia g (Q_t 0) 240 (F_t 0), oX4 q_a1 Q_a1 (F_a1 0 0) o.2.2.2.2.1 (F_a1 2 0), ia g (Q_a1 3) 8 o.2.2.2.2.2.1, ia g (Q_a1 4) 8 o.2.2.2.2.2.2]) args s 0 0 A) 4 0 [oX5 q_t Q_t (F_t 1 0) (F_t 2 0) (F_t 3 0) (F_t 4 0) (F_t 5 0), ia g (Q_t 0) 240 (F_t 0), oX4 q_a1 Q_a1 (F_a1 0 0) (F_a1 1 0) (F_a1 2 0), ia g (Q_a1 3) 8 (F_a1 3), ia g (Q_a1 4) 8 (F_a1 4)] [(0, .ref q_t), (1, .ref q_a1)] [] := by
  obtain ⟨⟨hx, hb, hml, hown, hts⟩, hr, hK, hA, hlk⟩ := id E
  intro H locs ls hP hD hS hl
  refine lv_aload_n hx hb dX5_readPlace_0 rfl (lv_at hl 0 rfl) ?_
  refine lv_iconst (v := (0 : Int32)) hx hb dX5_readPlace_1 (by decide) ?_
  refine lv_iconst (v := (3 : Int32)) hx hb dX5_readPlace_2 (by decide) ?_
  obtain ⟨v_1, hv_1, h⟩ := ox_bind h
  refine kVi ⟨hx, hb, hml, hown, hts⟩ (c_X5_number l g q_t Q_t N F_t (0 : Int32) (3 : Int32) v_1 hv_1 H.size) (gV u_ml_X5_73 u_im_X5_number u_se_X5_number u_ini_X5 u_co_X5_number) hd_X5_number ⟨rfl, rfl⟩ hK hP hD hS hA 0 5 rfl rfl [0, 1] [0, 1, 4, 5, 6] rfl rfl 2 rfl (w2 := [oX5 q_t Q_t (F_t 1 0) v_1.2.1 v_1.2.2.1 v_1.2.2.2.1 v_1.2.2.2.2, ia g (Q_t 0) 240 (F_t 0), oX4 q_a1 Q_a1 (F_a1 0 0) (F_a1 1 0) (F_a1 2 0), ia g (Q_a1 3) 8 (F_a1 3), ia g (Q_a1 4) 8 (F_a1 4)]) rfl rfl (As := [.int (0 : Int32), .int (3 : Int32)]) (rest := []) rfl hl.1 rfl rfl dX5_readPlace_3 (fun H locs hP hD hS => ?_)
  refine lv_istore_n (lv' := [(2, .int v_1.1), (0, .ref q_t), (1, .ref q_a1)]) hx hb dX5_readPlace_6 rfl hl (by decide) rfl (fun ls hl => ?_)
  refine lv_aload_n hx hb dX5_readPlace_7 rfl (lv_at hl 1 rfl) ?_
  refine lv_iconst (v := (0 : Int32)) hx hb dX5_readPlace_8 (by decide) ?_
  refine lv_bipush (v := (99 : Int32)) hx hb dX5_readPlace_9 (by decide) ?_
  obtain ⟨v_2, hv_2, h⟩ := ox_bind h
  refine kVi ⟨hx, hb, hml, hown, hts⟩ (c_X5_number l g q_t Q_t N (va_up (va_up (va_up (va_up F_t 2 (fun _ => v_1.2.1)) 3 (fun _ => v_1.2.2.1)) 4 (fun _ => v_1.2.2.2.1)) 5 (fun _ => v_1.2.2.2.2)) (0 : Int32) (99 : Int32) v_2 hv_2 H.size) (gV u_ml_X5_73 u_im_X5_number u_se_X5_number u_ini_X5 u_co_X5_number) hd_X5_number ⟨rfl, rfl⟩ hK hP hD hS hA 0 5 rfl rfl [0, 1] [0, 1, 4, 5, 6] rfl rfl 2 rfl (w2 := [oX5 q_t Q_t (F_t 1 0) v_2.2.1 v_2.2.2.1 v_2.2.2.2.1 v_2.2.2.2.2, ia g (Q_t 0) 240 (F_t 0), oX4 q_a1 Q_a1 (F_a1 0 0) (F_a1 1 0) (F_a1 2 0), ia g (Q_a1 3) 8 (F_a1 3), ia g (Q_a1 4) 8 (F_a1 4)]) rfl rfl (As := [.int (0 : Int32), .int (99 : Int32)]) (rest := []) rfl hl.1 rfl rfl dX5_readPlace_11 (fun H locs hP hD hS => ?_)
  refine lv_istore_n (lv' := [(3, .int v_2.1), (2, .int v_1.1), (0, .ref q_t), (1, .ref q_a1)]) hx hb dX5_readPlace_14 rfl hl (by decide) rfl (fun ls hl => ?_)
  refine lv_aload_n hx hb dX5_readPlace_15 rfl (lv_at hl 2 rfl) ?_
  obtain ⟨v_3, hv_3, h⟩ := ox_bind h
  refine kVi ⟨hx, hb, hml, hown, hts⟩ (c_X5_closes l g q_t Q_t N (va_up (va_up (va_up (va_up F_t 2 (fun _ => v_2.2.1)) 3 (fun _ => v_2.2.2.1)) 4 (fun _ => v_2.2.2.2.1)) 5 (fun _ => v_2.2.2.2.2)) v_3 hv_3 H.size) (gV u_ml_X5_77 u_im_X5_closes u_se_X5_closes u_ini_X5 u_co_X5_closes) hd_X5_closes ⟨rfl, rfl⟩ hK hP hD hS hA 0 5 rfl rfl [0, 1] [0, 1, 4, 5, 6] rfl rfl 2 rfl (w2 := [oX5 q_t Q_t (F_t 1 0) v_3.2.1 v_3.2.2.1 v_3.2.2.2 v_2.2.2.2.2, ia g (Q_t 0) 240 (F_t 0), oX4 q_a1 Q_a1 (F_a1 0 0) (F_a1 1 0) (F_a1 2 0), ia g (Q_a1 3) 8 (F_a1 3), ia g (Q_a1 4) 8 (F_a1 4)]) rfl rfl (As := []) (rest := []) rfl hl.1 rfl rfl dX5_readPlace_16 (fun H locs hP hD hS => ?_)
  refine lv_if_eq (tgt := 28) hx hb dX5_readPlace_19 (by decide) (fun c_4 => ?_) (fun c_4 => ?_)
  · have h := ox_t c_4 h
    obtain rfl := Option.some.inj h
    exact k_vret hx hb hr hlk hP hD hS dX5_readPlace_28
  · have h := ox_f c_4 h
    refine lv_aload_n hx hb dX5_readPlace_22 rfl (lv_at hl 3 rfl) ?_
    refine lv_iload_n hx hb dX5_readPlace_23 rfl (lv_at hl 1 rfl) ?_
    refine lv_iload_n hx hb dX5_readPlace_24 rfl (lv_at hl 0 rfl) ?_
    obtain ⟨v_5, hv_5, h⟩ := ox_bind h
    refine kVv ⟨hx, hb, hml, hown, hts⟩ (c_X4_addPlace l g q_a1 Q_a1 F_a1 v_1.1 v_2.1 v_5 hv_5 H.size) (gV u_ml_X5_81 u_im_X4_addPlace u_se_X4_addPlace u_ini_X4 u_co_X4_addPlace) hd_X4_addPlace ⟨rfl, rfl⟩ hK hP hD hS hA 2 4 rfl rfl [2, 3, 4] [3, 4, 0, 1, 2] rfl rfl 3 rfl (w2 := [oX5 q_t Q_t (F_t 1 0) v_3.2.1 v_3.2.2.1 v_3.2.2.2 v_2.2.2.2.2, ia g (Q_t 0) 240 (F_t 0), oX4 q_a1 Q_a1 (F_a1 0 0) v_5.1 (F_a1 2 0), ia g (Q_a1 3) 8 v_5.2.1, ia g (Q_a1 4) 8 v_5.2.2]) rfl rfl (As := [.int v_1.1, .int v_2.1]) (rest := []) rfl hl.1 rfl rfl dX5_readPlace_25 (fun H locs hP hD hS => ?_)
    obtain rfl := Option.some.inj h
    exact k_vret hx hb hr hlk hP hD hS dX5_readPlace_28
set_option maxRecDepth 100000 in
theorem c_X5_readPlace (l : Launch) (g : gG) (q_t : Nat) (Q_t : Ad) (q_a1 : Nat) (Q_a1 : Ad) (N : Nat) (F_t : St) (F_a1 : St) (o : Int32 × Int32 × Int32 × Int32 × Int32 × (Nat → Int32) × (Nat → Int32)) (h : x_X5_readPlace N F_t F_a1 = some o) (sz : Nat) : MetV l yX5_readPlace (.code yX5_readPlace cX5_readPlace 4 none :: gW) 3 64 [.ref q_t, .ref q_a1] g [oX5 q_t Q_t (F_t 1 0) (F_t 2 0) (F_t 3 0) (F_t 4 0) (F_t 5 0), ia g (Q_t 0) 240 (F_t 0), oX4 q_a1 Q_a1 (F_a1 0 0) (F_a1 1 0) (F_a1 2 0), ia g (Q_a1 3) 8 (F_a1 3), ia g (Q_a1 4) 8 (F_a1 4)] [oX5 q_t Q_t (F_t 1 0) o.1 o.2.1 o.2.2.1 o.2.2.2.1, ia g (Q_t 0) 240 (F_t 0), oX4 q_a1 Q_a1 (F_a1 0 0) o.2.2.2.2.1 (F_a1 2 0), ia g (Q_a1 3) 8 o.2.2.2.2.2.1, ia g (Q_a1 4) 8 o.2.2.2.2.2.2] sz :=
  mkV (av := [.ref q_t, .ref q_a1]) (by decide +kernel) rfl (fun p e s m below meth c A E H locs ls hP hD hS hl => t_X5_readPlace E q_t Q_t q_a1 Q_a1 N F_t F_a1 o h H locs ls hP hD hS hl) sz
def x_X5_readChannel_k49 (N : Nat) (F_t : St) (F_a1 : St) (x2 : Int32) (x3 : Int32) : Option (Int32 × Int32 × Int32 × Int32 × Int32 × (Nat → Int32) × (Nat → Int32) × (Nat → Int32) × (Nat → Int32)) :=
  Option.bind (x_X5_number N F_t (1 : Int32) (9 : Int32)) (fun v_1 => Option.bind (x_X5_closes N (va_up (va_up (va_up (va_up F_t 2 (fun _ => v_1.2.1)) 3 (fun _ => v_1.2.2.1)) 4 (fun _ => v_1.2.2.2.1)) 5 (fun _ => v_1.2.2.2.2))) (fun v_2 => if v_2.1 = 0 then (some (v_2.2.1, v_2.2.2.1, v_2.2.2.2, v_1.2.2.2.2, (F_a1 2 0), (F_a1 5), (F_a1 6), (F_a1 7), (F_a1 8))) else (Option.bind (x_X4_addChannel N F_a1 x2 x3 v_1.1) (fun v_4 => some (v_2.2.1, v_2.2.2.1, v_2.2.2.2, v_1.2.2.2.2, v_4.1, v_4.2.1, v_4.2.2.1, v_4.2.2.2.1, v_4.2.2.2.2)))))
set_option maxHeartbeats 4000000 in
set_option maxRecDepth 100000 in
theorem t_X5_readChannel_k49 {p : Program} {l : Launch} {e : Env} {s : State} {m : MethodId} {args : Array Value} {below : List Frame} {meth : Method} {c : Code} {g : gG} {A : Nat → Prop} (E : En p s m args meth c g A cX5_readChannel 5 (.code yX5_readChannel cX5_readChannel 5 none :: gW) RX5 none) (q_t : Nat) (Q_t : Ad) (q_a1 : Nat) (Q_a1 : Ad) (N : Nat) (F_t : St) (F_a1 : St) (x2 : Int32) (x3 : Int32) (o : Int32 × Int32 × Int32 × Int32 × Int32 × (Nat → Int32) × (Nat → Int32) × (Nat → Int32) × (Nat → Int32)) (h : x_X5_readChannel_k49 N F_t F_a1 x2 x3 = some o) : WA p l e (rM 3 69) s m args below meth c g A (MQ below (QV g A [oX5 q_t Q_t (F_t 1 0) o.1 o.2.1 o.2.2.1 o.2.2.2.1, ia g (Q_t 0) 240 (F_t 0), oX4 q_a1 Q_a1 (F_a1 0 0) (F_a1 1 0) o.2.2.2.2.1, ia g (Q_a1 4) 8 (F_a1 4), ia g (Q_a1 5) 10 o.2.2.2.2.2.1, ia g (Q_a1 6) 10 o.2.2.2.2.2.2.1, ia g (Q_a1 7) 10 o.2.2.2.2.2.2.2.1, ia g (Q_a1 8) 10 o.2.2.2.2.2.2.2.2]) args s 0 0 A) 5 49 [oX5 q_t Q_t (F_t 1 0) (F_t 2 0) (F_t 3 0) (F_t 4 0) (F_t 5 0), ia g (Q_t 0) 240 (F_t 0), oX4 q_a1 Q_a1 (F_a1 0 0) (F_a1 1 0) (F_a1 2 0), ia g (Q_a1 4) 8 (F_a1 4), ia g (Q_a1 5) 10 (F_a1 5), ia g (Q_a1 6) 10 (F_a1 6), ia g (Q_a1 7) 10 (F_a1 7), ia g (Q_a1 8) 10 (F_a1 8)] [(0, .ref q_t), (1, .ref q_a1), (2, .int x2), (3, .int x3)] [] := by
  obtain ⟨⟨hx, hb, hml, hown, hts⟩, hr, hK, hA, hlk⟩ := id E
  intro H locs ls hP hD hS hl
  refine lv_aload_n hx hb dX5_readChannel_49 rfl (lv_at hl 0 rfl) ?_
  refine lv_iconst (v := (1 : Int32)) hx hb dX5_readChannel_50 (by decide) ?_
  refine lv_bipush (v := (9 : Int32)) hx hb dX5_readChannel_51 (by decide) ?_
  obtain ⟨v_1, hv_1, h⟩ := ox_bind h
  refine kVi ⟨hx, hb, hml, hown, hts⟩ (c_X5_number l g q_t Q_t N F_t (1 : Int32) (9 : Int32) v_1 hv_1 H.size) (gV u_ml_X5_73 u_im_X5_number u_se_X5_number u_ini_X5 u_co_X5_number) hd_X5_number ⟨rfl, rfl⟩ hK hP hD hS hA 0 5 rfl rfl [0, 1] [0, 1, 4, 5, 6, 7, 8, 9] rfl rfl 2 rfl (w2 := [oX5 q_t Q_t (F_t 1 0) v_1.2.1 v_1.2.2.1 v_1.2.2.2.1 v_1.2.2.2.2, ia g (Q_t 0) 240 (F_t 0), oX4 q_a1 Q_a1 (F_a1 0 0) (F_a1 1 0) (F_a1 2 0), ia g (Q_a1 4) 8 (F_a1 4), ia g (Q_a1 5) 10 (F_a1 5), ia g (Q_a1 6) 10 (F_a1 6), ia g (Q_a1 7) 10 (F_a1 7), ia g (Q_a1 8) 10 (F_a1 8)]) rfl rfl (As := [.int (1 : Int32), .int (9 : Int32)]) (rest := []) rfl hl.1 rfl rfl dX5_readChannel_53 (fun H locs hP hD hS => ?_)
  refine lv_istore (lv' := [(4, .int v_1.1), (0, .ref q_t), (1, .ref q_a1), (2, .int x2), (3, .int x3)]) hx hb dX5_readChannel_56 hl (by decide) rfl (fun ls hl => ?_)
  refine lv_aload_n hx hb dX5_readChannel_58 rfl (lv_at hl 1 rfl) ?_
  obtain ⟨v_2, hv_2, h⟩ := ox_bind h
  refine kVi ⟨hx, hb, hml, hown, hts⟩ (c_X5_closes l g q_t Q_t N (va_up (va_up (va_up (va_up F_t 2 (fun _ => v_1.2.1)) 3 (fun _ => v_1.2.2.1)) 4 (fun _ => v_1.2.2.2.1)) 5 (fun _ => v_1.2.2.2.2)) v_2 hv_2 H.size) (gV u_ml_X5_77 u_im_X5_closes u_se_X5_closes u_ini_X5 u_co_X5_closes) hd_X5_closes ⟨rfl, rfl⟩ hK hP hD hS hA 0 5 rfl rfl [0, 1] [0, 1, 4, 5, 6, 7, 8, 9] rfl rfl 2 rfl (w2 := [oX5 q_t Q_t (F_t 1 0) v_2.2.1 v_2.2.2.1 v_2.2.2.2 v_1.2.2.2.2, ia g (Q_t 0) 240 (F_t 0), oX4 q_a1 Q_a1 (F_a1 0 0) (F_a1 1 0) (F_a1 2 0), ia g (Q_a1 4) 8 (F_a1 4), ia g (Q_a1 5) 10 (F_a1 5), ia g (Q_a1 6) 10 (F_a1 6), ia g (Q_a1 7) 10 (F_a1 7), ia g (Q_a1 8) 10 (F_a1 8)]) rfl rfl (As := []) (rest := []) rfl hl.1 rfl rfl dX5_readChannel_59 (fun H locs hP hD hS => ?_)
  refine lv_if_eq (tgt := 73) hx hb dX5_readChannel_62 (by decide) (fun c_3 => ?_) (fun c_3 => ?_)
  · have h := ox_t c_3 h
    obtain rfl := Option.some.inj h
    exact k_vret hx hb hr hlk hP hD hS dX5_readChannel_73
  · have h := ox_f c_3 h
    refine lv_aload_n hx hb dX5_readChannel_65 rfl (lv_at hl 2 rfl) ?_
    refine lv_iload_n hx hb dX5_readChannel_66 rfl (lv_at hl 3 rfl) ?_
    refine lv_iload_n hx hb dX5_readChannel_67 rfl (lv_at hl 4 rfl) ?_
    refine lv_iload hx hb dX5_readChannel_68 (lv_at hl 0 rfl) ?_
    obtain ⟨v_4, hv_4, h⟩ := ox_bind h
    refine kVv ⟨hx, hb, hml, hown, hts⟩ (c_X4_addChannel l g q_a1 Q_a1 N F_a1 x2 x3 v_1.1 v_4 hv_4 H.size) (gV u_ml_X5_88 u_im_X4_addChannel u_se_X4_addChannel u_ini_X4 u_co_X4_addChannel) hd_X4_addChannel ⟨rfl, rfl⟩ hK hP hD hS hA 2 4 rfl rfl [2, 3, 4, 5, 6, 7] [6, 7, 0, 1, 2, 3, 4, 5] rfl rfl 6 rfl (w2 := [oX5 q_t Q_t (F_t 1 0) v_2.2.1 v_2.2.2.1 v_2.2.2.2 v_1.2.2.2.2, ia g (Q_t 0) 240 (F_t 0), oX4 q_a1 Q_a1 (F_a1 0 0) (F_a1 1 0) v_4.1, ia g (Q_a1 4) 8 (F_a1 4), ia g (Q_a1 5) 10 v_4.2.1, ia g (Q_a1 6) 10 v_4.2.2.1, ia g (Q_a1 7) 10 v_4.2.2.2.1, ia g (Q_a1 8) 10 v_4.2.2.2.2]) rfl rfl (As := [.int x2, .int x3, .int v_1.1]) (rest := []) rfl hl.1 rfl rfl dX5_readChannel_70 (fun H locs hP hD hS => ?_)
    obtain rfl := Option.some.inj h
    exact k_vret hx hb hr hlk hP hD hS dX5_readChannel_73
def x_X5_readChannel (N : Nat) (F_t : St) (F_a1 : St) : Option (Int32 × Int32 × Int32 × Int32 × Int32 × (Nat → Int32) × (Nat → Int32) × (Nat → Int32) × (Nat → Int32)) :=
  Option.bind (x_X5_number N F_t (0 : Int32) ((F_a1 1 0) - (1 : Int32))) (fun v_5 => Option.bind (x_X5_number N (va_up (va_up (va_up (va_up F_t 2 (fun _ => v_5.2.1)) 3 (fun _ => v_5.2.2.1)) 4 (fun _ => v_5.2.2.2.1)) 5 (fun _ => v_5.2.2.2.2)) (0 : Int32) ((F_a1 1 0) - (1 : Int32))) (fun v_6 => if v_6.2.1 = 0 then (Option.bind (x_X4_mayJoin N F_a1 v_5.1 v_6.1) (fun v_8 => if v_8 = 0 then (Option.bind (x_X5_blame (va_up (va_up (va_up (va_up F_t 2 (fun _ => v_6.2.1)) 3 (fun _ => v_6.2.2.1)) 4 (fun _ => v_6.2.2.2.1)) 5 (fun _ => v_6.2.2.2.2)) (4 : Int32) v_6.2.2.2.2) (fun v_10 => x_X5_readChannel_k49 N (va_up (va_up (va_up (va_up F_t 2 (fun _ => v_10.1)) 3 (fun _ => v_10.2)) 4 (fun _ => v_6.2.2.2.1)) 5 (fun _ => v_6.2.2.2.2)) F_a1 v_5.1 v_6.1)) else (x_X5_readChannel_k49 N (va_up (va_up (va_up (va_up F_t 2 (fun _ => v_6.2.1)) 3 (fun _ => v_6.2.2.1)) 4 (fun _ => v_6.2.2.2.1)) 5 (fun _ => v_6.2.2.2.2)) F_a1 v_5.1 v_6.1))) else (x_X5_readChannel_k49 N (va_up (va_up (va_up (va_up F_t 2 (fun _ => v_6.2.1)) 3 (fun _ => v_6.2.2.1)) 4 (fun _ => v_6.2.2.2.1)) 5 (fun _ => v_6.2.2.2.2)) F_a1 v_5.1 v_6.1)))
set_option maxHeartbeats 4000000 in
set_option maxRecDepth 100000 in
theorem t_X5_readChannel {p : Program} {l : Launch} {e : Env} {s : State} {m : MethodId} {args : Array Value} {below : List Frame} {meth : Method} {c : Code} {g : gG} {A : Nat → Prop} (E : En p s m args meth c g A cX5_readChannel 5 (.code yX5_readChannel cX5_readChannel 5 none :: gW) RX5 none) (q_t : Nat) (Q_t : Ad) (q_a1 : Nat) (Q_a1 : Ad) (N : Nat) (F_t : St) (F_a1 : St) (o : Int32 × Int32 × Int32 × Int32 × Int32 × (Nat → Int32) × (Nat → Int32) × (Nat → Int32) × (Nat → Int32)) (h : x_X5_readChannel N F_t F_a1 = some o) : WA p l e (rM 3 69) s m args below meth c g A (MQ below (QV g A [oX5 q_t Q_t (F_t 1 0) o.1 o.2.1 o.2.2.1 o.2.2.2.1, ia g (Q_t 0) 240 (F_t 0), oX4 q_a1 Q_a1 (F_a1 0 0) (F_a1 1 0) o.2.2.2.2.1, ia g (Q_a1 4) 8 (F_a1 4), ia g (Q_a1 5) 10 o.2.2.2.2.2.1, ia g (Q_a1 6) 10 o.2.2.2.2.2.2.1, ia g (Q_a1 7) 10 o.2.2.2.2.2.2.2.1, ia g (Q_a1 8) 10 o.2.2.2.2.2.2.2.2]) args s 0 0 A) 5 0 [oX5 q_t Q_t (F_t 1 0) (F_t 2 0) (F_t 3 0) (F_t 4 0) (F_t 5 0), ia g (Q_t 0) 240 (F_t 0), oX4 q_a1 Q_a1 (F_a1 0 0) (F_a1 1 0) (F_a1 2 0), ia g (Q_a1 4) 8 (F_a1 4), ia g (Q_a1 5) 10 (F_a1 5), ia g (Q_a1 6) 10 (F_a1 6), ia g (Q_a1 7) 10 (F_a1 7), ia g (Q_a1 8) 10 (F_a1 8)] [(0, .ref q_t), (1, .ref q_a1)] [] := by
  obtain ⟨⟨hx, hb, hml, hown, hts⟩, hr, hK, hA, hlk⟩ := id E
  intro H locs ls hP hD hS hl
  refine lv_aload_n hx hb dX5_readChannel_0 rfl (lv_at hl 0 rfl) ?_
  refine lv_iconst (v := (0 : Int32)) hx hb dX5_readChannel_1 (by decide) ?_
  refine lv_aload_n hx hb dX5_readChannel_2 rfl (lv_at hl 1 rfl) ?_
  refine va_get (ci := 4) (v := .int (F_a1 1 0)) (C := RX4) (T := TX4) (N := 9) hx hb hts (fun w h => .tail _ (u_inX4 w h)) hown hK.1 hP 2 rfl rfl 1 (by decide) (hts _ (.tail _ u_fl_X5_67)) (fun _ h9 => h9) rfl dX5_readChannel_3 ?_
  refine lv_iconst (v := (1 : Int32)) hx hb dX5_readChannel_6 (by decide) ?_
  refine lv_isub hx hb dX5_readChannel_7 ?_
  obtain ⟨v_5, hv_5, h⟩ := ox_bind h
  refine kVi ⟨hx, hb, hml, hown, hts⟩ (c_X5_number l g q_t Q_t N F_t (0 : Int32) ((F_a1 1 0) - (1 : Int32)) v_5 hv_5 H.size) (gV u_ml_X5_73 u_im_X5_number u_se_X5_number u_ini_X5 u_co_X5_number) hd_X5_number ⟨rfl, rfl⟩ hK hP hD hS hA 0 5 rfl rfl [0, 1] [0, 1, 4, 5, 6, 7, 8, 9] rfl rfl 2 rfl (w2 := [oX5 q_t Q_t (F_t 1 0) v_5.2.1 v_5.2.2.1 v_5.2.2.2.1 v_5.2.2.2.2, ia g (Q_t 0) 240 (F_t 0), oX4 q_a1 Q_a1 (F_a1 0 0) (F_a1 1 0) (F_a1 2 0), ia g (Q_a1 4) 8 (F_a1 4), ia g (Q_a1 5) 10 (F_a1 5), ia g (Q_a1 6) 10 (F_a1 6), ia g (Q_a1 7) 10 (F_a1 7), ia g (Q_a1 8) 10 (F_a1 8)]) rfl rfl (As := [.int (0 : Int32), .int ((F_a1 1 0) - (1 : Int32))]) (rest := []) rfl hl.1 rfl rfl dX5_readChannel_8 (fun H locs hP hD hS => ?_)
  refine lv_istore_n (lv' := [(2, .int v_5.1), (0, .ref q_t), (1, .ref q_a1)]) hx hb dX5_readChannel_11 rfl hl (by decide) rfl (fun ls hl => ?_)
  refine lv_aload_n hx hb dX5_readChannel_12 rfl (lv_at hl 1 rfl) ?_
  refine lv_iconst (v := (0 : Int32)) hx hb dX5_readChannel_13 (by decide) ?_
  refine lv_aload_n hx hb dX5_readChannel_14 rfl (lv_at hl 2 rfl) ?_
  refine va_get (ci := 4) (v := .int (F_a1 1 0)) (C := RX4) (T := TX4) (N := 9) hx hb hts (fun w h => .tail _ (u_inX4 w h)) hown hK.1 hP 2 rfl rfl 1 (by decide) (hts _ (.tail _ u_fl_X5_67)) (fun _ h9 => h9) rfl dX5_readChannel_15 ?_
  refine lv_iconst (v := (1 : Int32)) hx hb dX5_readChannel_18 (by decide) ?_
  refine lv_isub hx hb dX5_readChannel_19 ?_
  obtain ⟨v_6, hv_6, h⟩ := ox_bind h
  refine kVi ⟨hx, hb, hml, hown, hts⟩ (c_X5_number l g q_t Q_t N (va_up (va_up (va_up (va_up F_t 2 (fun _ => v_5.2.1)) 3 (fun _ => v_5.2.2.1)) 4 (fun _ => v_5.2.2.2.1)) 5 (fun _ => v_5.2.2.2.2)) (0 : Int32) ((F_a1 1 0) - (1 : Int32)) v_6 hv_6 H.size) (gV u_ml_X5_73 u_im_X5_number u_se_X5_number u_ini_X5 u_co_X5_number) hd_X5_number ⟨rfl, rfl⟩ hK hP hD hS hA 0 5 rfl rfl [0, 1] [0, 1, 4, 5, 6, 7, 8, 9] rfl rfl 2 rfl (w2 := [oX5 q_t Q_t (F_t 1 0) v_6.2.1 v_6.2.2.1 v_6.2.2.2.1 v_6.2.2.2.2, ia g (Q_t 0) 240 (F_t 0), oX4 q_a1 Q_a1 (F_a1 0 0) (F_a1 1 0) (F_a1 2 0), ia g (Q_a1 4) 8 (F_a1 4), ia g (Q_a1 5) 10 (F_a1 5), ia g (Q_a1 6) 10 (F_a1 6), ia g (Q_a1 7) 10 (F_a1 7), ia g (Q_a1 8) 10 (F_a1 8)]) rfl rfl (As := [.int (0 : Int32), .int ((F_a1 1 0) - (1 : Int32))]) (rest := []) rfl hl.1 rfl rfl dX5_readChannel_20 (fun H locs hP hD hS => ?_)
  refine lv_istore_n (lv' := [(3, .int v_6.1), (2, .int v_5.1), (0, .ref q_t), (1, .ref q_a1)]) hx hb dX5_readChannel_23 rfl hl (by decide) rfl (fun ls hl => ?_)
  refine lv_aload_n hx hb dX5_readChannel_24 rfl (lv_at hl 2 rfl) ?_
  refine va_get (ci := 5) (v := .int v_6.2.1) (C := RX5) (T := TX5) (N := 6) hx hb hts (fun w h => .tail _ (u_inX5 w h)) hown hK.1 hP 0 rfl rfl 2 (by decide) (hts _ (.tail _ u_fl_X5_19)) (fun _ h9 => h9) rfl dX5_readChannel_25 ?_
  refine lv_if_ne (tgt := 49) hx hb dX5_readChannel_28 (by decide) (fun c_7 => ?_) (fun c_7 => ?_)
  · have h := ox_f c_7 h
    exact t_X5_readChannel_k49 E q_t Q_t q_a1 Q_a1 N (va_up (va_up (va_up (va_up F_t 2 (fun _ => v_6.2.1)) 3 (fun _ => v_6.2.2.1)) 4 (fun _ => v_6.2.2.2.1)) 5 (fun _ => v_6.2.2.2.2)) F_a1 v_5.1 v_6.1 _ h H locs ls hP hD hS (lv_sub hl [2, 3, 1, 0] rfl)
  · have h := ox_t c_7 h
    refine lv_aload_n hx hb dX5_readChannel_31 rfl (lv_at hl 3 rfl) ?_
    refine lv_iload_n hx hb dX5_readChannel_32 rfl (lv_at hl 1 rfl) ?_
    refine lv_iload_n hx hb dX5_readChannel_33 rfl (lv_at hl 0 rfl) ?_
    obtain ⟨v_8, hv_8, h⟩ := ox_bind h
    refine kVi ⟨hx, hb, hml, hown, hts⟩ (c_X4_mayJoin l g q_a1 Q_a1 N F_a1 v_5.1 v_6.1 v_8 hv_8 H.size) (gV u_ml_X5_84 u_im_X4_mayJoin u_se_X4_mayJoin u_ini_X4 u_co_X4_mayJoin) hd_X4_mayJoin ⟨rfl, rfl⟩ hK hP hD hS hA 2 4 rfl rfl [2, 3, 4, 5] [4, 5, 0, 1, 2, 3, 10, 11] rfl rfl 4 rfl (w2 := [oX5 q_t Q_t (F_t 1 0) v_6.2.1 v_6.2.2.1 v_6.2.2.2.1 v_6.2.2.2.2, ia g (Q_t 0) 240 (F_t 0), oX4 q_a1 Q_a1 (F_a1 0 0) (F_a1 1 0) (F_a1 2 0), ia g (Q_a1 4) 8 (F_a1 4), ia g (Q_a1 5) 10 (F_a1 5), ia g (Q_a1 6) 10 (F_a1 6), ia g (Q_a1 7) 10 (F_a1 7), ia g (Q_a1 8) 10 (F_a1 8)]) rfl rfl (As := [.int v_5.1, .int v_6.1]) (rest := []) rfl hl.1 rfl rfl dX5_readChannel_34 (fun H locs hP hD hS => ?_)
    refine lv_if_ne (tgt := 49) hx hb dX5_readChannel_37 (by decide) (fun c_9 => ?_) (fun c_9 => ?_)
    · have h := ox_f c_9 h
      exact t_X5_readChannel_k49 E q_t Q_t q_a1 Q_a1 N (va_up (va_up (va_up (va_up F_t 2 (fun _ => v_6.2.1)) 3 (fun _ => v_6.2.2.1)) 4 (fun _ => v_6.2.2.2.1)) 5 (fun _ => v_6.2.2.2.2)) F_a1 v_5.1 v_6.1 _ h H locs ls hP hD hS (lv_sub hl [2, 3, 1, 0] rfl)
    · have h := ox_t c_9 h
      refine lv_aload_n hx hb dX5_readChannel_40 rfl (lv_at hl 2 rfl) ?_
      refine lv_iconst (v := (4 : Int32)) hx hb dX5_readChannel_41 (by decide) ?_
      refine lv_aload_n hx hb dX5_readChannel_42 rfl (lv_at hl 2 rfl) ?_
      refine va_get (ci := 5) (v := .int v_6.2.2.2.2) (C := RX5) (T := TX5) (N := 6) hx hb hts (fun w h => .tail _ (u_inX5 w h)) hown hK.1 hP 0 rfl rfl 5 (by decide) (hts _ (.tail _ u_fl_X5_28)) (fun _ h9 => h9) rfl dX5_readChannel_43 ?_
      obtain ⟨v_10, hv_10, h⟩ := ox_bind h
      refine kVv ⟨hx, hb, hml, hown, hts⟩ (c_X5_blame l g q_t Q_t (va_up (va_up (va_up (va_up F_t 2 (fun _ => v_6.2.1)) 3 (fun _ => v_6.2.2.1)) 4 (fun _ => v_6.2.2.2.1)) 5 (fun _ => v_6.2.2.2.2)) (4 : Int32) v_6.2.2.2.2 v_10 hv_10 H.size) (gV u_ml_X5_50 u_im_X5_blame u_se_X5_blame u_ini_X5 u_co_X5_blame) hd_X5_blame ⟨rfl, rfl⟩ hK hP hD hS hA 0 5 rfl rfl [0] [0, 2, 3, 4, 5, 6, 7, 8] rfl rfl 1 rfl (w2 := [oX5 q_t Q_t (F_t 1 0) v_10.1 v_10.2 v_6.2.2.2.1 v_6.2.2.2.2, ia g (Q_t 0) 240 (F_t 0), oX4 q_a1 Q_a1 (F_a1 0 0) (F_a1 1 0) (F_a1 2 0), ia g (Q_a1 4) 8 (F_a1 4), ia g (Q_a1 5) 10 (F_a1 5), ia g (Q_a1 6) 10 (F_a1 6), ia g (Q_a1 7) 10 (F_a1 7), ia g (Q_a1 8) 10 (F_a1 8)]) rfl rfl (As := [.int (4 : Int32), .int v_6.2.2.2.2]) (rest := []) rfl hl.1 rfl rfl dX5_readChannel_46 (fun H locs hP hD hS => ?_)
      exact t_X5_readChannel_k49 E q_t Q_t q_a1 Q_a1 N (va_up (va_up (va_up (va_up F_t 2 (fun _ => v_10.1)) 3 (fun _ => v_10.2)) 4 (fun _ => v_6.2.2.2.1)) 5 (fun _ => v_6.2.2.2.2)) F_a1 v_5.1 v_6.1 _ h H locs ls hP hD hS (lv_sub hl [2, 3, 1, 0] rfl)
set_option maxRecDepth 100000 in
theorem c_X5_readChannel (l : Launch) (g : gG) (q_t : Nat) (Q_t : Ad) (q_a1 : Nat) (Q_a1 : Ad) (N : Nat) (F_t : St) (F_a1 : St) (o : Int32 × Int32 × Int32 × Int32 × Int32 × (Nat → Int32) × (Nat → Int32) × (Nat → Int32) × (Nat → Int32)) (h : x_X5_readChannel N F_t F_a1 = some o) (sz : Nat) : MetV l yX5_readChannel (.code yX5_readChannel cX5_readChannel 5 none :: gW) 3 69 [.ref q_t, .ref q_a1] g [oX5 q_t Q_t (F_t 1 0) (F_t 2 0) (F_t 3 0) (F_t 4 0) (F_t 5 0), ia g (Q_t 0) 240 (F_t 0), oX4 q_a1 Q_a1 (F_a1 0 0) (F_a1 1 0) (F_a1 2 0), ia g (Q_a1 4) 8 (F_a1 4), ia g (Q_a1 5) 10 (F_a1 5), ia g (Q_a1 6) 10 (F_a1 6), ia g (Q_a1 7) 10 (F_a1 7), ia g (Q_a1 8) 10 (F_a1 8)] [oX5 q_t Q_t (F_t 1 0) o.1 o.2.1 o.2.2.1 o.2.2.2.1, ia g (Q_t 0) 240 (F_t 0), oX4 q_a1 Q_a1 (F_a1 0 0) (F_a1 1 0) o.2.2.2.2.1, ia g (Q_a1 4) 8 (F_a1 4), ia g (Q_a1 5) 10 o.2.2.2.2.2.1, ia g (Q_a1 6) 10 o.2.2.2.2.2.2.1, ia g (Q_a1 7) 10 o.2.2.2.2.2.2.2.1, ia g (Q_a1 8) 10 o.2.2.2.2.2.2.2.2] sz :=
  mkV (av := [.ref q_t, .ref q_a1]) (by decide +kernel) rfl (fun p e s m below meth c A E H locs ls hP hD hS hl => t_X5_readChannel E q_t Q_t q_a1 Q_a1 N F_t F_a1 o h H locs ls hP hD hS hl) sz
def x_X5_readClause_k46 (N : Nat) (F_t : St) (F_a1 : St) : Option (Int32 × Int32 × Int32 × Int32 × Int32 × Int32 × Int32 × (Nat → Int32) × (Nat → Int32) × (Nat → Int32) × (Nat → Int32) × (Nat → Int32) × (Nat → Int32)) :=
  Option.bind (x_X5_blame F_t (1 : Int32) (F_t 4 0)) (fun v_1 => some (v_1.1, v_1.2, (F_t 4 0), (F_t 5 0), (F_a1 0 0), (F_a1 1 0), (F_a1 2 0), (F_a1 3), (F_a1 4), (F_a1 5), (F_a1 6), (F_a1 7), (F_a1 8)))
set_option maxHeartbeats 4000000 in
set_option maxRecDepth 100000 in
theorem t_X5_readClause_k46 {p : Program} {l : Launch} {e : Env} {s : State} {m : MethodId} {args : Array Value} {below : List Frame} {meth : Method} {c : Code} {g : gG} {A : Nat → Prop} (E : En p s m args meth c g A cX5_readClause 4 (.code yX5_readClause cX5_readClause 4 none :: gW) RX5 none) (q_t : Nat) (Q_t : Ad) (q_a1 : Nat) (Q_a1 : Ad) (N : Nat) (F_t : St) (F_a1 : St) (o : Int32 × Int32 × Int32 × Int32 × Int32 × Int32 × Int32 × (Nat → Int32) × (Nat → Int32) × (Nat → Int32) × (Nat → Int32) × (Nat → Int32) × (Nat → Int32)) (h : x_X5_readClause_k46 N F_t F_a1 = some o) : WA p l e (rM 4 93) s m args below meth c g A (MQ below (QV g A [oX5 q_t Q_t (F_t 1 0) o.1 o.2.1 o.2.2.1 o.2.2.2.1, ia g (Q_t 0) 240 (F_t 0), oX4 q_a1 Q_a1 o.2.2.2.2.1 o.2.2.2.2.2.1 o.2.2.2.2.2.2.1, ia g (Q_a1 3) 8 o.2.2.2.2.2.2.2.1, ia g (Q_a1 4) 8 o.2.2.2.2.2.2.2.2.1, ia g (Q_a1 5) 10 o.2.2.2.2.2.2.2.2.2.1, ia g (Q_a1 6) 10 o.2.2.2.2.2.2.2.2.2.2.1, ia g (Q_a1 7) 10 o.2.2.2.2.2.2.2.2.2.2.2.1, ia g (Q_a1 8) 10 o.2.2.2.2.2.2.2.2.2.2.2.2]) args s 0 0 A) 4 46 [oX5 q_t Q_t (F_t 1 0) (F_t 2 0) (F_t 3 0) (F_t 4 0) (F_t 5 0), ia g (Q_t 0) 240 (F_t 0), oX4 q_a1 Q_a1 (F_a1 0 0) (F_a1 1 0) (F_a1 2 0), ia g (Q_a1 3) 8 (F_a1 3), ia g (Q_a1 4) 8 (F_a1 4), ia g (Q_a1 5) 10 (F_a1 5), ia g (Q_a1 6) 10 (F_a1 6), ia g (Q_a1 7) 10 (F_a1 7), ia g (Q_a1 8) 10 (F_a1 8)] [(0, .ref q_t)] [] := by
  obtain ⟨⟨hx, hb, hml, hown, hts⟩, hr, hK, hA, hlk⟩ := id E
  intro H locs ls hP hD hS hl
  refine lv_aload_n hx hb dX5_readClause_46 rfl (lv_at hl 0 rfl) ?_
  refine lv_iconst (v := (1 : Int32)) hx hb dX5_readClause_47 (by decide) ?_
  refine lv_aload_n hx hb dX5_readClause_48 rfl (lv_at hl 0 rfl) ?_
  refine va_get (ci := 5) (v := .int (F_t 4 0)) (C := RX5) (T := TX5) (N := 6) hx hb hts (fun w h => .tail _ (u_inX5 w h)) hown hK.1 hP 0 rfl rfl 4 (by decide) (hts _ (.tail _ u_fl_X5_25)) (fun _ h9 => h9) rfl dX5_readClause_49 ?_
  obtain ⟨v_1, hv_1, h⟩ := ox_bind h
  refine kVv ⟨hx, hb, hml, hown, hts⟩ (c_X5_blame l g q_t Q_t F_t (1 : Int32) (F_t 4 0) v_1 hv_1 H.size) (gV u_ml_X5_50 u_im_X5_blame u_se_X5_blame u_ini_X5 u_co_X5_blame) hd_X5_blame ⟨rfl, rfl⟩ hK hP hD hS hA 0 5 rfl rfl [0] [0, 2, 3, 4, 5, 6, 7, 8, 9] rfl rfl 1 rfl (w2 := [oX5 q_t Q_t (F_t 1 0) v_1.1 v_1.2 (F_t 4 0) (F_t 5 0), ia g (Q_t 0) 240 (F_t 0), oX4 q_a1 Q_a1 (F_a1 0 0) (F_a1 1 0) (F_a1 2 0), ia g (Q_a1 3) 8 (F_a1 3), ia g (Q_a1 4) 8 (F_a1 4), ia g (Q_a1 5) 10 (F_a1 5), ia g (Q_a1 6) 10 (F_a1 6), ia g (Q_a1 7) 10 (F_a1 7), ia g (Q_a1 8) 10 (F_a1 8)]) rfl rfl (As := [.int (1 : Int32), .int (F_t 4 0)]) (rest := []) rfl hl.1 rfl rfl dX5_readClause_52 (fun H locs hP hD hS => ?_)
  obtain rfl := Option.some.inj h
  exact k_vret hx hb hr hlk hP hD hS dX5_readClause_55
def x_X5_readClause_k56 (N : Nat) (F_t : St) (F_a1 : St) (x2 : Int32) : Option (Int32 × Int32 × Int32 × Int32 × Int32 × Int32 × Int32 × (Nat → Int32) × (Nat → Int32) × (Nat → Int32) × (Nat → Int32) × (Nat → Int32) × (Nat → Int32)) :=
  Option.bind (x_X5_hasRoomFor F_a1 x2) (fun v_2 => if v_2 = 0 then (Option.bind (x_X5_blame F_t (3 : Int32) (F_t 4 0)) (fun v_10 => some (v_10.1, v_10.2, (F_t 4 0), (F_t 5 0), (F_a1 0 0), (F_a1 1 0), (F_a1 2 0), (F_a1 3), (F_a1 4), (F_a1 5), (F_a1 6), (F_a1 7), (F_a1 8)))) else (xl ((F_t 4 0) + (1 : Int32)) (fun y_4 => if x2 = (115 : Int32) then (Option.bind (x_X5_readRoom N (va_up F_t 4 (fun _ => y_4)) F_a1) (fun v_9 => some (v_9.1, v_9.2.1, v_9.2.2.1, v_9.2.2.2.1, v_9.2.2.2.2, (F_a1 1 0), (F_a1 2 0), (F_a1 3), (F_a1 4), (F_a1 5), (F_a1 6), (F_a1 7), (F_a1 8)))) else (if x2 = (112 : Int32) then (Option.bind (x_X5_readPlace N (va_up F_t 4 (fun _ => y_4)) F_a1) (fun v_8 => some (v_8.1, v_8.2.1, v_8.2.2.1, v_8.2.2.2.1, (F_a1 0 0), v_8.2.2.2.2.1, (F_a1 2 0), v_8.2.2.2.2.2.1, v_8.2.2.2.2.2.2, (F_a1 5), (F_a1 6), (F_a1 7), (F_a1 8)))) else (Option.bind (x_X5_readChannel N (va_up F_t 4 (fun _ => y_4)) F_a1) (fun v_7 => some (v_7.1, v_7.2.1, v_7.2.2.1, v_7.2.2.2.1, (F_a1 0 0), (F_a1 1 0), v_7.2.2.2.2.1, (F_a1 3), (F_a1 4), v_7.2.2.2.2.2.1, v_7.2.2.2.2.2.2.1, v_7.2.2.2.2.2.2.2.1, v_7.2.2.2.2.2.2.2.2)))))))
set_option maxHeartbeats 4000000 in
set_option maxRecDepth 100000 in
theorem t_X5_readClause_k56 {p : Program} {l : Launch} {e : Env} {s : State} {m : MethodId} {args : Array Value} {below : List Frame} {meth : Method} {c : Code} {g : gG} {A : Nat → Prop} (E : En p s m args meth c g A cX5_readClause 4 (.code yX5_readClause cX5_readClause 4 none :: gW) RX5 none) (q_t : Nat) (Q_t : Ad) (q_a1 : Nat) (Q_a1 : Ad) (N : Nat) (F_t : St) (F_a1 : St) (x2 : Int32) (o : Int32 × Int32 × Int32 × Int32 × Int32 × Int32 × Int32 × (Nat → Int32) × (Nat → Int32) × (Nat → Int32) × (Nat → Int32) × (Nat → Int32) × (Nat → Int32)) (h : x_X5_readClause_k56 N F_t F_a1 x2 = some o) : WA p l e (rM 4 93) s m args below meth c g A (MQ below (QV g A [oX5 q_t Q_t (F_t 1 0) o.1 o.2.1 o.2.2.1 o.2.2.2.1, ia g (Q_t 0) 240 (F_t 0), oX4 q_a1 Q_a1 o.2.2.2.2.1 o.2.2.2.2.2.1 o.2.2.2.2.2.2.1, ia g (Q_a1 3) 8 o.2.2.2.2.2.2.2.1, ia g (Q_a1 4) 8 o.2.2.2.2.2.2.2.2.1, ia g (Q_a1 5) 10 o.2.2.2.2.2.2.2.2.2.1, ia g (Q_a1 6) 10 o.2.2.2.2.2.2.2.2.2.2.1, ia g (Q_a1 7) 10 o.2.2.2.2.2.2.2.2.2.2.2.1, ia g (Q_a1 8) 10 o.2.2.2.2.2.2.2.2.2.2.2.2]) args s 0 0 A) 4 56 [oX5 q_t Q_t (F_t 1 0) (F_t 2 0) (F_t 3 0) (F_t 4 0) (F_t 5 0), ia g (Q_t 0) 240 (F_t 0), oX4 q_a1 Q_a1 (F_a1 0 0) (F_a1 1 0) (F_a1 2 0), ia g (Q_a1 3) 8 (F_a1 3), ia g (Q_a1 4) 8 (F_a1 4), ia g (Q_a1 5) 10 (F_a1 5), ia g (Q_a1 6) 10 (F_a1 6), ia g (Q_a1 7) 10 (F_a1 7), ia g (Q_a1 8) 10 (F_a1 8)] [(0, .ref q_t), (1, .ref q_a1), (2, .int x2)] [] := by
  obtain ⟨⟨hx, hb, hml, hown, hts⟩, hr, hK, hA, hlk⟩ := id E
  intro H locs ls hP hD hS hl
  refine lv_aload_n hx hb dX5_readClause_56 rfl (lv_at hl 0 rfl) ?_
  refine lv_iload_n hx hb dX5_readClause_57 rfl (lv_at hl 2 rfl) ?_
  refine lv_aload_n hx hb dX5_readClause_58 rfl (lv_at hl 1 rfl) ?_
  obtain ⟨v_2, hv_2, h⟩ := ox_bind h
  refine kVi ⟨hx, hb, hml, hown, hts⟩ (c_X5_hasRoomFor l g q_a1 Q_a1 q_t F_a1 x2 v_2 hv_2 H.size) (gV u_ml_X5_54 u_im_X5_hasRoomFor u_se_X5_hasRoomFor u_ini_X5 u_co_X5_hasRoomFor) hd_X5_hasRoomFor ⟨rfl, rfl⟩ hK hP hD hS hA 0 5 rfl rfl [2] [1, 2, 0, 4, 5, 6, 7, 8, 9] rfl rfl 1 rfl (w2 := [oX5 q_t Q_t (F_t 1 0) (F_t 2 0) (F_t 3 0) (F_t 4 0) (F_t 5 0), ia g (Q_t 0) 240 (F_t 0), oX4 q_a1 Q_a1 (F_a1 0 0) (F_a1 1 0) (F_a1 2 0), ia g (Q_a1 3) 8 (F_a1 3), ia g (Q_a1 4) 8 (F_a1 4), ia g (Q_a1 5) 10 (F_a1 5), ia g (Q_a1 6) 10 (F_a1 6), ia g (Q_a1 7) 10 (F_a1 7), ia g (Q_a1 8) 10 (F_a1 8)]) rfl rfl (As := [.int x2, .ref q_a1]) (rest := []) rfl hl.1 rfl rfl dX5_readClause_59 (fun H locs hP hD hS => ?_)
  refine lv_if_ne (tgt := 75) hx hb dX5_readClause_62 (by decide) (fun c_3 => ?_) (fun c_3 => ?_)
  · have h := ox_f c_3 h
    refine lv_aload_n hx hb dX5_readClause_75 rfl (lv_at hl 0 rfl) ?_
    refine lv_dup hx hb dX5_readClause_76 rfl ?_
    refine va_get (ci := 5) (v := .int (F_t 4 0)) (C := RX5) (T := TX5) (N := 6) hx hb hts (fun w h => .tail _ (u_inX5 w h)) hown hK.1 hP 0 rfl rfl 4 (by decide) (hts _ (.tail _ u_fl_X5_25)) (fun _ h9 => h9) rfl dX5_readClause_77 ?_
    refine lv_iconst (v := (1 : Int32)) hx hb dX5_readClause_80 (by decide) ?_
    refine lv_iadd hx hb dX5_readClause_81 ?_
    refine lv_topi (fun y_4 ey_4 => ?_)
    have h := xl_at ey_4 h
    refine va_put (ci := 5) (v := .int y_4) (ty := .int) (C := RX5) (T := TX5) (N := 6) hx hb hts (fun w h => .tail _ (u_inX5 w h)) tyX5 tyX5_ok nmX5 hown hK.1 hP hD hS 0 rfl rfl 4 (by decide) (hts _ (.tail _ u_fl_X5_25)) (fun _ h9 => h9) rfl (tyX5_ok 4 (by decide)) rfl rfl (Nat.le_of_ble_eq_true rfl) dX5_readClause_82 (fun H locs hP hD hS => ?_)
    have hP : va_P g.1 vwCl [oX5 q_t Q_t (F_t 1 0) (F_t 2 0) (F_t 3 0) y_4 (F_t 5 0), ia g (Q_t 0) 240 (F_t 0), oX4 q_a1 Q_a1 (F_a1 0 0) (F_a1 1 0) (F_a1 2 0), ia g (Q_a1 3) 8 (F_a1 3), ia g (Q_a1 4) 8 (F_a1 4), ia g (Q_a1 5) 10 (F_a1 5), ia g (Q_a1 6) 10 (F_a1 6), ia g (Q_a1 7) 10 (F_a1 7), ia g (Q_a1 8) 10 (F_a1 8)] H := hP
    have hD : va_D A [oX5 q_t Q_t (F_t 1 0) (F_t 2 0) (F_t 3 0) y_4 (F_t 5 0), ia g (Q_t 0) 240 (F_t 0), oX4 q_a1 Q_a1 (F_a1 0 0) (F_a1 1 0) (F_a1 2 0), ia g (Q_a1 3) 8 (F_a1 3), ia g (Q_a1 4) 8 (F_a1 4), ia g (Q_a1 5) 10 (F_a1 5), ia g (Q_a1 6) 10 (F_a1 6), ia g (Q_a1 7) 10 (F_a1 7), ia g (Q_a1 8) 10 (F_a1 8)] := hD
    refine lv_iload_n hx hb dX5_readClause_85 rfl (lv_at hl 2 rfl) ?_
    refine lv_bipush (v := (115 : Int32)) hx hb dX5_readClause_86 (by decide) ?_
    refine lv_icmp_ne (tgt := 99) hx hb dX5_readClause_88 (by decide) (fun c_5 => ?_) (fun c_5 => ?_)
    · have h := ox_f c_5 h
      refine lv_iload_n hx hb dX5_readClause_99 rfl (lv_at hl 2 rfl) ?_
      refine lv_bipush (v := (112 : Int32)) hx hb dX5_readClause_100 (by decide) ?_
      refine lv_icmp_ne (tgt := 113) hx hb dX5_readClause_102 (by decide) (fun c_6 => ?_) (fun c_6 => ?_)
      · have h := ox_f c_6 h
        refine lv_aload_n hx hb dX5_readClause_113 rfl (lv_at hl 0 rfl) ?_
        refine lv_aload_n hx hb dX5_readClause_114 rfl (lv_at hl 1 rfl) ?_
        obtain ⟨v_7, hv_7, h⟩ := ox_bind h
        refine kVv ⟨hx, hb, hml, hown, hts⟩ (c_X5_readChannel l g q_t Q_t q_a1 Q_a1 N (va_up F_t 4 (fun _ => y_4)) F_a1 v_7 hv_7 H.size) (gV u_ml_X5_64 u_im_X5_readChannel u_se_X5_readChannel u_ini_X5 u_co_X5_readChannel) hd_X5_readChannel ⟨rfl, rfl⟩ hK hP hD hS hA 0 5 rfl rfl [0, 1, 2, 4, 5, 6, 7, 8] [0, 1, 2, 11, 3, 4, 5, 6, 7] rfl rfl 8 rfl (w2 := [oX5 q_t Q_t (F_t 1 0) v_7.1 v_7.2.1 v_7.2.2.1 v_7.2.2.2.1, ia g (Q_t 0) 240 (F_t 0), oX4 q_a1 Q_a1 (F_a1 0 0) (F_a1 1 0) v_7.2.2.2.2.1, ia g (Q_a1 3) 8 (F_a1 3), ia g (Q_a1 4) 8 (F_a1 4), ia g (Q_a1 5) 10 v_7.2.2.2.2.2.1, ia g (Q_a1 6) 10 v_7.2.2.2.2.2.2.1, ia g (Q_a1 7) 10 v_7.2.2.2.2.2.2.2.1, ia g (Q_a1 8) 10 v_7.2.2.2.2.2.2.2.2]) rfl rfl (As := [.ref q_a1]) (rest := []) rfl hl.1 rfl rfl dX5_readClause_115 (fun H locs hP hD hS => ?_)
        obtain rfl := Option.some.inj h
        exact k_vret hx hb hr hlk hP hD hS dX5_readClause_118
      · have h := ox_t c_6 h
        refine lv_aload_n hx hb dX5_readClause_105 rfl (lv_at hl 0 rfl) ?_
        refine lv_aload_n hx hb dX5_readClause_106 rfl (lv_at hl 1 rfl) ?_
        obtain ⟨v_8, hv_8, h⟩ := ox_bind h
        refine kVv ⟨hx, hb, hml, hown, hts⟩ (c_X5_readPlace l g q_t Q_t q_a1 Q_a1 N (va_up F_t 4 (fun _ => y_4)) F_a1 v_8 hv_8 H.size) (gV u_ml_X5_61 u_im_X5_readPlace u_se_X5_readPlace u_ini_X5 u_co_X5_readPlace) hd_X5_readPlace ⟨rfl, rfl⟩ hK hP hD hS hA 0 5 rfl rfl [0, 1, 2, 3, 4] [0, 1, 2, 3, 4, 10, 11, 12, 13] rfl rfl 5 rfl (w2 := [oX5 q_t Q_t (F_t 1 0) v_8.1 v_8.2.1 v_8.2.2.1 v_8.2.2.2.1, ia g (Q_t 0) 240 (F_t 0), oX4 q_a1 Q_a1 (F_a1 0 0) v_8.2.2.2.2.1 (F_a1 2 0), ia g (Q_a1 3) 8 v_8.2.2.2.2.2.1, ia g (Q_a1 4) 8 v_8.2.2.2.2.2.2, ia g (Q_a1 5) 10 (F_a1 5), ia g (Q_a1 6) 10 (F_a1 6), ia g (Q_a1 7) 10 (F_a1 7), ia g (Q_a1 8) 10 (F_a1 8)]) rfl rfl (As := [.ref q_a1]) (rest := []) rfl hl.1 rfl rfl dX5_readClause_107 (fun H locs hP hD hS => ?_)
        refine lv_goto (tgt := 118) hx hb dX5_readClause_110 (by decide) ?_
        obtain rfl := Option.some.inj h
        exact k_vret hx hb hr hlk hP hD hS dX5_readClause_118
    · have h := ox_t c_5 h
      refine lv_aload_n hx hb dX5_readClause_91 rfl (lv_at hl 0 rfl) ?_
      refine lv_aload_n hx hb dX5_readClause_92 rfl (lv_at hl 1 rfl) ?_
      obtain ⟨v_9, hv_9, h⟩ := ox_bind h
      refine kVv ⟨hx, hb, hml, hown, hts⟩ (c_X5_readRoom l g q_t Q_t q_a1 Q_a1 N (va_up F_t 4 (fun _ => y_4)) F_a1 v_9 hv_9 H.size) (gV u_ml_X5_58 u_im_X5_readRoom u_se_X5_readRoom u_ini_X5 u_co_X5_readRoom) hd_X5_readRoom ⟨rfl, rfl⟩ hK hP hD hS hA 0 5 rfl rfl [0, 1, 2] [0, 1, 2, 6, 7, 8, 9, 10, 11] rfl rfl 3 rfl (w2 := [oX5 q_t Q_t (F_t 1 0) v_9.1 v_9.2.1 v_9.2.2.1 v_9.2.2.2.1, ia g (Q_t 0) 240 (F_t 0), oX4 q_a1 Q_a1 v_9.2.2.2.2 (F_a1 1 0) (F_a1 2 0), ia g (Q_a1 3) 8 (F_a1 3), ia g (Q_a1 4) 8 (F_a1 4), ia g (Q_a1 5) 10 (F_a1 5), ia g (Q_a1 6) 10 (F_a1 6), ia g (Q_a1 7) 10 (F_a1 7), ia g (Q_a1 8) 10 (F_a1 8)]) rfl rfl (As := [.ref q_a1]) (rest := []) rfl hl.1 rfl rfl dX5_readClause_93 (fun H locs hP hD hS => ?_)
      refine lv_goto (tgt := 118) hx hb dX5_readClause_96 (by decide) ?_
      obtain rfl := Option.some.inj h
      exact k_vret hx hb hr hlk hP hD hS dX5_readClause_118
  · have h := ox_t c_3 h
    refine lv_aload_n hx hb dX5_readClause_65 rfl (lv_at hl 0 rfl) ?_
    refine lv_iconst (v := (3 : Int32)) hx hb dX5_readClause_66 (by decide) ?_
    refine lv_aload_n hx hb dX5_readClause_67 rfl (lv_at hl 0 rfl) ?_
    refine va_get (ci := 5) (v := .int (F_t 4 0)) (C := RX5) (T := TX5) (N := 6) hx hb hts (fun w h => .tail _ (u_inX5 w h)) hown hK.1 hP 0 rfl rfl 4 (by decide) (hts _ (.tail _ u_fl_X5_25)) (fun _ h9 => h9) rfl dX5_readClause_68 ?_
    obtain ⟨v_10, hv_10, h⟩ := ox_bind h
    refine kVv ⟨hx, hb, hml, hown, hts⟩ (c_X5_blame l g q_t Q_t F_t (3 : Int32) (F_t 4 0) v_10 hv_10 H.size) (gV u_ml_X5_50 u_im_X5_blame u_se_X5_blame u_ini_X5 u_co_X5_blame) hd_X5_blame ⟨rfl, rfl⟩ hK hP hD hS hA 0 5 rfl rfl [0] [0, 2, 3, 4, 5, 6, 7, 8, 9] rfl rfl 1 rfl (w2 := [oX5 q_t Q_t (F_t 1 0) v_10.1 v_10.2 (F_t 4 0) (F_t 5 0), ia g (Q_t 0) 240 (F_t 0), oX4 q_a1 Q_a1 (F_a1 0 0) (F_a1 1 0) (F_a1 2 0), ia g (Q_a1 3) 8 (F_a1 3), ia g (Q_a1 4) 8 (F_a1 4), ia g (Q_a1 5) 10 (F_a1 5), ia g (Q_a1 6) 10 (F_a1 6), ia g (Q_a1 7) 10 (F_a1 7), ia g (Q_a1 8) 10 (F_a1 8)]) rfl rfl (As := [.int (3 : Int32), .int (F_t 4 0)]) (rest := []) rfl hl.1 rfl rfl dX5_readClause_71 (fun H locs hP hD hS => ?_)
    obtain rfl := Option.some.inj h
    exact k_vret hx hb hr hlk hP hD hS dX5_readClause_74
def x_X5_readClause_k28 (N : Nat) (F_t : St) (F_a1 : St) (x2 : Int32) (s0 : Int32) : Option (Int32 × Int32 × Int32 × Int32 × Int32 × Int32 × Int32 × (Nat → Int32) × (Nat → Int32) × (Nat → Int32) × (Nat → Int32) × (Nat → Int32) × (Nat → Int32)) :=
  if s0 = 0 then (x_X5_readClause_k46 N F_t F_a1) else (if (F_a1 0 0) = 0 then (if x2 = (115 : Int32) then (x_X5_readClause_k56 N F_t F_a1 x2) else (x_X5_readClause_k46 N F_t F_a1)) else (x_X5_readClause_k56 N F_t F_a1 x2))
set_option maxHeartbeats 4000000 in
set_option maxRecDepth 100000 in
theorem t_X5_readClause_k28 {p : Program} {l : Launch} {e : Env} {s : State} {m : MethodId} {args : Array Value} {below : List Frame} {meth : Method} {c : Code} {g : gG} {A : Nat → Prop} (E : En p s m args meth c g A cX5_readClause 4 (.code yX5_readClause cX5_readClause 4 none :: gW) RX5 none) (q_t : Nat) (Q_t : Ad) (q_a1 : Nat) (Q_a1 : Ad) (N : Nat) (F_t : St) (F_a1 : St) (x2 : Int32) (s0 : Int32) (o : Int32 × Int32 × Int32 × Int32 × Int32 × Int32 × Int32 × (Nat → Int32) × (Nat → Int32) × (Nat → Int32) × (Nat → Int32) × (Nat → Int32) × (Nat → Int32)) (h : x_X5_readClause_k28 N F_t F_a1 x2 s0 = some o) : WA p l e (rM 4 93) s m args below meth c g A (MQ below (QV g A [oX5 q_t Q_t (F_t 1 0) o.1 o.2.1 o.2.2.1 o.2.2.2.1, ia g (Q_t 0) 240 (F_t 0), oX4 q_a1 Q_a1 o.2.2.2.2.1 o.2.2.2.2.2.1 o.2.2.2.2.2.2.1, ia g (Q_a1 3) 8 o.2.2.2.2.2.2.2.1, ia g (Q_a1 4) 8 o.2.2.2.2.2.2.2.2.1, ia g (Q_a1 5) 10 o.2.2.2.2.2.2.2.2.2.1, ia g (Q_a1 6) 10 o.2.2.2.2.2.2.2.2.2.2.1, ia g (Q_a1 7) 10 o.2.2.2.2.2.2.2.2.2.2.2.1, ia g (Q_a1 8) 10 o.2.2.2.2.2.2.2.2.2.2.2.2]) args s 0 0 A) 4 28 [oX5 q_t Q_t (F_t 1 0) (F_t 2 0) (F_t 3 0) (F_t 4 0) (F_t 5 0), ia g (Q_t 0) 240 (F_t 0), oX4 q_a1 Q_a1 (F_a1 0 0) (F_a1 1 0) (F_a1 2 0), ia g (Q_a1 3) 8 (F_a1 3), ia g (Q_a1 4) 8 (F_a1 4), ia g (Q_a1 5) 10 (F_a1 5), ia g (Q_a1 6) 10 (F_a1 6), ia g (Q_a1 7) 10 (F_a1 7), ia g (Q_a1 8) 10 (F_a1 8)] [(0, .ref q_t), (1, .ref q_a1), (2, .int x2)] [.int s0] := by
  obtain ⟨⟨hx, hb, hml, hown, hts⟩, hr, hK, hA, hlk⟩ := id E
  intro H locs ls hP hD hS hl
  refine lv_istore_n (lv' := [(3, .int s0), (0, .ref q_t), (1, .ref q_a1), (2, .int x2)]) hx hb dX5_readClause_28 rfl hl (by decide) rfl (fun ls hl => ?_)
  refine lv_iload_n hx hb dX5_readClause_29 rfl (lv_at hl 0 rfl) ?_
  refine lv_if_eq (tgt := 46) hx hb dX5_readClause_30 (by decide) (fun c_11 => ?_) (fun c_11 => ?_)
  · have h := ox_t c_11 h
    exact t_X5_readClause_k46 E q_t Q_t q_a1 Q_a1 N F_t F_a1 _ h H locs ls hP hD hS (lv_sub hl [1] rfl)
  · have h := ox_f c_11 h
    refine lv_aload_n hx hb dX5_readClause_33 rfl (lv_at hl 2 rfl) ?_
    refine va_get (ci := 4) (v := .int (F_a1 0 0)) (C := RX4) (T := TX4) (N := 9) hx hb hts (fun w h => .tail _ (u_inX4 w h)) hown hK.1 hP 2 rfl rfl 0 (by decide) (hts _ (.tail _ u_fl_X5_47)) (fun _ h9 => h9) rfl dX5_readClause_34 ?_
    refine lv_if_ne (tgt := 56) hx hb dX5_readClause_37 (by decide) (fun c_12 => ?_) (fun c_12 => ?_)
    · have h := ox_f c_12 h
      exact t_X5_readClause_k56 E q_t Q_t q_a1 Q_a1 N F_t F_a1 x2 _ h H locs ls hP hD hS (lv_sub hl [1, 2, 3] rfl)
    · have h := ox_t c_12 h
      refine lv_iload_n hx hb dX5_readClause_40 rfl (lv_at hl 3 rfl) ?_
      refine lv_bipush (v := (115 : Int32)) hx hb dX5_readClause_41 (by decide) ?_
      refine lv_icmp_eq (tgt := 56) hx hb dX5_readClause_43 (by decide) (fun c_13 => ?_) (fun c_13 => ?_)
      · have h := ox_t c_13 h
        exact t_X5_readClause_k56 E q_t Q_t q_a1 Q_a1 N F_t F_a1 x2 _ h H locs ls hP hD hS (lv_sub hl [1, 2, 3] rfl)
      · have h := ox_f c_13 h
        exact t_X5_readClause_k46 E q_t Q_t q_a1 Q_a1 N F_t F_a1 _ h H locs ls hP hD hS (lv_sub hl [1] rfl)
def x_X5_readClause_k23 (N : Nat) (F_t : St) (F_a1 : St) (x2 : Int32) : Option (Int32 × Int32 × Int32 × Int32 × Int32 × Int32 × Int32 × (Nat → Int32) × (Nat → Int32) × (Nat → Int32) × (Nat → Int32) × (Nat → Int32) × (Nat → Int32)) :=
  x_X5_readClause_k28 N F_t F_a1 x2 (1 : Int32)
set_option maxHeartbeats 4000000 in
set_option maxRecDepth 100000 in
theorem t_X5_readClause_k23 {p : Program} {l : Launch} {e : Env} {s : State} {m : MethodId} {args : Array Value} {below : List Frame} {meth : Method} {c : Code} {g : gG} {A : Nat → Prop} (E : En p s m args meth c g A cX5_readClause 4 (.code yX5_readClause cX5_readClause 4 none :: gW) RX5 none) (q_t : Nat) (Q_t : Ad) (q_a1 : Nat) (Q_a1 : Ad) (N : Nat) (F_t : St) (F_a1 : St) (x2 : Int32) (o : Int32 × Int32 × Int32 × Int32 × Int32 × Int32 × Int32 × (Nat → Int32) × (Nat → Int32) × (Nat → Int32) × (Nat → Int32) × (Nat → Int32) × (Nat → Int32)) (h : x_X5_readClause_k23 N F_t F_a1 x2 = some o) : WA p l e (rM 4 93) s m args below meth c g A (MQ below (QV g A [oX5 q_t Q_t (F_t 1 0) o.1 o.2.1 o.2.2.1 o.2.2.2.1, ia g (Q_t 0) 240 (F_t 0), oX4 q_a1 Q_a1 o.2.2.2.2.1 o.2.2.2.2.2.1 o.2.2.2.2.2.2.1, ia g (Q_a1 3) 8 o.2.2.2.2.2.2.2.1, ia g (Q_a1 4) 8 o.2.2.2.2.2.2.2.2.1, ia g (Q_a1 5) 10 o.2.2.2.2.2.2.2.2.2.1, ia g (Q_a1 6) 10 o.2.2.2.2.2.2.2.2.2.2.1, ia g (Q_a1 7) 10 o.2.2.2.2.2.2.2.2.2.2.2.1, ia g (Q_a1 8) 10 o.2.2.2.2.2.2.2.2.2.2.2.2]) args s 0 0 A) 4 23 [oX5 q_t Q_t (F_t 1 0) (F_t 2 0) (F_t 3 0) (F_t 4 0) (F_t 5 0), ia g (Q_t 0) 240 (F_t 0), oX4 q_a1 Q_a1 (F_a1 0 0) (F_a1 1 0) (F_a1 2 0), ia g (Q_a1 3) 8 (F_a1 3), ia g (Q_a1 4) 8 (F_a1 4), ia g (Q_a1 5) 10 (F_a1 5), ia g (Q_a1 6) 10 (F_a1 6), ia g (Q_a1 7) 10 (F_a1 7), ia g (Q_a1 8) 10 (F_a1 8)] [(0, .ref q_t), (1, .ref q_a1), (2, .int x2)] [] := by
  obtain ⟨⟨hx, hb, hml, hown, hts⟩, hr, hK, hA, hlk⟩ := id E
  intro H locs ls hP hD hS hl
  refine lv_iconst (v := (1 : Int32)) hx hb dX5_readClause_23 (by decide) ?_
  refine lv_goto (tgt := 28) hx hb dX5_readClause_24 (by decide) ?_
  exact t_X5_readClause_k28 E q_t Q_t q_a1 Q_a1 N F_t F_a1 x2 (1 : Int32) _ h H locs ls hP hD hS hl
def x_X5_readClause (N : Nat) (F_t : St) (F_a1 : St) : Option (Int32 × Int32 × Int32 × Int32 × Int32 × Int32 × Int32 × (Nat → Int32) × (Nat → Int32) × (Nat → Int32) × (Nat → Int32) × (Nat → Int32) × (Nat → Int32)) :=
  Option.bind (x_X5_current F_t) (fun v_14 => if v_14 = (115 : Int32) then (x_X5_readClause_k23 N F_t F_a1 v_14) else (if v_14 = (112 : Int32) then (x_X5_readClause_k23 N F_t F_a1 v_14) else (if v_14 = (99 : Int32) then (x_X5_readClause_k23 N F_t F_a1 v_14) else (x_X5_readClause_k28 N F_t F_a1 v_14 (0 : Int32)))))
set_option maxHeartbeats 4000000 in
set_option maxRecDepth 100000 in
theorem t_X5_readClause {p : Program} {l : Launch} {e : Env} {s : State} {m : MethodId} {args : Array Value} {below : List Frame} {meth : Method} {c : Code} {g : gG} {A : Nat → Prop} (E : En p s m args meth c g A cX5_readClause 4 (.code yX5_readClause cX5_readClause 4 none :: gW) RX5 none) (q_t : Nat) (Q_t : Ad) (q_a1 : Nat) (Q_a1 : Ad) (N : Nat) (F_t : St) (F_a1 : St) (o : Int32 × Int32 × Int32 × Int32 × Int32 × Int32 × Int32 × (Nat → Int32) × (Nat → Int32) × (Nat → Int32) × (Nat → Int32) × (Nat → Int32) × (Nat → Int32)) (h : x_X5_readClause N F_t F_a1 = some o) : WA p l e (rM 4 93) s m args below meth c g A (MQ below (QV g A [oX5 q_t Q_t (F_t 1 0) o.1 o.2.1 o.2.2.1 o.2.2.2.1, ia g (Q_t 0) 240 (F_t 0), oX4 q_a1 Q_a1 o.2.2.2.2.1 o.2.2.2.2.2.1 o.2.2.2.2.2.2.1, ia g (Q_a1 3) 8 o.2.2.2.2.2.2.2.1, ia g (Q_a1 4) 8 o.2.2.2.2.2.2.2.2.1, ia g (Q_a1 5) 10 o.2.2.2.2.2.2.2.2.2.1, ia g (Q_a1 6) 10 o.2.2.2.2.2.2.2.2.2.2.1, ia g (Q_a1 7) 10 o.2.2.2.2.2.2.2.2.2.2.2.1, ia g (Q_a1 8) 10 o.2.2.2.2.2.2.2.2.2.2.2.2]) args s 0 0 A) 4 0 [oX5 q_t Q_t (F_t 1 0) (F_t 2 0) (F_t 3 0) (F_t 4 0) (F_t 5 0), ia g (Q_t 0) 240 (F_t 0), oX4 q_a1 Q_a1 (F_a1 0 0) (F_a1 1 0) (F_a1 2 0), ia g (Q_a1 3) 8 (F_a1 3), ia g (Q_a1 4) 8 (F_a1 4), ia g (Q_a1 5) 10 (F_a1 5), ia g (Q_a1 6) 10 (F_a1 6), ia g (Q_a1 7) 10 (F_a1 7), ia g (Q_a1 8) 10 (F_a1 8)] [(0, .ref q_t), (1, .ref q_a1)] [] := by
  obtain ⟨⟨hx, hb, hml, hown, hts⟩, hr, hK, hA, hlk⟩ := id E
  intro H locs ls hP hD hS hl
  refine lv_aload_n hx hb dX5_readClause_0 rfl (lv_at hl 0 rfl) ?_
  obtain ⟨v_14, hv_14, h⟩ := ox_bind h
  refine kVi ⟨hx, hb, hml, hown, hts⟩ (c_X5_current l g q_t Q_t F_t v_14 hv_14 H.size) (gV u_ml_X5_43 u_im_X5_current u_se_X5_current u_ini_X5 u_co_X5_current) hd_X5_current ⟨rfl, rfl⟩ hK hP hD hS hA 0 5 rfl rfl [0, 1] [0, 1, 4, 5, 6, 7, 8, 9, 10] rfl rfl 2 rfl (w2 := [oX5 q_t Q_t (F_t 1 0) (F_t 2 0) (F_t 3 0) (F_t 4 0) (F_t 5 0), ia g (Q_t 0) 240 (F_t 0), oX4 q_a1 Q_a1 (F_a1 0 0) (F_a1 1 0) (F_a1 2 0), ia g (Q_a1 3) 8 (F_a1 3), ia g (Q_a1 4) 8 (F_a1 4), ia g (Q_a1 5) 10 (F_a1 5), ia g (Q_a1 6) 10 (F_a1 6), ia g (Q_a1 7) 10 (F_a1 7), ia g (Q_a1 8) 10 (F_a1 8)]) rfl rfl (As := []) (rest := []) rfl hl.1 rfl rfl dX5_readClause_1 (fun H locs hP hD hS => ?_)
  refine lv_istore_n (lv' := [(2, .int v_14), (0, .ref q_t), (1, .ref q_a1)]) hx hb dX5_readClause_4 rfl hl (by decide) rfl (fun ls hl => ?_)
  refine lv_iload_n hx hb dX5_readClause_5 rfl (lv_at hl 0 rfl) ?_
  refine lv_bipush (v := (115 : Int32)) hx hb dX5_readClause_6 (by decide) ?_
  refine lv_icmp_eq (tgt := 23) hx hb dX5_readClause_8 (by decide) (fun c_15 => ?_) (fun c_15 => ?_)
  · have h := ox_t c_15 h
    exact t_X5_readClause_k23 E q_t Q_t q_a1 Q_a1 N F_t F_a1 v_14 _ h H locs ls hP hD hS (lv_sub hl [1, 2, 0] rfl)
  · have h := ox_f c_15 h
    refine lv_iload_n hx hb dX5_readClause_11 rfl (lv_at hl 0 rfl) ?_
    refine lv_bipush (v := (112 : Int32)) hx hb dX5_readClause_12 (by decide) ?_
    refine lv_icmp_eq (tgt := 23) hx hb dX5_readClause_14 (by decide) (fun c_16 => ?_) (fun c_16 => ?_)
    · have h := ox_t c_16 h
      exact t_X5_readClause_k23 E q_t Q_t q_a1 Q_a1 N F_t F_a1 v_14 _ h H locs ls hP hD hS (lv_sub hl [1, 2, 0] rfl)
    · have h := ox_f c_16 h
      refine lv_iload_n hx hb dX5_readClause_17 rfl (lv_at hl 0 rfl) ?_
      refine lv_bipush (v := (99 : Int32)) hx hb dX5_readClause_18 (by decide) ?_
      refine lv_icmp_ne (tgt := 27) hx hb dX5_readClause_20 (by decide) (fun c_17 => ?_) (fun c_17 => ?_)
      · have h := ox_f c_17 h
        refine lv_iconst (v := (0 : Int32)) hx hb dX5_readClause_27 (by decide) ?_
        exact t_X5_readClause_k28 E q_t Q_t q_a1 Q_a1 N F_t F_a1 v_14 (0 : Int32) _ h H locs ls hP hD hS (lv_sub hl [1, 2, 0] rfl)
      · have h := ox_t c_17 h
        exact t_X5_readClause_k23 E q_t Q_t q_a1 Q_a1 N F_t F_a1 v_14 _ h H locs ls hP hD hS (lv_sub hl [1, 2, 0] rfl)
set_option maxRecDepth 100000 in
theorem c_X5_readClause (l : Launch) (g : gG) (q_t : Nat) (Q_t : Ad) (q_a1 : Nat) (Q_a1 : Ad) (N : Nat) (F_t : St) (F_a1 : St) (o : Int32 × Int32 × Int32 × Int32 × Int32 × Int32 × Int32 × (Nat → Int32) × (Nat → Int32) × (Nat → Int32) × (Nat → Int32) × (Nat → Int32) × (Nat → Int32)) (h : x_X5_readClause N F_t F_a1 = some o) (sz : Nat) : MetV l yX5_readClause (.code yX5_readClause cX5_readClause 4 none :: gW) 4 93 [.ref q_t, .ref q_a1] g [oX5 q_t Q_t (F_t 1 0) (F_t 2 0) (F_t 3 0) (F_t 4 0) (F_t 5 0), ia g (Q_t 0) 240 (F_t 0), oX4 q_a1 Q_a1 (F_a1 0 0) (F_a1 1 0) (F_a1 2 0), ia g (Q_a1 3) 8 (F_a1 3), ia g (Q_a1 4) 8 (F_a1 4), ia g (Q_a1 5) 10 (F_a1 5), ia g (Q_a1 6) 10 (F_a1 6), ia g (Q_a1 7) 10 (F_a1 7), ia g (Q_a1 8) 10 (F_a1 8)] [oX5 q_t Q_t (F_t 1 0) o.1 o.2.1 o.2.2.1 o.2.2.2.1, ia g (Q_t 0) 240 (F_t 0), oX4 q_a1 Q_a1 o.2.2.2.2.1 o.2.2.2.2.2.1 o.2.2.2.2.2.2.1, ia g (Q_a1 3) 8 o.2.2.2.2.2.2.2.1, ia g (Q_a1 4) 8 o.2.2.2.2.2.2.2.2.1, ia g (Q_a1 5) 10 o.2.2.2.2.2.2.2.2.2.1, ia g (Q_a1 6) 10 o.2.2.2.2.2.2.2.2.2.2.1, ia g (Q_a1 7) 10 o.2.2.2.2.2.2.2.2.2.2.2.1, ia g (Q_a1 8) 10 o.2.2.2.2.2.2.2.2.2.2.2.2] sz :=
  mkV (av := [.ref q_t, .ref q_a1]) (by decide +kernel) rfl (fun p e s m below meth c A E H locs ls hP hD hS hl => t_X5_readClause E q_t Q_t q_a1 Q_a1 N F_t F_a1 o h H locs ls hP hD hS hl) sz
def x_X5_read_b25 (N : Nat) (F_t : St) (F_a1 : St) (x2 : Int32) : Option ((Int32 × Int32 × Int32 × Int32 × Int32 × Int32 × Int32 × Int32 × (Nat → Int32) × (Nat → Int32) × (Nat → Int32) × (Nat → Int32) × (Nat → Int32) × (Nat → Int32)) ⊕ (Int32 × Int32 × Int32 × Int32 × Int32 × Int32 × Int32 × (Nat → Int32) × (Nat → Int32) × (Nat → Int32) × (Nat → Int32) × (Nat → Int32) × (Nat → Int32))) :=
  if (240 : Int32) ≤ x2 then (some (.inr ((F_t 2 0), (F_t 3 0), (F_t 4 0), (F_t 5 0), (F_a1 0 0), (F_a1 1 0), (F_a1 2 0), (F_a1 3), (F_a1 4), (F_a1 5), (F_a1 6), (F_a1 7), (F_a1 8)))) else (if (F_t 1 0) ≤ (F_t 4 0) then (some (.inr ((F_t 2 0), (F_t 3 0), (F_t 4 0), (F_t 5 0), (F_a1 0 0), (F_a1 1 0), (F_a1 2 0), (F_a1 3), (F_a1 4), (F_a1 5), (F_a1 6), (F_a1 7), (F_a1 8)))) else (if (F_t 2 0) = 0 then (Option.bind (x_X5_readClause N F_t F_a1) (fun v_6 => Option.bind (x_X5_skipBlanks N (va_up (va_up (va_up (va_up F_t 2 (fun _ => v_6.1)) 3 (fun _ => v_6.2.1)) 4 (fun _ => v_6.2.2.1)) 5 (fun _ => v_6.2.2.2.1))) (fun v_7 => some (.inl ((x2 + (1 : Int32)), v_6.1, v_6.2.1, v_7, v_6.2.2.2.1, v_6.2.2.2.2.1, v_6.2.2.2.2.2.1, v_6.2.2.2.2.2.2.1, v_6.2.2.2.2.2.2.2.1, v_6.2.2.2.2.2.2.2.2.1, v_6.2.2.2.2.2.2.2.2.2.1, v_6.2.2.2.2.2.2.2.2.2.2.1, v_6.2.2.2.2.2.2.2.2.2.2.2.1, v_6.2.2.2.2.2.2.2.2.2.2.2.2))))) else (some (.inr ((F_t 2 0), (F_t 3 0), (F_t 4 0), (F_t 5 0), (F_a1 0 0), (F_a1 1 0), (F_a1 2 0), (F_a1 3), (F_a1 4), (F_a1 5), (F_a1 6), (F_a1 7), (F_a1 8))))))
set_option maxHeartbeats 4000000 in
set_option maxRecDepth 100000 in
theorem t_X5_read_b25 {p : Program} {l : Launch} {e : Env} {s : State} {m : MethodId} {args : Array Value} {below : List Frame} {meth : Method} {c : Code} {g : gG} {A : Nat → Prop} {Q : State → Prop} (E : En p s m args meth c g A cX5_read 3 (.code yX5_read cX5_read 3 none :: gW) RX5 none) (q_t : Nat) (Q_t : Ad) (q_a1 : Nat) (Q_a1 : Ad) (N : Nat) (F_t : St) (F_a1 : St) (x2 : Int32) (o : (Int32 × Int32 × Int32 × Int32 × Int32 × Int32 × Int32 × Int32 × (Nat → Int32) × (Nat → Int32) × (Nat → Int32) × (Nat → Int32) × (Nat → Int32) × (Nat → Int32)) ⊕ (Int32 × Int32 × Int32 × Int32 × Int32 × Int32 × Int32 × (Nat → Int32) × (Nat → Int32) × (Nat → Int32) × (Nat → Int32) × (Nat → Int32) × (Nat → Int32))) (h : x_X5_read_b25 N F_t F_a1 x2 = some o) (hc : ∀ z, o = .inl z → WA p l e (rM 5 116) s m args below meth c g A Q 3 25 [oX5 q_t Q_t (F_t 1 0) z.2.1 z.2.2.1 z.2.2.2.1 z.2.2.2.2.1, ia g (Q_t 0) 240 (F_t 0), oX4 q_a1 Q_a1 z.2.2.2.2.2.1 z.2.2.2.2.2.2.1 z.2.2.2.2.2.2.2.1, ia g (Q_a1 3) 8 z.2.2.2.2.2.2.2.2.1, ia g (Q_a1 4) 8 z.2.2.2.2.2.2.2.2.2.1, ia g (Q_a1 5) 10 z.2.2.2.2.2.2.2.2.2.2.1, ia g (Q_a1 6) 10 z.2.2.2.2.2.2.2.2.2.2.2.1, ia g (Q_a1 7) 10 z.2.2.2.2.2.2.2.2.2.2.2.2.1, ia g (Q_a1 8) 10 z.2.2.2.2.2.2.2.2.2.2.2.2.2] [(0, .ref q_t), (1, .ref q_a1), (2, .int z.1)] []) (he : ∀ v, o = .inr v → WA p l e (rM 5 116) s m args below meth c g A Q 3 65 [oX5 q_t Q_t (F_t 1 0) v.1 v.2.1 v.2.2.1 v.2.2.2.1, ia g (Q_t 0) 240 (F_t 0), oX4 q_a1 Q_a1 v.2.2.2.2.1 v.2.2.2.2.2.1 v.2.2.2.2.2.2.1, ia g (Q_a1 3) 8 v.2.2.2.2.2.2.2.1, ia g (Q_a1 4) 8 v.2.2.2.2.2.2.2.2.1, ia g (Q_a1 5) 10 v.2.2.2.2.2.2.2.2.2.1, ia g (Q_a1 6) 10 v.2.2.2.2.2.2.2.2.2.2.1, ia g (Q_a1 7) 10 v.2.2.2.2.2.2.2.2.2.2.2.1, ia g (Q_a1 8) 10 v.2.2.2.2.2.2.2.2.2.2.2.2] [(0, .ref q_t)] []) : WA p l e (rM 5 116) s m args below meth c g A Q 3 25 [oX5 q_t Q_t (F_t 1 0) (F_t 2 0) (F_t 3 0) (F_t 4 0) (F_t 5 0), ia g (Q_t 0) 240 (F_t 0), oX4 q_a1 Q_a1 (F_a1 0 0) (F_a1 1 0) (F_a1 2 0), ia g (Q_a1 3) 8 (F_a1 3), ia g (Q_a1 4) 8 (F_a1 4), ia g (Q_a1 5) 10 (F_a1 5), ia g (Q_a1 6) 10 (F_a1 6), ia g (Q_a1 7) 10 (F_a1 7), ia g (Q_a1 8) 10 (F_a1 8)] [(0, .ref q_t), (1, .ref q_a1), (2, .int x2)] [] := by
  obtain ⟨⟨hx, hb, hml, hown, hts⟩, hr, hK, hA, hlk⟩ := id E
  intro H locs ls hP hD hS hl
  refine lv_iload_n hx hb dX5_read_25 rfl (lv_at hl 2 rfl) ?_
  refine lv_sipush (v := (240 : Int32)) hx hb dX5_read_26 (by decide) ?_
  refine lv_icmp_ge (tgt := 65) hx hb dX5_read_29 (by decide) (fun c_3 => ?_) (fun c_3 => ?_)
  · have h := ox_t c_3 h
    obtain rfl := Option.some.inj h
    exact he _ rfl H locs ls hP hD hS (lv_sub hl [0] rfl)
  · have h := ox_f c_3 h
    refine lv_aload_n hx hb dX5_read_32 rfl (lv_at hl 0 rfl) ?_
    refine va_get (ci := 5) (v := .int (F_t 4 0)) (C := RX5) (T := TX5) (N := 6) hx hb hts (fun w h => .tail _ (u_inX5 w h)) hown hK.1 hP 0 rfl rfl 4 (by decide) (hts _ (.tail _ u_fl_X5_25)) (fun _ h9 => h9) rfl dX5_read_33 ?_
    refine lv_aload_n hx hb dX5_read_36 rfl (lv_at hl 0 rfl) ?_
    refine va_get (ci := 5) (v := .int (F_t 1 0)) (C := RX5) (T := TX5) (N := 6) hx hb hts (fun w h => .tail _ (u_inX5 w h)) hown hK.1 hP 0 rfl rfl 1 (by decide) (hts _ (.tail _ u_fl_X5_15)) (fun _ h9 => h9) rfl dX5_read_37 ?_
    refine lv_icmp_ge (tgt := 65) hx hb dX5_read_40 (by decide) (fun c_4 => ?_) (fun c_4 => ?_)
    · have h := ox_t c_4 h
      obtain rfl := Option.some.inj h
      exact he _ rfl H locs ls hP hD hS (lv_sub hl [0] rfl)
    · have h := ox_f c_4 h
      refine lv_aload_n hx hb dX5_read_43 rfl (lv_at hl 0 rfl) ?_
      refine va_get (ci := 5) (v := .int (F_t 2 0)) (C := RX5) (T := TX5) (N := 6) hx hb hts (fun w h => .tail _ (u_inX5 w h)) hown hK.1 hP 0 rfl rfl 2 (by decide) (hts _ (.tail _ u_fl_X5_19)) (fun _ h9 => h9) rfl dX5_read_44 ?_
      refine lv_if_ne (tgt := 65) hx hb dX5_read_47 (by decide) (fun c_5 => ?_) (fun c_5 => ?_)
      · have h := ox_f c_5 h
        obtain rfl := Option.some.inj h
        exact he _ rfl H locs ls hP hD hS (lv_sub hl [0] rfl)
      · have h := ox_t c_5 h
        refine lv_aload_n hx hb dX5_read_50 rfl (lv_at hl 0 rfl) ?_
        refine lv_aload_n hx hb dX5_read_51 rfl (lv_at hl 1 rfl) ?_
        obtain ⟨v_6, hv_6, h⟩ := ox_bind h
        refine kVv ⟨hx, hb, hml, hown, hts⟩ (c_X5_readClause l g q_t Q_t q_a1 Q_a1 N F_t F_a1 v_6 hv_6 H.size) (gV u_ml_X5_39 u_im_X5_readClause u_se_X5_readClause u_ini_X5 u_co_X5_readClause) hd_X5_readClause ⟨rfl, rfl⟩ hK hP hD hS hA 0 5 rfl rfl [0, 1, 2, 3, 4, 5, 6, 7, 8] [0, 1, 2, 3, 4, 5, 6, 7, 8] rfl rfl 9 rfl (w2 := [oX5 q_t Q_t (F_t 1 0) v_6.1 v_6.2.1 v_6.2.2.1 v_6.2.2.2.1, ia g (Q_t 0) 240 (F_t 0), oX4 q_a1 Q_a1 v_6.2.2.2.2.1 v_6.2.2.2.2.2.1 v_6.2.2.2.2.2.2.1, ia g (Q_a1 3) 8 v_6.2.2.2.2.2.2.2.1, ia g (Q_a1 4) 8 v_6.2.2.2.2.2.2.2.2.1, ia g (Q_a1 5) 10 v_6.2.2.2.2.2.2.2.2.2.1, ia g (Q_a1 6) 10 v_6.2.2.2.2.2.2.2.2.2.2.1, ia g (Q_a1 7) 10 v_6.2.2.2.2.2.2.2.2.2.2.2.1, ia g (Q_a1 8) 10 v_6.2.2.2.2.2.2.2.2.2.2.2.2]) rfl rfl (As := [.ref q_a1]) (rest := []) rfl hl.1 rfl rfl dX5_read_52 (fun H locs hP hD hS => ?_)
        refine lv_aload_n hx hb dX5_read_55 rfl (lv_at hl 0 rfl) ?_
        obtain ⟨v_7, hv_7, h⟩ := ox_bind h
        refine kVv ⟨hx, hb, hml, hown, hts⟩ (c_X5_skipBlanks l g q_t Q_t N (va_up (va_up (va_up (va_up F_t 2 (fun _ => v_6.1)) 3 (fun _ => v_6.2.1)) 4 (fun _ => v_6.2.2.1)) 5 (fun _ => v_6.2.2.2.1)) v_7 hv_7 H.size) (gV u_ml_X5_36 u_im_X5_skipBlanks u_se_X5_skipBlanks u_ini_X5 u_co_X5_skipBlanks) hd_X5_skipBlanks ⟨rfl, rfl⟩ hK hP hD hS hA 0 5 rfl rfl [0, 1] [0, 1, 4, 5, 6, 7, 8, 9, 10] rfl rfl 2 rfl (w2 := [oX5 q_t Q_t (F_t 1 0) v_6.1 v_6.2.1 v_7 v_6.2.2.2.1, ia g (Q_t 0) 240 (F_t 0), oX4 q_a1 Q_a1 v_6.2.2.2.2.1 v_6.2.2.2.2.2.1 v_6.2.2.2.2.2.2.1, ia g (Q_a1 3) 8 v_6.2.2.2.2.2.2.2.1, ia g (Q_a1 4) 8 v_6.2.2.2.2.2.2.2.2.1, ia g (Q_a1 5) 10 v_6.2.2.2.2.2.2.2.2.2.1, ia g (Q_a1 6) 10 v_6.2.2.2.2.2.2.2.2.2.2.1, ia g (Q_a1 7) 10 v_6.2.2.2.2.2.2.2.2.2.2.2.1, ia g (Q_a1 8) 10 v_6.2.2.2.2.2.2.2.2.2.2.2.2]) rfl rfl (As := []) (rest := []) rfl hl.1 rfl rfl dX5_read_56 (fun H locs hP hD hS => ?_)
        refine lv_iinc (v := (x2 + (1 : Int32))) (lv' := [(2, .int (x2 + (1 : Int32))), (0, .ref q_t), (1, .ref q_a1)]) hx hb dX5_read_59 hl (k := 2) rfl rfl (by decide) rfl (fun ls hl => ?_)
        refine lv_goto (tgt := 25) hx hb dX5_read_62 (by decide) ?_
        obtain rfl := Option.some.inj h
        exact hc _ rfl H locs ls hP hD hS (lv_sub hl [1, 2, 0] rfl)
def x_X5_read (N : Nat) (F_t : St) (F_a1 : St) : Option (Int32 × Int32 × Int32 × Int32 × Int32 × Int32 × Int32 × Int32 × (Nat → Int32) × (Nat → Int32) × (Nat → Int32) × (Nat → Int32) × (Nat → Int32) × (Nat → Int32)) :=
  Option.bind (x_X4_wipe F_a1) (fun v_1 => Option.bind (x_X5_skipBlanks N (va_up (va_up (va_up F_t 2 (fun _ => (0 : Int32))) 3 (fun _ => (-1 : Int32))) 4 (fun _ => (0 : Int32)))) (fun v_2 => Option.bind (lpc (fun (z : Int32 × Int32 × Int32 × Int32 × Int32 × Int32 × Int32 × Int32 × (Nat → Int32) × (Nat → Int32) × (Nat → Int32) × (Nat → Int32) × (Nat → Int32) × (Nat → Int32)) => x_X5_read_b25 N (va_up (va_up (va_up (va_up F_t 2 (fun _ => z.2.1)) 3 (fun _ => z.2.2.1)) 4 (fun _ => z.2.2.2.1)) 5 (fun _ => z.2.2.2.2.1)) (va_up (va_up (va_up (va_up (va_up (va_up (va_up (va_up (va_up F_a1 0 (fun _ => z.2.2.2.2.2.1)) 1 (fun _ => z.2.2.2.2.2.2.1)) 2 (fun _ => z.2.2.2.2.2.2.2.1)) 3 z.2.2.2.2.2.2.2.2.1) 4 z.2.2.2.2.2.2.2.2.2.1) 5 z.2.2.2.2.2.2.2.2.2.2.1) 6 z.2.2.2.2.2.2.2.2.2.2.2.1) 7 z.2.2.2.2.2.2.2.2.2.2.2.2.1) 8 z.2.2.2.2.2.2.2.2.2.2.2.2.2) z.1) N ((0 : Int32), (0 : Int32), (-1 : Int32), v_2, (F_t 5 0), v_1.1, v_1.2.1, v_1.2.2, (F_a1 3), (F_a1 4), (F_a1 5), (F_a1 6), (F_a1 7), (F_a1 8))) (fun v_8 => some ((0 : Int32), v_8.1, v_8.2.1, v_8.2.2.1, v_8.2.2.2.1, v_8.2.2.2.2.1, v_8.2.2.2.2.2.1, v_8.2.2.2.2.2.2.1, v_8.2.2.2.2.2.2.2.1, v_8.2.2.2.2.2.2.2.2.1, v_8.2.2.2.2.2.2.2.2.2.1, v_8.2.2.2.2.2.2.2.2.2.2.1, v_8.2.2.2.2.2.2.2.2.2.2.2.1, v_8.2.2.2.2.2.2.2.2.2.2.2.2))))
set_option maxHeartbeats 4000000 in
set_option maxRecDepth 100000 in
theorem t_X5_read {p : Program} {l : Launch} {e : Env} {s : State} {m : MethodId} {args : Array Value} {below : List Frame} {meth : Method} {c : Code} {g : gG} {A : Nat → Prop} (E : En p s m args meth c g A cX5_read 3 (.code yX5_read cX5_read 3 none :: gW) RX5 none) (q_t : Nat) (Q_t : Ad) (q_a1 : Nat) (Q_a1 : Ad) (N : Nat) (F_t : St) (F_a1 : St) (o : Int32 × Int32 × Int32 × Int32 × Int32 × Int32 × Int32 × Int32 × (Nat → Int32) × (Nat → Int32) × (Nat → Int32) × (Nat → Int32) × (Nat → Int32) × (Nat → Int32)) (h : x_X5_read N F_t F_a1 = some o) : WA p l e (rM 5 116) s m args below meth c g A (MQ below (QV g A [oX5 q_t Q_t o.1 o.2.1 o.2.2.1 o.2.2.2.1 o.2.2.2.2.1, ia g (Q_t 0) 240 (F_t 0), oX4 q_a1 Q_a1 o.2.2.2.2.2.1 o.2.2.2.2.2.2.1 o.2.2.2.2.2.2.2.1, ia g (Q_a1 3) 8 o.2.2.2.2.2.2.2.2.1, ia g (Q_a1 4) 8 o.2.2.2.2.2.2.2.2.2.1, ia g (Q_a1 5) 10 o.2.2.2.2.2.2.2.2.2.2.1, ia g (Q_a1 6) 10 o.2.2.2.2.2.2.2.2.2.2.2.1, ia g (Q_a1 7) 10 o.2.2.2.2.2.2.2.2.2.2.2.2.1, ia g (Q_a1 8) 10 o.2.2.2.2.2.2.2.2.2.2.2.2.2]) args s 0 0 A) 3 0 [oX5 q_t Q_t (F_t 1 0) (F_t 2 0) (F_t 3 0) (F_t 4 0) (F_t 5 0), ia g (Q_t 0) 240 (F_t 0), oX4 q_a1 Q_a1 (F_a1 0 0) (F_a1 1 0) (F_a1 2 0), ia g (Q_a1 3) 8 (F_a1 3), ia g (Q_a1 4) 8 (F_a1 4), ia g (Q_a1 5) 10 (F_a1 5), ia g (Q_a1 6) 10 (F_a1 6), ia g (Q_a1 7) 10 (F_a1 7), ia g (Q_a1 8) 10 (F_a1 8)] [(0, .ref q_t), (1, .ref q_a1)] [] := by
  obtain ⟨⟨hx, hb, hml, hown, hts⟩, hr, hK, hA, hlk⟩ := id E
  intro H locs ls hP hD hS hl
  refine lv_aload_n hx hb dX5_read_0 rfl (lv_at hl 1 rfl) ?_
  obtain ⟨v_1, hv_1, h⟩ := ox_bind h
  refine kVv ⟨hx, hb, hml, hown, hts⟩ (c_X4_wipe l g q_a1 Q_a1 F_a1 v_1 hv_1 H.size) (gV u_ml_X5_31 u_im_X4_wipe u_se_X4_wipe u_ini_X4 u_co_X4_wipe) hd_X4_wipe ⟨rfl, rfl⟩ hK hP hD hS hA 2 4 rfl rfl [2] [1, 2, 0, 4, 5, 6, 7, 8, 9] rfl rfl 1 rfl (w2 := [oX5 q_t Q_t (F_t 1 0) (F_t 2 0) (F_t 3 0) (F_t 4 0) (F_t 5 0), ia g (Q_t 0) 240 (F_t 0), oX4 q_a1 Q_a1 v_1.1 v_1.2.1 v_1.2.2, ia g (Q_a1 3) 8 (F_a1 3), ia g (Q_a1 4) 8 (F_a1 4), ia g (Q_a1 5) 10 (F_a1 5), ia g (Q_a1 6) 10 (F_a1 6), ia g (Q_a1 7) 10 (F_a1 7), ia g (Q_a1 8) 10 (F_a1 8)]) rfl rfl (As := []) (rest := []) rfl hl.1 rfl rfl dX5_read_1 (fun H locs hP hD hS => ?_)
  refine lv_aload_n hx hb dX5_read_4 rfl (lv_at hl 0 rfl) ?_
  refine lv_iconst (v := (0 : Int32)) hx hb dX5_read_5 (by decide) ?_
  refine va_put (ci := 5) (v := .int (0 : Int32)) (ty := .int) (C := RX5) (T := TX5) (N := 6) hx hb hts (fun w h => .tail _ (u_inX5 w h)) tyX5 tyX5_ok nmX5 hown hK.1 hP hD hS 0 rfl rfl 4 (by decide) (hts _ (.tail _ u_fl_X5_25)) (fun _ h9 => h9) rfl (tyX5_ok 4 (by decide)) rfl rfl (Nat.le_of_ble_eq_true rfl) dX5_read_6 (fun H locs hP hD hS => ?_)
  have hP : va_P g.1 vwCl [oX5 q_t Q_t (F_t 1 0) (F_t 2 0) (F_t 3 0) (0 : Int32) (F_t 5 0), ia g (Q_t 0) 240 (F_t 0), oX4 q_a1 Q_a1 v_1.1 v_1.2.1 v_1.2.2, ia g (Q_a1 3) 8 (F_a1 3), ia g (Q_a1 4) 8 (F_a1 4), ia g (Q_a1 5) 10 (F_a1 5), ia g (Q_a1 6) 10 (F_a1 6), ia g (Q_a1 7) 10 (F_a1 7), ia g (Q_a1 8) 10 (F_a1 8)] H := hP
  have hD : va_D A [oX5 q_t Q_t (F_t 1 0) (F_t 2 0) (F_t 3 0) (0 : Int32) (F_t 5 0), ia g (Q_t 0) 240 (F_t 0), oX4 q_a1 Q_a1 v_1.1 v_1.2.1 v_1.2.2, ia g (Q_a1 3) 8 (F_a1 3), ia g (Q_a1 4) 8 (F_a1 4), ia g (Q_a1 5) 10 (F_a1 5), ia g (Q_a1 6) 10 (F_a1 6), ia g (Q_a1 7) 10 (F_a1 7), ia g (Q_a1 8) 10 (F_a1 8)] := hD
  refine lv_aload_n hx hb dX5_read_9 rfl (lv_at hl 0 rfl) ?_
  refine lv_iconst (v := (0 : Int32)) hx hb dX5_read_10 (by decide) ?_
  refine va_put (ci := 5) (v := .int (0 : Int32)) (ty := .int) (C := RX5) (T := TX5) (N := 6) hx hb hts (fun w h => .tail _ (u_inX5 w h)) tyX5 tyX5_ok nmX5 hown hK.1 hP hD hS 0 rfl rfl 2 (by decide) (hts _ (.tail _ u_fl_X5_19)) (fun _ h9 => h9) rfl (tyX5_ok 2 (by decide)) rfl rfl (Nat.le_of_ble_eq_true rfl) dX5_read_11 (fun H locs hP hD hS => ?_)
  have hP : va_P g.1 vwCl [oX5 q_t Q_t (F_t 1 0) (0 : Int32) (F_t 3 0) (0 : Int32) (F_t 5 0), ia g (Q_t 0) 240 (F_t 0), oX4 q_a1 Q_a1 v_1.1 v_1.2.1 v_1.2.2, ia g (Q_a1 3) 8 (F_a1 3), ia g (Q_a1 4) 8 (F_a1 4), ia g (Q_a1 5) 10 (F_a1 5), ia g (Q_a1 6) 10 (F_a1 6), ia g (Q_a1 7) 10 (F_a1 7), ia g (Q_a1 8) 10 (F_a1 8)] H := hP
  have hD : va_D A [oX5 q_t Q_t (F_t 1 0) (0 : Int32) (F_t 3 0) (0 : Int32) (F_t 5 0), ia g (Q_t 0) 240 (F_t 0), oX4 q_a1 Q_a1 v_1.1 v_1.2.1 v_1.2.2, ia g (Q_a1 3) 8 (F_a1 3), ia g (Q_a1 4) 8 (F_a1 4), ia g (Q_a1 5) 10 (F_a1 5), ia g (Q_a1 6) 10 (F_a1 6), ia g (Q_a1 7) 10 (F_a1 7), ia g (Q_a1 8) 10 (F_a1 8)] := hD
  refine lv_aload_n hx hb dX5_read_14 rfl (lv_at hl 0 rfl) ?_
  refine lv_iconst (v := (-1 : Int32)) hx hb dX5_read_15 (by decide) ?_
  refine va_put (ci := 5) (v := .int (-1 : Int32)) (ty := .int) (C := RX5) (T := TX5) (N := 6) hx hb hts (fun w h => .tail _ (u_inX5 w h)) tyX5 tyX5_ok nmX5 hown hK.1 hP hD hS 0 rfl rfl 3 (by decide) (hts _ (.tail _ u_fl_X5_22)) (fun _ h9 => h9) rfl (tyX5_ok 3 (by decide)) rfl rfl (Nat.le_of_ble_eq_true rfl) dX5_read_16 (fun H locs hP hD hS => ?_)
  have hP : va_P g.1 vwCl [oX5 q_t Q_t (F_t 1 0) (0 : Int32) (-1 : Int32) (0 : Int32) (F_t 5 0), ia g (Q_t 0) 240 (F_t 0), oX4 q_a1 Q_a1 v_1.1 v_1.2.1 v_1.2.2, ia g (Q_a1 3) 8 (F_a1 3), ia g (Q_a1 4) 8 (F_a1 4), ia g (Q_a1 5) 10 (F_a1 5), ia g (Q_a1 6) 10 (F_a1 6), ia g (Q_a1 7) 10 (F_a1 7), ia g (Q_a1 8) 10 (F_a1 8)] H := hP
  have hD : va_D A [oX5 q_t Q_t (F_t 1 0) (0 : Int32) (-1 : Int32) (0 : Int32) (F_t 5 0), ia g (Q_t 0) 240 (F_t 0), oX4 q_a1 Q_a1 v_1.1 v_1.2.1 v_1.2.2, ia g (Q_a1 3) 8 (F_a1 3), ia g (Q_a1 4) 8 (F_a1 4), ia g (Q_a1 5) 10 (F_a1 5), ia g (Q_a1 6) 10 (F_a1 6), ia g (Q_a1 7) 10 (F_a1 7), ia g (Q_a1 8) 10 (F_a1 8)] := hD
  refine lv_aload_n hx hb dX5_read_19 rfl (lv_at hl 0 rfl) ?_
  obtain ⟨v_2, hv_2, h⟩ := ox_bind h
  refine kVv ⟨hx, hb, hml, hown, hts⟩ (c_X5_skipBlanks l g q_t Q_t N (va_up (va_up (va_up F_t 2 (fun _ => (0 : Int32))) 3 (fun _ => (-1 : Int32))) 4 (fun _ => (0 : Int32))) v_2 hv_2 H.size) (gV u_ml_X5_36 u_im_X5_skipBlanks u_se_X5_skipBlanks u_ini_X5 u_co_X5_skipBlanks) hd_X5_skipBlanks ⟨rfl, rfl⟩ hK hP hD hS hA 0 5 rfl rfl [0, 1] [0, 1, 4, 5, 6, 7, 8, 9, 10] rfl rfl 2 rfl (w2 := [oX5 q_t Q_t (F_t 1 0) (0 : Int32) (-1 : Int32) v_2 (F_t 5 0), ia g (Q_t 0) 240 (F_t 0), oX4 q_a1 Q_a1 v_1.1 v_1.2.1 v_1.2.2, ia g (Q_a1 3) 8 (F_a1 3), ia g (Q_a1 4) 8 (F_a1 4), ia g (Q_a1 5) 10 (F_a1 5), ia g (Q_a1 6) 10 (F_a1 6), ia g (Q_a1 7) 10 (F_a1 7), ia g (Q_a1 8) 10 (F_a1 8)]) rfl rfl (As := []) (rest := []) rfl hl.1 rfl rfl dX5_read_20 (fun H locs hP hD hS => ?_)
  refine lv_iconst (v := (0 : Int32)) hx hb dX5_read_23 (by decide) ?_
  refine lv_istore_n (lv' := [(2, .int (0 : Int32)), (0, .ref q_t), (1, .ref q_a1)]) hx hb dX5_read_24 rfl hl (by decide) rfl (fun ls hl => ?_)
  obtain ⟨v_8, hv_8, h⟩ := ox_bind h
  refine lpc_W (Wh := fun (z : Int32 × Int32 × Int32 × Int32 × Int32 × Int32 × Int32 × Int32 × (Nat → Int32) × (Nat → Int32) × (Nat → Int32) × (Nat → Int32) × (Nat → Int32) × (Nat → Int32)) => WA p l e (rM 5 116) s m args below meth c g A (MQ below (QV g A [oX5 q_t Q_t o.1 o.2.1 o.2.2.1 o.2.2.2.1 o.2.2.2.2.1, ia g (Q_t 0) 240 (F_t 0), oX4 q_a1 Q_a1 o.2.2.2.2.2.1 o.2.2.2.2.2.2.1 o.2.2.2.2.2.2.2.1, ia g (Q_a1 3) 8 o.2.2.2.2.2.2.2.2.1, ia g (Q_a1 4) 8 o.2.2.2.2.2.2.2.2.2.1, ia g (Q_a1 5) 10 o.2.2.2.2.2.2.2.2.2.2.1, ia g (Q_a1 6) 10 o.2.2.2.2.2.2.2.2.2.2.2.1, ia g (Q_a1 7) 10 o.2.2.2.2.2.2.2.2.2.2.2.2.1, ia g (Q_a1 8) 10 o.2.2.2.2.2.2.2.2.2.2.2.2.2]) args s 0 0 A) 3 25 [oX5 q_t Q_t (F_t 1 0) z.2.1 z.2.2.1 z.2.2.2.1 z.2.2.2.2.1, ia g (Q_t 0) 240 (F_t 0), oX4 q_a1 Q_a1 z.2.2.2.2.2.1 z.2.2.2.2.2.2.1 z.2.2.2.2.2.2.2.1, ia g (Q_a1 3) 8 z.2.2.2.2.2.2.2.2.1, ia g (Q_a1 4) 8 z.2.2.2.2.2.2.2.2.2.1, ia g (Q_a1 5) 10 z.2.2.2.2.2.2.2.2.2.2.1, ia g (Q_a1 6) 10 z.2.2.2.2.2.2.2.2.2.2.2.1, ia g (Q_a1 7) 10 z.2.2.2.2.2.2.2.2.2.2.2.2.1, ia g (Q_a1 8) 10 z.2.2.2.2.2.2.2.2.2.2.2.2.2] [(0, .ref q_t), (1, .ref q_a1), (2, .int z.1)] []) (We := fun (v : Int32 × Int32 × Int32 × Int32 × Int32 × Int32 × Int32 × (Nat → Int32) × (Nat → Int32) × (Nat → Int32) × (Nat → Int32) × (Nat → Int32) × (Nat → Int32)) => WA p l e (rM 5 116) s m args below meth c g A (MQ below (QV g A [oX5 q_t Q_t o.1 o.2.1 o.2.2.1 o.2.2.2.1 o.2.2.2.2.1, ia g (Q_t 0) 240 (F_t 0), oX4 q_a1 Q_a1 o.2.2.2.2.2.1 o.2.2.2.2.2.2.1 o.2.2.2.2.2.2.2.1, ia g (Q_a1 3) 8 o.2.2.2.2.2.2.2.2.1, ia g (Q_a1 4) 8 o.2.2.2.2.2.2.2.2.2.1, ia g (Q_a1 5) 10 o.2.2.2.2.2.2.2.2.2.2.1, ia g (Q_a1 6) 10 o.2.2.2.2.2.2.2.2.2.2.2.1, ia g (Q_a1 7) 10 o.2.2.2.2.2.2.2.2.2.2.2.2.1, ia g (Q_a1 8) 10 o.2.2.2.2.2.2.2.2.2.2.2.2.2]) args s 0 0 A) 3 65 [oX5 q_t Q_t (F_t 1 0) v.1 v.2.1 v.2.2.1 v.2.2.2.1, ia g (Q_t 0) 240 (F_t 0), oX4 q_a1 Q_a1 v.2.2.2.2.1 v.2.2.2.2.2.1 v.2.2.2.2.2.2.1, ia g (Q_a1 3) 8 v.2.2.2.2.2.2.2.1, ia g (Q_a1 4) 8 v.2.2.2.2.2.2.2.2.1, ia g (Q_a1 5) 10 v.2.2.2.2.2.2.2.2.2.1, ia g (Q_a1 6) 10 v.2.2.2.2.2.2.2.2.2.2.1, ia g (Q_a1 7) 10 v.2.2.2.2.2.2.2.2.2.2.2.1, ia g (Q_a1 8) 10 v.2.2.2.2.2.2.2.2.2.2.2.2] [(0, .ref q_t)] []) (fun z r hb hc he => t_X5_read_b25 E q_t Q_t q_a1 Q_a1 N (va_up (va_up (va_up (va_up F_t 2 (fun _ => z.2.1)) 3 (fun _ => z.2.2.1)) 4 (fun _ => z.2.2.2.1)) 5 (fun _ => z.2.2.2.2.1)) (va_up (va_up (va_up (va_up (va_up (va_up (va_up (va_up (va_up F_a1 0 (fun _ => z.2.2.2.2.2.1)) 1 (fun _ => z.2.2.2.2.2.2.1)) 2 (fun _ => z.2.2.2.2.2.2.2.1)) 3 z.2.2.2.2.2.2.2.2.1) 4 z.2.2.2.2.2.2.2.2.2.1) 5 z.2.2.2.2.2.2.2.2.2.2.1) 6 z.2.2.2.2.2.2.2.2.2.2.2.1) 7 z.2.2.2.2.2.2.2.2.2.2.2.2.1) 8 z.2.2.2.2.2.2.2.2.2.2.2.2.2) z.1 r hb hc he) N ((0 : Int32), (0 : Int32), (-1 : Int32), v_2, (F_t 5 0), v_1.1, v_1.2.1, v_1.2.2, (F_a1 3), (F_a1 4), (F_a1 5), (F_a1 6), (F_a1 7), (F_a1 8)) v_8 hv_8 ?_ H locs ls hP hD hS (lv_sub hl [1, 2, 0] rfl)
  intro H locs ls hP hD hS hl
  refine lv_aload_n hx hb dX5_read_65 rfl (lv_at hl 0 rfl) ?_
  refine lv_iconst (v := (0 : Int32)) hx hb dX5_read_66 (by decide) ?_
  refine va_put (ci := 5) (v := .int (0 : Int32)) (ty := .int) (C := RX5) (T := TX5) (N := 6) hx hb hts (fun w h => .tail _ (u_inX5 w h)) tyX5 tyX5_ok nmX5 hown hK.1 hP hD hS 0 rfl rfl 1 (by decide) (hts _ (.tail _ u_fl_X5_15)) (fun _ h9 => h9) rfl (tyX5_ok 1 (by decide)) rfl rfl (Nat.le_of_ble_eq_true rfl) dX5_read_67 (fun H locs hP hD hS => ?_)
  have hP : va_P g.1 vwCl [oX5 q_t Q_t (0 : Int32) v_8.1 v_8.2.1 v_8.2.2.1 v_8.2.2.2.1, ia g (Q_t 0) 240 (F_t 0), oX4 q_a1 Q_a1 v_8.2.2.2.2.1 v_8.2.2.2.2.2.1 v_8.2.2.2.2.2.2.1, ia g (Q_a1 3) 8 v_8.2.2.2.2.2.2.2.1, ia g (Q_a1 4) 8 v_8.2.2.2.2.2.2.2.2.1, ia g (Q_a1 5) 10 v_8.2.2.2.2.2.2.2.2.2.1, ia g (Q_a1 6) 10 v_8.2.2.2.2.2.2.2.2.2.2.1, ia g (Q_a1 7) 10 v_8.2.2.2.2.2.2.2.2.2.2.2.1, ia g (Q_a1 8) 10 v_8.2.2.2.2.2.2.2.2.2.2.2.2] H := hP
  have hD : va_D A [oX5 q_t Q_t (0 : Int32) v_8.1 v_8.2.1 v_8.2.2.1 v_8.2.2.2.1, ia g (Q_t 0) 240 (F_t 0), oX4 q_a1 Q_a1 v_8.2.2.2.2.1 v_8.2.2.2.2.2.1 v_8.2.2.2.2.2.2.1, ia g (Q_a1 3) 8 v_8.2.2.2.2.2.2.2.1, ia g (Q_a1 4) 8 v_8.2.2.2.2.2.2.2.2.1, ia g (Q_a1 5) 10 v_8.2.2.2.2.2.2.2.2.2.1, ia g (Q_a1 6) 10 v_8.2.2.2.2.2.2.2.2.2.2.1, ia g (Q_a1 7) 10 v_8.2.2.2.2.2.2.2.2.2.2.2.1, ia g (Q_a1 8) 10 v_8.2.2.2.2.2.2.2.2.2.2.2.2] := hD
  obtain rfl := Option.some.inj h
  exact k_vret hx hb hr hlk hP hD hS dX5_read_70
set_option maxRecDepth 100000 in
theorem c_X5_read (l : Launch) (g : gG) (q_t : Nat) (Q_t : Ad) (q_a1 : Nat) (Q_a1 : Ad) (N : Nat) (F_t : St) (F_a1 : St) (o : Int32 × Int32 × Int32 × Int32 × Int32 × Int32 × Int32 × Int32 × (Nat → Int32) × (Nat → Int32) × (Nat → Int32) × (Nat → Int32) × (Nat → Int32) × (Nat → Int32)) (h : x_X5_read N F_t F_a1 = some o) (sz : Nat) : MetV l yX5_read (.code yX5_read cX5_read 3 none :: gW) 5 116 [.ref q_t, .ref q_a1] g [oX5 q_t Q_t (F_t 1 0) (F_t 2 0) (F_t 3 0) (F_t 4 0) (F_t 5 0), ia g (Q_t 0) 240 (F_t 0), oX4 q_a1 Q_a1 (F_a1 0 0) (F_a1 1 0) (F_a1 2 0), ia g (Q_a1 3) 8 (F_a1 3), ia g (Q_a1 4) 8 (F_a1 4), ia g (Q_a1 5) 10 (F_a1 5), ia g (Q_a1 6) 10 (F_a1 6), ia g (Q_a1 7) 10 (F_a1 7), ia g (Q_a1 8) 10 (F_a1 8)] [oX5 q_t Q_t o.1 o.2.1 o.2.2.1 o.2.2.2.1 o.2.2.2.2.1, ia g (Q_t 0) 240 (F_t 0), oX4 q_a1 Q_a1 o.2.2.2.2.2.1 o.2.2.2.2.2.2.1 o.2.2.2.2.2.2.2.1, ia g (Q_a1 3) 8 o.2.2.2.2.2.2.2.2.1, ia g (Q_a1 4) 8 o.2.2.2.2.2.2.2.2.2.1, ia g (Q_a1 5) 10 o.2.2.2.2.2.2.2.2.2.2.1, ia g (Q_a1 6) 10 o.2.2.2.2.2.2.2.2.2.2.2.1, ia g (Q_a1 7) 10 o.2.2.2.2.2.2.2.2.2.2.2.2.1, ia g (Q_a1 8) 10 o.2.2.2.2.2.2.2.2.2.2.2.2.2] sz :=
  mkV (av := [.ref q_t, .ref q_a1]) (by decide +kernel) rfl (fun p e s m below meth c A E H locs ls hP hD hS hl => t_X5_read E q_t Q_t q_a1 Q_a1 N F_t F_a1 o h H locs ls hP hD hS hl) sz
