def x_X0_drain (N : Nat) (F_t : St) : Option ((Nat → Int32) × (Nat → Int32) × (Nat → Int32) × (Nat → Int32)) :=
  Option.bind (x_J7_fill_53178 N 10 (F_t 2) (0 : Int32)) (fun v_1 => Option.bind (x_J7_fill_53178 N 8 (F_t 4) (0 : Int32)) (fun v_2 => Option.bind (x_J7_fill_53178 N 64 (F_t 5) (-1 : Int32)) (fun v_3 => Option.bind (x_J7_fill_53178 N 80 (F_t 6) (0 : Int32)) (fun v_4 => some (v_1, v_2, v_3, v_4)))))
set_option maxHeartbeats 4000000 in
set_option maxRecDepth 100000 in
theorem t_X0_drain {p : Program} {l : Launch} {e : Env} {s : State} {m : MethodId} {args : Array Value} {below : List Frame} {meth : Method} {c : Code} {g : gG} {A : Nat → Prop} (E : En p s m args meth c g A cX0_drain 1 (.code yX0_drain cX0_drain 1 none :: gW) RX0 none) (q_t : Nat) (Q_t : Ad) (N : Nat) (F_t : St) (o : (Nat → Int32) × (Nat → Int32) × (Nat → Int32) × (Nat → Int32)) (h : x_X0_drain N F_t = some o) : WA p l e (rM 1 23) s m args below meth c g A (MQ below (QV g A [oX0 q_t Q_t (F_t 0 0) (F_t 1 0), ia g (Q_t 2) 10 o.1, ia g (Q_t 4) 8 o.2.1, ia g (Q_t 5) 64 o.2.2.1, ia g (Q_t 6) 80 o.2.2.2]) args s 0 0 A) 1 0 [oX0 q_t Q_t (F_t 0 0) (F_t 1 0), ia g (Q_t 2) 10 (F_t 2), ia g (Q_t 4) 8 (F_t 4), ia g (Q_t 5) 64 (F_t 5), ia g (Q_t 6) 80 (F_t 6)] [(0, .ref q_t)] [] := by
  obtain ⟨⟨hx, hb, hml, hown, hts⟩, hr, hK, hA, hlk⟩ := id E
  intro H locs ls hP hD hS hl
  refine lv_aload_n hx hb dX0_drain_0 rfl (lv_at hl 0 rfl) ?_
  refine va_get (ci := 0) (v := .ref (Q_t 2)) (C := RX0) (T := TX0) (N := 7) hx hb hts (fun w h => .tail _ (u_inX0 w h)) hown hK.1 hP 0 rfl rfl 2 (by decide) (hts _ (.tail _ u_fl_X0_18)) (fun _ h9 => h9) rfl dX0_drain_1 ?_
  refine lv_iconst (v := (0 : Int32)) hx hb dX0_drain_4 (by decide) ?_
  obtain ⟨v_1, hv_1, h⟩ := ox_bind h
  refine kSv ⟨hx, hb, hml, hown, hts⟩ (c_J7_fill_53178 l g (Q_t 2) N 10 (F_t 2) (0 : Int32) v_1 hv_1 H.size) (gS u_ml_X0_34 u_st_J7_fill_53178 u_ini_J7 u_co_J7_fill_53178) hd_J7_fill_53178 ⟨rfl, rfl⟩ hK hP hD hS hA [1] [1, 0, 3, 4, 5] rfl rfl 1 rfl (w2 := [oX0 q_t Q_t (F_t 0 0) (F_t 1 0), ia g (Q_t 2) 10 v_1, ia g (Q_t 4) 8 (F_t 4), ia g (Q_t 5) 64 (F_t 5), ia g (Q_t 6) 80 (F_t 6)]) rfl rfl (As := [.ref (Q_t 2), .int (0 : Int32)]) (rest := []) rfl hl.1 rfl rfl dX0_drain_5 (fun H locs hP hD hS => ?_)
  refine lv_aload_n hx hb dX0_drain_8 rfl (lv_at hl 0 rfl) ?_
  refine va_get (ci := 0) (v := .ref (Q_t 4)) (C := RX0) (T := TX0) (N := 7) hx hb hts (fun w h => .tail _ (u_inX0 w h)) hown hK.1 hP 0 rfl rfl 4 (by decide) (hts _ (.tail _ u_fl_X0_25)) (fun _ h9 => h9) rfl dX0_drain_9 ?_
  refine lv_iconst (v := (0 : Int32)) hx hb dX0_drain_12 (by decide) ?_
  obtain ⟨v_2, hv_2, h⟩ := ox_bind h
  refine kSv ⟨hx, hb, hml, hown, hts⟩ (c_J7_fill_53178 l g (Q_t 4) N 8 (F_t 4) (0 : Int32) v_2 hv_2 H.size) (gS u_ml_X0_34 u_st_J7_fill_53178 u_ini_J7 u_co_J7_fill_53178) hd_J7_fill_53178 ⟨rfl, rfl⟩ hK hP hD hS hA [2] [1, 2, 0, 4, 5] rfl rfl 1 rfl (w2 := [oX0 q_t Q_t (F_t 0 0) (F_t 1 0), ia g (Q_t 2) 10 v_1, ia g (Q_t 4) 8 v_2, ia g (Q_t 5) 64 (F_t 5), ia g (Q_t 6) 80 (F_t 6)]) rfl rfl (As := [.ref (Q_t 4), .int (0 : Int32)]) (rest := []) rfl hl.1 rfl rfl dX0_drain_13 (fun H locs hP hD hS => ?_)
  refine lv_aload_n hx hb dX0_drain_16 rfl (lv_at hl 0 rfl) ?_
  refine va_get (ci := 0) (v := .ref (Q_t 5)) (C := RX0) (T := TX0) (N := 7) hx hb hts (fun w h => .tail _ (u_inX0 w h)) hown hK.1 hP 0 rfl rfl 5 (by decide) (hts _ (.tail _ u_fl_X0_28)) (fun _ h9 => h9) rfl dX0_drain_17 ?_
  refine lv_iconst (v := (-1 : Int32)) hx hb dX0_drain_20 (by decide) ?_
  obtain ⟨v_3, hv_3, h⟩ := ox_bind h
  refine kSv ⟨hx, hb, hml, hown, hts⟩ (c_J7_fill_53178 l g (Q_t 5) N 64 (F_t 5) (-1 : Int32) v_3 hv_3 H.size) (gS u_ml_X0_34 u_st_J7_fill_53178 u_ini_J7 u_co_J7_fill_53178) hd_J7_fill_53178 ⟨rfl, rfl⟩ hK hP hD hS hA [3] [1, 2, 3, 0, 5] rfl rfl 1 rfl (w2 := [oX0 q_t Q_t (F_t 0 0) (F_t 1 0), ia g (Q_t 2) 10 v_1, ia g (Q_t 4) 8 v_2, ia g (Q_t 5) 64 v_3, ia g (Q_t 6) 80 (F_t 6)]) rfl rfl (As := [.ref (Q_t 5), .int (-1 : Int32)]) (rest := []) rfl hl.1 rfl rfl dX0_drain_21 (fun H locs hP hD hS => ?_)
  refine lv_aload_n hx hb dX0_drain_24 rfl (lv_at hl 0 rfl) ?_
  refine va_get (ci := 0) (v := .ref (Q_t 6)) (C := RX0) (T := TX0) (N := 7) hx hb hts (fun w h => .tail _ (u_inX0 w h)) hown hK.1 hP 0 rfl rfl 6 (by decide) (hts _ (.tail _ u_fl_X0_31)) (fun _ h9 => h9) rfl dX0_drain_25 ?_
  refine lv_iconst (v := (0 : Int32)) hx hb dX0_drain_28 (by decide) ?_
  obtain ⟨v_4, hv_4, h⟩ := ox_bind h
  refine kSv ⟨hx, hb, hml, hown, hts⟩ (c_J7_fill_53178 l g (Q_t 6) N 80 (F_t 6) (0 : Int32) v_4 hv_4 H.size) (gS u_ml_X0_34 u_st_J7_fill_53178 u_ini_J7 u_co_J7_fill_53178) hd_J7_fill_53178 ⟨rfl, rfl⟩ hK hP hD hS hA [4] [1, 2, 3, 4, 0] rfl rfl 1 rfl (w2 := [oX0 q_t Q_t (F_t 0 0) (F_t 1 0), ia g (Q_t 2) 10 v_1, ia g (Q_t 4) 8 v_2, ia g (Q_t 5) 64 v_3, ia g (Q_t 6) 80 v_4]) rfl rfl (As := [.ref (Q_t 6), .int (0 : Int32)]) (rest := []) rfl hl.1 rfl rfl dX0_drain_29 (fun H locs hP hD hS => ?_)
  obtain rfl := Option.some.inj h
  exact k_vret hx hb hr hlk hP hD hS dX0_drain_32
set_option maxRecDepth 100000 in
theorem c_X0_drain (l : Launch) (g : gG) (q_t : Nat) (Q_t : Ad) (N : Nat) (F_t : St) (o : (Nat → Int32) × (Nat → Int32) × (Nat → Int32) × (Nat → Int32)) (h : x_X0_drain N F_t = some o) (sz : Nat) : MetV l yX0_drain (.code yX0_drain cX0_drain 1 none :: gW) 1 23 [.ref q_t] g [oX0 q_t Q_t (F_t 0 0) (F_t 1 0), ia g (Q_t 2) 10 (F_t 2), ia g (Q_t 4) 8 (F_t 4), ia g (Q_t 5) 64 (F_t 5), ia g (Q_t 6) 80 (F_t 6)] [oX0 q_t Q_t (F_t 0 0) (F_t 1 0), ia g (Q_t 2) 10 o.1, ia g (Q_t 4) 8 o.2.1, ia g (Q_t 5) 64 o.2.2.1, ia g (Q_t 6) 80 o.2.2.2] sz :=
  mkV (av := [.ref q_t]) (by decide +kernel) rfl (fun p e s m below meth c A E H locs ls hP hD hS hl => t_X0_drain E q_t Q_t N F_t o h H locs ls hP hD hS hl) sz
def x_X0_begin (N : Nat) (F_t : St) : Option (Int32 × Int32 × (Nat → Int32) × (Nat → Int32) × (Nat → Int32) × (Nat → Int32) × (Nat → Int32)) :=
  Option.bind (x_J7_fill_53178 N 10 (F_t 3) (-1 : Int32)) (fun v_1 => Option.bind (x_X0_drain N (va_up (va_up (va_up F_t 0 (fun _ => (0 : Int32))) 1 (fun _ => (0 : Int32))) 3 v_1)) (fun v_2 => some ((0 : Int32), (0 : Int32), v_2.1, v_1, v_2.2.1, v_2.2.2.1, v_2.2.2.2)))
set_option maxHeartbeats 4000000 in
set_option maxRecDepth 100000 in
theorem t_X0_begin {p : Program} {l : Launch} {e : Env} {s : State} {m : MethodId} {args : Array Value} {below : List Frame} {meth : Method} {c : Code} {g : gG} {A : Nat → Prop} (E : En p s m args meth c g A cX0_begin 1 (.code yX0_begin cX0_begin 1 none :: gW) RX0 none) (q_t : Nat) (Q_t : Ad) (N : Nat) (F_t : St) (o : Int32 × Int32 × (Nat → Int32) × (Nat → Int32) × (Nat → Int32) × (Nat → Int32) × (Nat → Int32)) (h : x_X0_begin N F_t = some o) : WA p l e (rM 2 43) s m args below meth c g A (MQ below (QV g A [oX0 q_t Q_t o.1 o.2.1, ia g (Q_t 2) 10 o.2.2.1, ia g (Q_t 3) 10 o.2.2.2.1, ia g (Q_t 4) 8 o.2.2.2.2.1, ia g (Q_t 5) 64 o.2.2.2.2.2.1, ia g (Q_t 6) 80 o.2.2.2.2.2.2]) args s 0 0 A) 1 0 [oX0 q_t Q_t (F_t 0 0) (F_t 1 0), ia g (Q_t 2) 10 (F_t 2), ia g (Q_t 3) 10 (F_t 3), ia g (Q_t 4) 8 (F_t 4), ia g (Q_t 5) 64 (F_t 5), ia g (Q_t 6) 80 (F_t 6)] [(0, .ref q_t)] [] := by
  obtain ⟨⟨hx, hb, hml, hown, hts⟩, hr, hK, hA, hlk⟩ := id E
  intro H locs ls hP hD hS hl
  refine lv_aload_n hx hb dX0_begin_0 rfl (lv_at hl 0 rfl) ?_
  refine lv_iconst (v := (0 : Int32)) hx hb dX0_begin_1 (by decide) ?_
  refine va_put (ci := 0) (v := .int (0 : Int32)) (ty := .int) (C := RX0) (T := TX0) (N := 7) hx hb hts (fun w h => .tail _ (u_inX0 w h)) tyX0 tyX0_ok nmX0 hown hK.1 hP hD hS 0 rfl rfl 0 (by decide) (hts _ (.tail _ u_fl_X0_9)) (fun _ h9 => h9) rfl (tyX0_ok 0 (by decide)) rfl rfl (Nat.le_of_ble_eq_true rfl) dX0_begin_2 (fun H locs hP hD hS => ?_)
  have hP : va_P g.1 vwCl [oX0 q_t Q_t (0 : Int32) (F_t 1 0), ia g (Q_t 2) 10 (F_t 2), ia g (Q_t 3) 10 (F_t 3), ia g (Q_t 4) 8 (F_t 4), ia g (Q_t 5) 64 (F_t 5), ia g (Q_t 6) 80 (F_t 6)] H := hP
  have hD : va_D A [oX0 q_t Q_t (0 : Int32) (F_t 1 0), ia g (Q_t 2) 10 (F_t 2), ia g (Q_t 3) 10 (F_t 3), ia g (Q_t 4) 8 (F_t 4), ia g (Q_t 5) 64 (F_t 5), ia g (Q_t 6) 80 (F_t 6)] := hD
  refine lv_aload_n hx hb dX0_begin_5 rfl (lv_at hl 0 rfl) ?_
  refine lv_iconst (v := (0 : Int32)) hx hb dX0_begin_6 (by decide) ?_
  refine va_put (ci := 0) (v := .int (0 : Int32)) (ty := .int) (C := RX0) (T := TX0) (N := 7) hx hb hts (fun w h => .tail _ (u_inX0 w h)) tyX0 tyX0_ok nmX0 hown hK.1 hP hD hS 0 rfl rfl 1 (by decide) (hts _ (.tail _ u_fl_X0_15)) (fun _ h9 => h9) rfl (tyX0_ok 1 (by decide)) rfl rfl (Nat.le_of_ble_eq_true rfl) dX0_begin_7 (fun H locs hP hD hS => ?_)
  have hP : va_P g.1 vwCl [oX0 q_t Q_t (0 : Int32) (0 : Int32), ia g (Q_t 2) 10 (F_t 2), ia g (Q_t 3) 10 (F_t 3), ia g (Q_t 4) 8 (F_t 4), ia g (Q_t 5) 64 (F_t 5), ia g (Q_t 6) 80 (F_t 6)] H := hP
  have hD : va_D A [oX0 q_t Q_t (0 : Int32) (0 : Int32), ia g (Q_t 2) 10 (F_t 2), ia g (Q_t 3) 10 (F_t 3), ia g (Q_t 4) 8 (F_t 4), ia g (Q_t 5) 64 (F_t 5), ia g (Q_t 6) 80 (F_t 6)] := hD
  refine lv_aload_n hx hb dX0_begin_10 rfl (lv_at hl 0 rfl) ?_
  refine va_get (ci := 0) (v := .ref (Q_t 3)) (C := RX0) (T := TX0) (N := 7) hx hb hts (fun w h => .tail _ (u_inX0 w h)) hown hK.1 hP 0 rfl rfl 3 (by decide) (hts _ (.tail _ u_fl_X0_22)) (fun _ h9 => h9) rfl dX0_begin_11 ?_
  refine lv_iconst (v := (-1 : Int32)) hx hb dX0_begin_14 (by decide) ?_
  obtain ⟨v_1, hv_1, h⟩ := ox_bind h
  refine kSv ⟨hx, hb, hml, hown, hts⟩ (c_J7_fill_53178 l g (Q_t 3) N 10 (F_t 3) (-1 : Int32) v_1 hv_1 H.size) (gS u_ml_X0_34 u_st_J7_fill_53178 u_ini_J7 u_co_J7_fill_53178) hd_J7_fill_53178 ⟨rfl, rfl⟩ hK hP hD hS hA [2] [1, 2, 0, 4, 5, 6] rfl rfl 1 rfl (w2 := [oX0 q_t Q_t (0 : Int32) (0 : Int32), ia g (Q_t 2) 10 (F_t 2), ia g (Q_t 3) 10 v_1, ia g (Q_t 4) 8 (F_t 4), ia g (Q_t 5) 64 (F_t 5), ia g (Q_t 6) 80 (F_t 6)]) rfl rfl (As := [.ref (Q_t 3), .int (-1 : Int32)]) (rest := []) rfl hl.1 rfl rfl dX0_begin_15 (fun H locs hP hD hS => ?_)
  refine lv_aload_n hx hb dX0_begin_18 rfl (lv_at hl 0 rfl) ?_
  obtain ⟨v_2, hv_2, h⟩ := ox_bind h
  refine kVv ⟨hx, hb, hml, hown, hts⟩ (c_X0_drain l g q_t Q_t N (va_up (va_up (va_up F_t 0 (fun _ => (0 : Int32))) 1 (fun _ => (0 : Int32))) 3 v_1) v_2 hv_2 H.size) (gV u_ml_X0_40 u_im_X0_drain u_se_X0_drain u_ini_X0 u_co_X0_drain) hd_X0_drain ⟨rfl, rfl⟩ hK hP hD hS hA 0 0 rfl rfl [0, 1, 3, 4, 5] [0, 1, 7, 2, 3, 4] rfl rfl 5 rfl (w2 := [oX0 q_t Q_t (0 : Int32) (0 : Int32), ia g (Q_t 2) 10 v_2.1, ia g (Q_t 3) 10 v_1, ia g (Q_t 4) 8 v_2.2.1, ia g (Q_t 5) 64 v_2.2.2.1, ia g (Q_t 6) 80 v_2.2.2.2]) rfl rfl (As := []) (rest := []) rfl hl.1 rfl rfl dX0_begin_19 (fun H locs hP hD hS => ?_)
  obtain rfl := Option.some.inj h
  exact k_vret hx hb hr hlk hP hD hS dX0_begin_22
set_option maxRecDepth 100000 in
theorem c_X0_begin (l : Launch) (g : gG) (q_t : Nat) (Q_t : Ad) (N : Nat) (F_t : St) (o : Int32 × Int32 × (Nat → Int32) × (Nat → Int32) × (Nat → Int32) × (Nat → Int32) × (Nat → Int32)) (h : x_X0_begin N F_t = some o) (sz : Nat) : MetV l yX0_begin (.code yX0_begin cX0_begin 1 none :: gW) 2 43 [.ref q_t] g [oX0 q_t Q_t (F_t 0 0) (F_t 1 0), ia g (Q_t 2) 10 (F_t 2), ia g (Q_t 3) 10 (F_t 3), ia g (Q_t 4) 8 (F_t 4), ia g (Q_t 5) 64 (F_t 5), ia g (Q_t 6) 80 (F_t 6)] [oX0 q_t Q_t o.1 o.2.1, ia g (Q_t 2) 10 o.2.2.1, ia g (Q_t 3) 10 o.2.2.2.1, ia g (Q_t 4) 8 o.2.2.2.2.1, ia g (Q_t 5) 64 o.2.2.2.2.2.1, ia g (Q_t 6) 80 o.2.2.2.2.2.2] sz :=
  mkV (av := [.ref q_t]) (by decide +kernel) rfl (fun p e s m below meth c A E H locs ls hP hD hS hl => t_X0_begin E q_t Q_t N F_t o h H locs ls hP hD hS hl) sz
def x_X0_copyFrom (F_t : St) (F_a1 : St) : Option (Int32 × Int32 × (Nat → Int32) × (Nat → Int32) × (Nat → Int32) × (Nat → Int32) × (Nat → Int32)) :=
  xl (F_a1 0 0) (fun y_1 => xl (F_a1 1 0) (fun y_2 => some (y_1, y_2, (va_cpy (F_a1 2) (F_t 2) 0 0 10), (va_cpy (F_a1 3) (F_t 3) 0 0 10), (va_cpy (F_a1 4) (F_t 4) 0 0 8), (va_cpy (F_a1 5) (F_t 5) 0 0 64), (va_cpy (F_a1 6) (F_t 6) 0 0 80))))
set_option maxHeartbeats 4000000 in
set_option maxRecDepth 100000 in
theorem t_X0_copyFrom {p : Program} {l : Launch} {e : Env} {s : State} {m : MethodId} {args : Array Value} {below : List Frame} {meth : Method} {c : Code} {g : gG} {A : Nat → Prop} (E : En p s m args meth c g A cX0_copyFrom 2 (.code yX0_copyFrom cX0_copyFrom 2 none :: gW) RX0 none) (q_t : Nat) (Q_t : Ad) (q_a1 : Nat) (Q_a1 : Ad) (F_t : St) (F_a1 : St) (o : Int32 × Int32 × (Nat → Int32) × (Nat → Int32) × (Nat → Int32) × (Nat → Int32) × (Nat → Int32)) (h : x_X0_copyFrom F_t F_a1 = some o) : WA p l e (rM 1 26) s m args below meth c g A (MQ below (QV g A [oX0 q_t Q_t o.1 o.2.1, ia g (Q_t 2) 10 o.2.2.1, ia g (Q_t 3) 10 o.2.2.2.1, ia g (Q_t 4) 8 o.2.2.2.2.1, ia g (Q_t 5) 64 o.2.2.2.2.2.1, ia g (Q_t 6) 80 o.2.2.2.2.2.2, oX0 q_a1 Q_a1 (F_a1 0 0) (F_a1 1 0), ia g (Q_a1 2) 10 (F_a1 2), ia g (Q_a1 3) 10 (F_a1 3), ia g (Q_a1 4) 8 (F_a1 4), ia g (Q_a1 5) 64 (F_a1 5), ia g (Q_a1 6) 80 (F_a1 6)]) args s 0 0 A) 2 0 [oX0 q_t Q_t (F_t 0 0) (F_t 1 0), ia g (Q_t 2) 10 (F_t 2), ia g (Q_t 3) 10 (F_t 3), ia g (Q_t 4) 8 (F_t 4), ia g (Q_t 5) 64 (F_t 5), ia g (Q_t 6) 80 (F_t 6), oX0 q_a1 Q_a1 (F_a1 0 0) (F_a1 1 0), ia g (Q_a1 2) 10 (F_a1 2), ia g (Q_a1 3) 10 (F_a1 3), ia g (Q_a1 4) 8 (F_a1 4), ia g (Q_a1 5) 64 (F_a1 5), ia g (Q_a1 6) 80 (F_a1 6)] [(0, .ref q_t), (1, .ref q_a1)] [] := by
  obtain ⟨⟨hx, hb, hml, hown, hts⟩, hr, hK, hA, hlk⟩ := id E
  intro H locs ls hP hD hS hl
  refine lv_aload_n hx hb dX0_copyFrom_0 rfl (lv_at hl 0 rfl) ?_
  refine lv_aload_n hx hb dX0_copyFrom_1 rfl (lv_at hl 1 rfl) ?_
  refine va_get (ci := 0) (v := .int (F_a1 0 0)) (C := RX0) (T := TX0) (N := 7) hx hb hts (fun w h => .tail _ (u_inX0 w h)) hown hK.1 hP 6 rfl rfl 0 (by decide) (hts _ (.tail _ u_fl_X0_9)) (fun _ h9 => h9) rfl dX0_copyFrom_2 ?_
  refine lv_topi (fun y_1 ey_1 => ?_)
  have h := xl_at ey_1 h
  refine va_put (ci := 0) (v := .int y_1) (ty := .int) (C := RX0) (T := TX0) (N := 7) hx hb hts (fun w h => .tail _ (u_inX0 w h)) tyX0 tyX0_ok nmX0 hown hK.1 hP hD hS 0 rfl rfl 0 (by decide) (hts _ (.tail _ u_fl_X0_9)) (fun _ h9 => h9) rfl (tyX0_ok 0 (by decide)) rfl rfl (Nat.le_of_ble_eq_true rfl) dX0_copyFrom_5 (fun H locs hP hD hS => ?_)
  have hP : va_P g.1 vwCl [oX0 q_t Q_t y_1 (F_t 1 0), ia g (Q_t 2) 10 (F_t 2), ia g (Q_t 3) 10 (F_t 3), ia g (Q_t 4) 8 (F_t 4), ia g (Q_t 5) 64 (F_t 5), ia g (Q_t 6) 80 (F_t 6), oX0 q_a1 Q_a1 (F_a1 0 0) (F_a1 1 0), ia g (Q_a1 2) 10 (F_a1 2), ia g (Q_a1 3) 10 (F_a1 3), ia g (Q_a1 4) 8 (F_a1 4), ia g (Q_a1 5) 64 (F_a1 5), ia g (Q_a1 6) 80 (F_a1 6)] H := hP
  have hD : va_D A [oX0 q_t Q_t y_1 (F_t 1 0), ia g (Q_t 2) 10 (F_t 2), ia g (Q_t 3) 10 (F_t 3), ia g (Q_t 4) 8 (F_t 4), ia g (Q_t 5) 64 (F_t 5), ia g (Q_t 6) 80 (F_t 6), oX0 q_a1 Q_a1 (F_a1 0 0) (F_a1 1 0), ia g (Q_a1 2) 10 (F_a1 2), ia g (Q_a1 3) 10 (F_a1 3), ia g (Q_a1 4) 8 (F_a1 4), ia g (Q_a1 5) 64 (F_a1 5), ia g (Q_a1 6) 80 (F_a1 6)] := hD
  refine lv_aload_n hx hb dX0_copyFrom_8 rfl (lv_at hl 0 rfl) ?_
  refine lv_aload_n hx hb dX0_copyFrom_9 rfl (lv_at hl 1 rfl) ?_
  refine va_get (ci := 0) (v := .int (F_a1 1 0)) (C := RX0) (T := TX0) (N := 7) hx hb hts (fun w h => .tail _ (u_inX0 w h)) hown hK.1 hP 6 rfl rfl 1 (by decide) (hts _ (.tail _ u_fl_X0_15)) (fun _ h9 => h9) rfl dX0_copyFrom_10 ?_
  refine lv_topi (fun y_2 ey_2 => ?_)
  have h := xl_at ey_2 h
  refine va_put (ci := 0) (v := .int y_2) (ty := .int) (C := RX0) (T := TX0) (N := 7) hx hb hts (fun w h => .tail _ (u_inX0 w h)) tyX0 tyX0_ok nmX0 hown hK.1 hP hD hS 0 rfl rfl 1 (by decide) (hts _ (.tail _ u_fl_X0_15)) (fun _ h9 => h9) rfl (tyX0_ok 1 (by decide)) rfl rfl (Nat.le_of_ble_eq_true rfl) dX0_copyFrom_13 (fun H locs hP hD hS => ?_)
  have hP : va_P g.1 vwCl [oX0 q_t Q_t y_1 y_2, ia g (Q_t 2) 10 (F_t 2), ia g (Q_t 3) 10 (F_t 3), ia g (Q_t 4) 8 (F_t 4), ia g (Q_t 5) 64 (F_t 5), ia g (Q_t 6) 80 (F_t 6), oX0 q_a1 Q_a1 (F_a1 0 0) (F_a1 1 0), ia g (Q_a1 2) 10 (F_a1 2), ia g (Q_a1 3) 10 (F_a1 3), ia g (Q_a1 4) 8 (F_a1 4), ia g (Q_a1 5) 64 (F_a1 5), ia g (Q_a1 6) 80 (F_a1 6)] H := hP
  have hD : va_D A [oX0 q_t Q_t y_1 y_2, ia g (Q_t 2) 10 (F_t 2), ia g (Q_t 3) 10 (F_t 3), ia g (Q_t 4) 8 (F_t 4), ia g (Q_t 5) 64 (F_t 5), ia g (Q_t 6) 80 (F_t 6), oX0 q_a1 Q_a1 (F_a1 0 0) (F_a1 1 0), ia g (Q_a1 2) 10 (F_a1 2), ia g (Q_a1 3) 10 (F_a1 3), ia g (Q_a1 4) 8 (F_a1 4), ia g (Q_a1 5) 64 (F_a1 5), ia g (Q_a1 6) 80 (F_a1 6)] := hD
  refine lv_aload_n hx hb dX0_copyFrom_16 rfl (lv_at hl 1 rfl) ?_
  refine va_get (ci := 0) (v := .ref (Q_a1 2)) (C := RX0) (T := TX0) (N := 7) hx hb hts (fun w h => .tail _ (u_inX0 w h)) hown hK.1 hP 6 rfl rfl 2 (by decide) (hts _ (.tail _ u_fl_X0_18)) (fun _ h9 => h9) rfl dX0_copyFrom_17 ?_
  refine lv_iconst (v := (0 : Int32)) hx hb dX0_copyFrom_20 (by decide) ?_
  refine lv_aload_n hx hb dX0_copyFrom_21 rfl (lv_at hl 0 rfl) ?_
  refine va_get (ci := 0) (v := .ref (Q_t 2)) (C := RX0) (T := TX0) (N := 7) hx hb hts (fun w h => .tail _ (u_inX0 w h)) hown hK.1 hP 0 rfl rfl 2 (by decide) (hts _ (.tail _ u_fl_X0_18)) (fun _ h9 => h9) rfl dX0_copyFrom_22 ?_
  refine lv_iconst (v := (0 : Int32)) hx hb dX0_copyFrom_25 (by decide) ?_
  refine lv_aload_n hx hb dX0_copyFrom_26 rfl (lv_at hl 0 rfl) ?_
  refine va_get (ci := 0) (v := .ref (Q_t 2)) (C := RX0) (T := TX0) (N := 7) hx hb hts (fun w h => .tail _ (u_inX0 w h)) hown hK.1 hP 0 rfl rfl 2 (by decide) (hts _ (.tail _ u_fl_X0_18)) (fun _ h9 => h9) rfl dX0_copyFrom_27 ?_
  refine va_alen hx hb hK.1 hP 1 0 rfl rfl (v := (10 : Int32)) rfl dX0_copyFrom_30 ?_
  refine va_copyi hx hb (hml.trans hl.1.symm) hown (hts _ (.tail _ u_ml_X0_43)) (hts _ (.tail _ u_nat_acopy)) (hts _ (.tail _ u_st_acopy)) (hts _ (.tail _ u_ini_J10)) hK.1 hP hD hS 7 1 0 0 rfl rfl rfl rfl rfl (by decide) (by decide) (by decide) (by decide) (by decide) (fun _ _ => rfl) (Nat.le_of_ble_eq_true rfl) (Nat.le_of_ble_eq_true rfl) dX0_copyFrom_31 (fun H locs hP hD hS => ?_)
  have hP : va_P g.1 vwCl [oX0 q_t Q_t y_1 y_2, ia g (Q_t 2) 10 (va_cpy (F_a1 2) (F_t 2) 0 0 10), ia g (Q_t 3) 10 (F_t 3), ia g (Q_t 4) 8 (F_t 4), ia g (Q_t 5) 64 (F_t 5), ia g (Q_t 6) 80 (F_t 6), oX0 q_a1 Q_a1 (F_a1 0 0) (F_a1 1 0), ia g (Q_a1 2) 10 (F_a1 2), ia g (Q_a1 3) 10 (F_a1 3), ia g (Q_a1 4) 8 (F_a1 4), ia g (Q_a1 5) 64 (F_a1 5), ia g (Q_a1 6) 80 (F_a1 6)] H := hP
  have hD : va_D A [oX0 q_t Q_t y_1 y_2, ia g (Q_t 2) 10 (va_cpy (F_a1 2) (F_t 2) 0 0 10), ia g (Q_t 3) 10 (F_t 3), ia g (Q_t 4) 8 (F_t 4), ia g (Q_t 5) 64 (F_t 5), ia g (Q_t 6) 80 (F_t 6), oX0 q_a1 Q_a1 (F_a1 0 0) (F_a1 1 0), ia g (Q_a1 2) 10 (F_a1 2), ia g (Q_a1 3) 10 (F_a1 3), ia g (Q_a1 4) 8 (F_a1 4), ia g (Q_a1 5) 64 (F_a1 5), ia g (Q_a1 6) 80 (F_a1 6)] := hD
  refine lv_aload_n hx hb dX0_copyFrom_34 rfl (lv_at hl 1 rfl) ?_
  refine va_get (ci := 0) (v := .ref (Q_a1 3)) (C := RX0) (T := TX0) (N := 7) hx hb hts (fun w h => .tail _ (u_inX0 w h)) hown hK.1 hP 6 rfl rfl 3 (by decide) (hts _ (.tail _ u_fl_X0_22)) (fun _ h9 => h9) rfl dX0_copyFrom_35 ?_
  refine lv_iconst (v := (0 : Int32)) hx hb dX0_copyFrom_38 (by decide) ?_
  refine lv_aload_n hx hb dX0_copyFrom_39 rfl (lv_at hl 0 rfl) ?_
  refine va_get (ci := 0) (v := .ref (Q_t 3)) (C := RX0) (T := TX0) (N := 7) hx hb hts (fun w h => .tail _ (u_inX0 w h)) hown hK.1 hP 0 rfl rfl 3 (by decide) (hts _ (.tail _ u_fl_X0_22)) (fun _ h9 => h9) rfl dX0_copyFrom_40 ?_
  refine lv_iconst (v := (0 : Int32)) hx hb dX0_copyFrom_43 (by decide) ?_
  refine lv_aload_n hx hb dX0_copyFrom_44 rfl (lv_at hl 0 rfl) ?_
  refine va_get (ci := 0) (v := .ref (Q_t 3)) (C := RX0) (T := TX0) (N := 7) hx hb hts (fun w h => .tail _ (u_inX0 w h)) hown hK.1 hP 0 rfl rfl 3 (by decide) (hts _ (.tail _ u_fl_X0_22)) (fun _ h9 => h9) rfl dX0_copyFrom_45 ?_
  refine va_alen hx hb hK.1 hP 2 0 rfl rfl (v := (10 : Int32)) rfl dX0_copyFrom_48 ?_
  refine va_copyi hx hb (hml.trans hl.1.symm) hown (hts _ (.tail _ u_ml_X0_43)) (hts _ (.tail _ u_nat_acopy)) (hts _ (.tail _ u_st_acopy)) (hts _ (.tail _ u_ini_J10)) hK.1 hP hD hS 8 2 0 0 rfl rfl rfl rfl rfl (by decide) (by decide) (by decide) (by decide) (by decide) (fun _ _ => rfl) (Nat.le_of_ble_eq_true rfl) (Nat.le_of_ble_eq_true rfl) dX0_copyFrom_49 (fun H locs hP hD hS => ?_)
  have hP : va_P g.1 vwCl [oX0 q_t Q_t y_1 y_2, ia g (Q_t 2) 10 (va_cpy (F_a1 2) (F_t 2) 0 0 10), ia g (Q_t 3) 10 (va_cpy (F_a1 3) (F_t 3) 0 0 10), ia g (Q_t 4) 8 (F_t 4), ia g (Q_t 5) 64 (F_t 5), ia g (Q_t 6) 80 (F_t 6), oX0 q_a1 Q_a1 (F_a1 0 0) (F_a1 1 0), ia g (Q_a1 2) 10 (F_a1 2), ia g (Q_a1 3) 10 (F_a1 3), ia g (Q_a1 4) 8 (F_a1 4), ia g (Q_a1 5) 64 (F_a1 5), ia g (Q_a1 6) 80 (F_a1 6)] H := hP
  have hD : va_D A [oX0 q_t Q_t y_1 y_2, ia g (Q_t 2) 10 (va_cpy (F_a1 2) (F_t 2) 0 0 10), ia g (Q_t 3) 10 (va_cpy (F_a1 3) (F_t 3) 0 0 10), ia g (Q_t 4) 8 (F_t 4), ia g (Q_t 5) 64 (F_t 5), ia g (Q_t 6) 80 (F_t 6), oX0 q_a1 Q_a1 (F_a1 0 0) (F_a1 1 0), ia g (Q_a1 2) 10 (F_a1 2), ia g (Q_a1 3) 10 (F_a1 3), ia g (Q_a1 4) 8 (F_a1 4), ia g (Q_a1 5) 64 (F_a1 5), ia g (Q_a1 6) 80 (F_a1 6)] := hD
  refine lv_aload_n hx hb dX0_copyFrom_52 rfl (lv_at hl 1 rfl) ?_
  refine va_get (ci := 0) (v := .ref (Q_a1 4)) (C := RX0) (T := TX0) (N := 7) hx hb hts (fun w h => .tail _ (u_inX0 w h)) hown hK.1 hP 6 rfl rfl 4 (by decide) (hts _ (.tail _ u_fl_X0_25)) (fun _ h9 => h9) rfl dX0_copyFrom_53 ?_
  refine lv_iconst (v := (0 : Int32)) hx hb dX0_copyFrom_56 (by decide) ?_
  refine lv_aload_n hx hb dX0_copyFrom_57 rfl (lv_at hl 0 rfl) ?_
  refine va_get (ci := 0) (v := .ref (Q_t 4)) (C := RX0) (T := TX0) (N := 7) hx hb hts (fun w h => .tail _ (u_inX0 w h)) hown hK.1 hP 0 rfl rfl 4 (by decide) (hts _ (.tail _ u_fl_X0_25)) (fun _ h9 => h9) rfl dX0_copyFrom_58 ?_
  refine lv_iconst (v := (0 : Int32)) hx hb dX0_copyFrom_61 (by decide) ?_
  refine lv_aload_n hx hb dX0_copyFrom_62 rfl (lv_at hl 0 rfl) ?_
  refine va_get (ci := 0) (v := .ref (Q_t 4)) (C := RX0) (T := TX0) (N := 7) hx hb hts (fun w h => .tail _ (u_inX0 w h)) hown hK.1 hP 0 rfl rfl 4 (by decide) (hts _ (.tail _ u_fl_X0_25)) (fun _ h9 => h9) rfl dX0_copyFrom_63 ?_
  refine va_alen hx hb hK.1 hP 3 0 rfl rfl (v := (8 : Int32)) rfl dX0_copyFrom_66 ?_
  refine va_copyi hx hb (hml.trans hl.1.symm) hown (hts _ (.tail _ u_ml_X0_43)) (hts _ (.tail _ u_nat_acopy)) (hts _ (.tail _ u_st_acopy)) (hts _ (.tail _ u_ini_J10)) hK.1 hP hD hS 9 3 0 0 rfl rfl rfl rfl rfl (by decide) (by decide) (by decide) (by decide) (by decide) (fun _ _ => rfl) (Nat.le_of_ble_eq_true rfl) (Nat.le_of_ble_eq_true rfl) dX0_copyFrom_67 (fun H locs hP hD hS => ?_)
  have hP : va_P g.1 vwCl [oX0 q_t Q_t y_1 y_2, ia g (Q_t 2) 10 (va_cpy (F_a1 2) (F_t 2) 0 0 10), ia g (Q_t 3) 10 (va_cpy (F_a1 3) (F_t 3) 0 0 10), ia g (Q_t 4) 8 (va_cpy (F_a1 4) (F_t 4) 0 0 8), ia g (Q_t 5) 64 (F_t 5), ia g (Q_t 6) 80 (F_t 6), oX0 q_a1 Q_a1 (F_a1 0 0) (F_a1 1 0), ia g (Q_a1 2) 10 (F_a1 2), ia g (Q_a1 3) 10 (F_a1 3), ia g (Q_a1 4) 8 (F_a1 4), ia g (Q_a1 5) 64 (F_a1 5), ia g (Q_a1 6) 80 (F_a1 6)] H := hP
  have hD : va_D A [oX0 q_t Q_t y_1 y_2, ia g (Q_t 2) 10 (va_cpy (F_a1 2) (F_t 2) 0 0 10), ia g (Q_t 3) 10 (va_cpy (F_a1 3) (F_t 3) 0 0 10), ia g (Q_t 4) 8 (va_cpy (F_a1 4) (F_t 4) 0 0 8), ia g (Q_t 5) 64 (F_t 5), ia g (Q_t 6) 80 (F_t 6), oX0 q_a1 Q_a1 (F_a1 0 0) (F_a1 1 0), ia g (Q_a1 2) 10 (F_a1 2), ia g (Q_a1 3) 10 (F_a1 3), ia g (Q_a1 4) 8 (F_a1 4), ia g (Q_a1 5) 64 (F_a1 5), ia g (Q_a1 6) 80 (F_a1 6)] := hD
  refine lv_aload_n hx hb dX0_copyFrom_70 rfl (lv_at hl 1 rfl) ?_
  refine va_get (ci := 0) (v := .ref (Q_a1 5)) (C := RX0) (T := TX0) (N := 7) hx hb hts (fun w h => .tail _ (u_inX0 w h)) hown hK.1 hP 6 rfl rfl 5 (by decide) (hts _ (.tail _ u_fl_X0_28)) (fun _ h9 => h9) rfl dX0_copyFrom_71 ?_
  refine lv_iconst (v := (0 : Int32)) hx hb dX0_copyFrom_74 (by decide) ?_
  refine lv_aload_n hx hb dX0_copyFrom_75 rfl (lv_at hl 0 rfl) ?_
  refine va_get (ci := 0) (v := .ref (Q_t 5)) (C := RX0) (T := TX0) (N := 7) hx hb hts (fun w h => .tail _ (u_inX0 w h)) hown hK.1 hP 0 rfl rfl 5 (by decide) (hts _ (.tail _ u_fl_X0_28)) (fun _ h9 => h9) rfl dX0_copyFrom_76 ?_
  refine lv_iconst (v := (0 : Int32)) hx hb dX0_copyFrom_79 (by decide) ?_
  refine lv_aload_n hx hb dX0_copyFrom_80 rfl (lv_at hl 0 rfl) ?_
  refine va_get (ci := 0) (v := .ref (Q_t 5)) (C := RX0) (T := TX0) (N := 7) hx hb hts (fun w h => .tail _ (u_inX0 w h)) hown hK.1 hP 0 rfl rfl 5 (by decide) (hts _ (.tail _ u_fl_X0_28)) (fun _ h9 => h9) rfl dX0_copyFrom_81 ?_
  refine va_alen hx hb hK.1 hP 4 0 rfl rfl (v := (64 : Int32)) rfl dX0_copyFrom_84 ?_
  refine va_copyi hx hb (hml.trans hl.1.symm) hown (hts _ (.tail _ u_ml_X0_43)) (hts _ (.tail _ u_nat_acopy)) (hts _ (.tail _ u_st_acopy)) (hts _ (.tail _ u_ini_J10)) hK.1 hP hD hS 10 4 0 0 rfl rfl rfl rfl rfl (by decide) (by decide) (by decide) (by decide) (by decide) (fun _ _ => rfl) (Nat.le_of_ble_eq_true rfl) (Nat.le_of_ble_eq_true rfl) dX0_copyFrom_85 (fun H locs hP hD hS => ?_)
  have hP : va_P g.1 vwCl [oX0 q_t Q_t y_1 y_2, ia g (Q_t 2) 10 (va_cpy (F_a1 2) (F_t 2) 0 0 10), ia g (Q_t 3) 10 (va_cpy (F_a1 3) (F_t 3) 0 0 10), ia g (Q_t 4) 8 (va_cpy (F_a1 4) (F_t 4) 0 0 8), ia g (Q_t 5) 64 (va_cpy (F_a1 5) (F_t 5) 0 0 64), ia g (Q_t 6) 80 (F_t 6), oX0 q_a1 Q_a1 (F_a1 0 0) (F_a1 1 0), ia g (Q_a1 2) 10 (F_a1 2), ia g (Q_a1 3) 10 (F_a1 3), ia g (Q_a1 4) 8 (F_a1 4), ia g (Q_a1 5) 64 (F_a1 5), ia g (Q_a1 6) 80 (F_a1 6)] H := hP
  have hD : va_D A [oX0 q_t Q_t y_1 y_2, ia g (Q_t 2) 10 (va_cpy (F_a1 2) (F_t 2) 0 0 10), ia g (Q_t 3) 10 (va_cpy (F_a1 3) (F_t 3) 0 0 10), ia g (Q_t 4) 8 (va_cpy (F_a1 4) (F_t 4) 0 0 8), ia g (Q_t 5) 64 (va_cpy (F_a1 5) (F_t 5) 0 0 64), ia g (Q_t 6) 80 (F_t 6), oX0 q_a1 Q_a1 (F_a1 0 0) (F_a1 1 0), ia g (Q_a1 2) 10 (F_a1 2), ia g (Q_a1 3) 10 (F_a1 3), ia g (Q_a1 4) 8 (F_a1 4), ia g (Q_a1 5) 64 (F_a1 5), ia g (Q_a1 6) 80 (F_a1 6)] := hD
  refine lv_aload_n hx hb dX0_copyFrom_88 rfl (lv_at hl 1 rfl) ?_
  refine va_get (ci := 0) (v := .ref (Q_a1 6)) (C := RX0) (T := TX0) (N := 7) hx hb hts (fun w h => .tail _ (u_inX0 w h)) hown hK.1 hP 6 rfl rfl 6 (by decide) (hts _ (.tail _ u_fl_X0_31)) (fun _ h9 => h9) rfl dX0_copyFrom_89 ?_
  refine lv_iconst (v := (0 : Int32)) hx hb dX0_copyFrom_92 (by decide) ?_
  refine lv_aload_n hx hb dX0_copyFrom_93 rfl (lv_at hl 0 rfl) ?_
  refine va_get (ci := 0) (v := .ref (Q_t 6)) (C := RX0) (T := TX0) (N := 7) hx hb hts (fun w h => .tail _ (u_inX0 w h)) hown hK.1 hP 0 rfl rfl 6 (by decide) (hts _ (.tail _ u_fl_X0_31)) (fun _ h9 => h9) rfl dX0_copyFrom_94 ?_
  refine lv_iconst (v := (0 : Int32)) hx hb dX0_copyFrom_97 (by decide) ?_
  refine lv_aload_n hx hb dX0_copyFrom_98 rfl (lv_at hl 0 rfl) ?_
  refine va_get (ci := 0) (v := .ref (Q_t 6)) (C := RX0) (T := TX0) (N := 7) hx hb hts (fun w h => .tail _ (u_inX0 w h)) hown hK.1 hP 0 rfl rfl 6 (by decide) (hts _ (.tail _ u_fl_X0_31)) (fun _ h9 => h9) rfl dX0_copyFrom_99 ?_
  refine va_alen hx hb hK.1 hP 5 0 rfl rfl (v := (80 : Int32)) rfl dX0_copyFrom_102 ?_
  refine va_copyi hx hb (hml.trans hl.1.symm) hown (hts _ (.tail _ u_ml_X0_43)) (hts _ (.tail _ u_nat_acopy)) (hts _ (.tail _ u_st_acopy)) (hts _ (.tail _ u_ini_J10)) hK.1 hP hD hS 11 5 0 0 rfl rfl rfl rfl rfl (by decide) (by decide) (by decide) (by decide) (by decide) (fun _ _ => rfl) (Nat.le_of_ble_eq_true rfl) (Nat.le_of_ble_eq_true rfl) dX0_copyFrom_103 (fun H locs hP hD hS => ?_)
  have hP : va_P g.1 vwCl [oX0 q_t Q_t y_1 y_2, ia g (Q_t 2) 10 (va_cpy (F_a1 2) (F_t 2) 0 0 10), ia g (Q_t 3) 10 (va_cpy (F_a1 3) (F_t 3) 0 0 10), ia g (Q_t 4) 8 (va_cpy (F_a1 4) (F_t 4) 0 0 8), ia g (Q_t 5) 64 (va_cpy (F_a1 5) (F_t 5) 0 0 64), ia g (Q_t 6) 80 (va_cpy (F_a1 6) (F_t 6) 0 0 80), oX0 q_a1 Q_a1 (F_a1 0 0) (F_a1 1 0), ia g (Q_a1 2) 10 (F_a1 2), ia g (Q_a1 3) 10 (F_a1 3), ia g (Q_a1 4) 8 (F_a1 4), ia g (Q_a1 5) 64 (F_a1 5), ia g (Q_a1 6) 80 (F_a1 6)] H := hP
  have hD : va_D A [oX0 q_t Q_t y_1 y_2, ia g (Q_t 2) 10 (va_cpy (F_a1 2) (F_t 2) 0 0 10), ia g (Q_t 3) 10 (va_cpy (F_a1 3) (F_t 3) 0 0 10), ia g (Q_t 4) 8 (va_cpy (F_a1 4) (F_t 4) 0 0 8), ia g (Q_t 5) 64 (va_cpy (F_a1 5) (F_t 5) 0 0 64), ia g (Q_t 6) 80 (va_cpy (F_a1 6) (F_t 6) 0 0 80), oX0 q_a1 Q_a1 (F_a1 0 0) (F_a1 1 0), ia g (Q_a1 2) 10 (F_a1 2), ia g (Q_a1 3) 10 (F_a1 3), ia g (Q_a1 4) 8 (F_a1 4), ia g (Q_a1 5) 64 (F_a1 5), ia g (Q_a1 6) 80 (F_a1 6)] := hD
  obtain rfl := Option.some.inj h
  exact k_vret hx hb hr hlk hP hD hS dX0_copyFrom_106
set_option maxRecDepth 100000 in
theorem c_X0_copyFrom (l : Launch) (g : gG) (q_t : Nat) (Q_t : Ad) (q_a1 : Nat) (Q_a1 : Ad) (F_t : St) (F_a1 : St) (o : Int32 × Int32 × (Nat → Int32) × (Nat → Int32) × (Nat → Int32) × (Nat → Int32) × (Nat → Int32)) (h : x_X0_copyFrom F_t F_a1 = some o) (sz : Nat) : MetV l yX0_copyFrom (.code yX0_copyFrom cX0_copyFrom 2 none :: gW) 1 26 [.ref q_t, .ref q_a1] g [oX0 q_t Q_t (F_t 0 0) (F_t 1 0), ia g (Q_t 2) 10 (F_t 2), ia g (Q_t 3) 10 (F_t 3), ia g (Q_t 4) 8 (F_t 4), ia g (Q_t 5) 64 (F_t 5), ia g (Q_t 6) 80 (F_t 6), oX0 q_a1 Q_a1 (F_a1 0 0) (F_a1 1 0), ia g (Q_a1 2) 10 (F_a1 2), ia g (Q_a1 3) 10 (F_a1 3), ia g (Q_a1 4) 8 (F_a1 4), ia g (Q_a1 5) 64 (F_a1 5), ia g (Q_a1 6) 80 (F_a1 6)] [oX0 q_t Q_t o.1 o.2.1, ia g (Q_t 2) 10 o.2.2.1, ia g (Q_t 3) 10 o.2.2.2.1, ia g (Q_t 4) 8 o.2.2.2.2.1, ia g (Q_t 5) 64 o.2.2.2.2.2.1, ia g (Q_t 6) 80 o.2.2.2.2.2.2, oX0 q_a1 Q_a1 (F_a1 0 0) (F_a1 1 0), ia g (Q_a1 2) 10 (F_a1 2), ia g (Q_a1 3) 10 (F_a1 3), ia g (Q_a1 4) 8 (F_a1 4), ia g (Q_a1 5) 64 (F_a1 5), ia g (Q_a1 6) 80 (F_a1 6)] sz :=
  mkV (av := [.ref q_t, .ref q_a1]) (by decide +kernel) rfl (fun p e s m below meth c A E H locs ls hP hD hS hl => t_X0_copyFrom E q_t Q_t q_a1 Q_a1 F_t F_a1 o h H locs ls hP hD hS hl) sz
def x_X0_blocked_b4 (N : Nat) (F_t : St) (F_a1 : St) (x2 : Int32) (x3 : Int32) : Option ((Int32 × Int32) ⊕ (Int32)) :=
  if (F_a1 2 0) ≤ x3 then (some (.inr x2)) else (if x3 < 0 ∨ 10 ≤ x3.toNatClampNeg then none else if ((F_t 2) x3.toNatClampNeg) < (F_a1 0 0) then (some (.inl (x2, (x3 + (1 : Int32))))) else (xl (x2 ||| ((1 : Int32) <<< (x3 &&& 31))) (fun y_4 => some (.inl (y_4, (x3 + (1 : Int32)))))))
set_option maxHeartbeats 4000000 in
set_option maxRecDepth 100000 in
theorem t_X0_blocked_b4 {p : Program} {l : Launch} {e : Env} {s : State} {m : MethodId} {args : Array Value} {below : List Frame} {meth : Method} {c : Code} {g : gG} {A : Nat → Prop} {Q : State → Prop} (E : En p s m args meth c g A cX0_blocked 4 (.code yX0_blocked cX0_blocked 4 (some .int) :: gW) RX0 (some .int)) (q_t : Nat) (Q_t : Ad) (q_a1 : Nat) (Q_a1 : Ad) (N : Nat) (F_t : St) (F_a1 : St) (x2 : Int32) (x3 : Int32) (o : (Int32 × Int32) ⊕ (Int32)) (h : x_X0_blocked_b4 N F_t F_a1 x2 x3 = some o) (hc : ∀ z, o = .inl z → WA p l e (rM 0 0) s m args below meth c g A Q 4 4 [oX0 q_t Q_t (F_t 0 0) (F_t 1 0), ia g (Q_t 2) 10 (F_t 2), oX4 q_a1 Q_a1 (F_a1 0 0) (F_a1 1 0) (F_a1 2 0)] [(0, .ref q_t), (1, .ref q_a1), (2, .int z.1), (3, .int z.2)] []) (he : ∀ v, o = .inr v → WA p l e (rM 0 0) s m args below meth c g A Q 4 37 [oX0 q_t Q_t (F_t 0 0) (F_t 1 0), ia g (Q_t 2) 10 (F_t 2), oX4 q_a1 Q_a1 (F_a1 0 0) (F_a1 1 0) (F_a1 2 0)] [(2, .int v)] []) : WA p l e (rM 0 0) s m args below meth c g A Q 4 4 [oX0 q_t Q_t (F_t 0 0) (F_t 1 0), ia g (Q_t 2) 10 (F_t 2), oX4 q_a1 Q_a1 (F_a1 0 0) (F_a1 1 0) (F_a1 2 0)] [(0, .ref q_t), (1, .ref q_a1), (2, .int x2), (3, .int x3)] [] := by
  obtain ⟨⟨hx, hb, hml, hown, hts⟩, hr, hK, hA, hlk⟩ := id E
  intro H locs ls hP hD hS hl
  refine lv_iload_n hx hb dX0_blocked_4 rfl (lv_at hl 3 rfl) ?_
  refine lv_aload_n hx hb dX0_blocked_5 rfl (lv_at hl 1 rfl) ?_
  refine va_get (ci := 4) (v := .int (F_a1 2 0)) (C := RX4) (T := TX4) (N := 9) hx hb hts (fun w h => .tail _ (u_inX4 w h)) hown hK.1 hP 2 rfl rfl 2 (by decide) (hts _ (.tail _ u_fl_X0_49)) (fun _ h9 => h9) rfl dX0_blocked_6 ?_
  refine lv_icmp_ge (tgt := 37) hx hb dX0_blocked_9 (by decide) (fun c_1 => ?_) (fun c_1 => ?_)
  · have h := ox_t c_1 h
    obtain rfl := Option.some.inj h
    exact he _ rfl H locs ls hP hD hS (lv_sub hl [2] rfl)
  · have h := ox_f c_1 h
    refine lv_aload_n hx hb dX0_blocked_12 rfl (lv_at hl 0 rfl) ?_
    refine va_get (ci := 0) (v := .ref (Q_t 2)) (C := RX0) (T := TX0) (N := 7) hx hb hts (fun w h => .tail _ (u_inX0 w h)) hown hK.1 hP 0 rfl rfl 2 (by decide) (hts _ (.tail _ u_fl_X0_18)) (fun _ h9 => h9) rfl dX0_blocked_13 ?_
    refine lv_iload_n hx hb dX0_blocked_16 rfl (lv_at hl 3 rfl) ?_
    obtain ⟨hi_2, h⟩ := ox_chk h
    refine va_iald hx hb hK.1 hP 1 0 rfl rfl hi_2 dX0_blocked_17 ?_
    refine lv_aload_n hx hb dX0_blocked_18 rfl (lv_at hl 1 rfl) ?_
    refine va_get (ci := 4) (v := .int (F_a1 0 0)) (C := RX4) (T := TX4) (N := 9) hx hb hts (fun w h => .tail _ (u_inX4 w h)) hown hK.1 hP 2 rfl rfl 0 (by decide) (hts _ (.tail _ u_fl_X0_54)) (fun _ h9 => h9) rfl dX0_blocked_19 ?_
    refine lv_icmp_lt (tgt := 31) hx hb dX0_blocked_22 (by decide) (fun c_3 => ?_) (fun c_3 => ?_)
    · have h := ox_t c_3 h
      refine lv_iinc (v := (x3 + (1 : Int32))) (lv' := [(3, .int (x3 + (1 : Int32))), (0, .ref q_t), (1, .ref q_a1), (2, .int x2)]) hx hb dX0_blocked_31 hl (k := 3) rfl rfl (by decide) rfl (fun ls hl => ?_)
      refine lv_goto (tgt := 4) hx hb dX0_blocked_34 (by decide) ?_
      obtain rfl := Option.some.inj h
      exact hc _ rfl H locs ls hP hD hS (lv_sub hl [1, 2, 3, 0] rfl)
    · have h := ox_f c_3 h
      refine lv_iload_n hx hb dX0_blocked_25 rfl (lv_at hl 2 rfl) ?_
      refine lv_iconst (v := (1 : Int32)) hx hb dX0_blocked_26 (by decide) ?_
      refine lv_iload_n hx hb dX0_blocked_27 rfl (lv_at hl 3 rfl) ?_
      refine lv_ishl hx hb dX0_blocked_28 ?_
      refine lv_ior hx hb dX0_blocked_29 ?_
      refine lv_topi (fun y_4 ey_4 => ?_)
      have h := xl_at ey_4 h
      refine lv_istore_n (lv' := [(2, .int y_4), (0, .ref q_t), (1, .ref q_a1), (3, .int x3)]) hx hb dX0_blocked_30 rfl hl (by decide) rfl (fun ls hl => ?_)
      refine lv_iinc (v := (x3 + (1 : Int32))) (lv' := [(3, .int (x3 + (1 : Int32))), (2, .int y_4), (0, .ref q_t), (1, .ref q_a1)]) hx hb dX0_blocked_31 hl (k := 3) rfl rfl (by decide) rfl (fun ls hl => ?_)
      refine lv_goto (tgt := 4) hx hb dX0_blocked_34 (by decide) ?_
      obtain rfl := Option.some.inj h
      exact hc _ rfl H locs ls hP hD hS (lv_sub hl [2, 3, 1, 0] rfl)
def x_X0_blocked (N : Nat) (F_t : St) (F_a1 : St) : Option (Int32) :=
  Option.bind (lpc (fun (z : Int32 × Int32) => x_X0_blocked_b4 N F_t F_a1 z.1 z.2) N ((0 : Int32), (0 : Int32))) (fun v_5 => some v_5)
set_option maxHeartbeats 4000000 in
set_option maxRecDepth 100000 in
theorem t_X0_blocked {p : Program} {l : Launch} {e : Env} {s : State} {m : MethodId} {args : Array Value} {below : List Frame} {meth : Method} {c : Code} {g : gG} {A : Nat → Prop} (E : En p s m args meth c g A cX0_blocked 4 (.code yX0_blocked cX0_blocked 4 (some .int) :: gW) RX0 (some .int)) (q_t : Nat) (Q_t : Ad) (q_a1 : Nat) (Q_a1 : Ad) (N : Nat) (F_t : St) (F_a1 : St) (o : Int32) (h : x_X0_blocked N F_t F_a1 = some o) : WA p l e (rM 0 0) s m args below meth c g A (MQ below (QI g A o [oX0 q_t Q_t (F_t 0 0) (F_t 1 0), ia g (Q_t 2) 10 (F_t 2), oX4 q_a1 Q_a1 (F_a1 0 0) (F_a1 1 0) (F_a1 2 0)]) args s 0 0 A) 4 0 [oX0 q_t Q_t (F_t 0 0) (F_t 1 0), ia g (Q_t 2) 10 (F_t 2), oX4 q_a1 Q_a1 (F_a1 0 0) (F_a1 1 0) (F_a1 2 0)] [(0, .ref q_t), (1, .ref q_a1)] [] := by
  obtain ⟨⟨hx, hb, hml, hown, hts⟩, hr, hK, hA, hlk⟩ := id E
  intro H locs ls hP hD hS hl
  refine lv_iconst (v := (0 : Int32)) hx hb dX0_blocked_0 (by decide) ?_
  refine lv_istore_n (lv' := [(2, .int (0 : Int32)), (0, .ref q_t), (1, .ref q_a1)]) hx hb dX0_blocked_1 rfl hl (by decide) rfl (fun ls hl => ?_)
  refine lv_iconst (v := (0 : Int32)) hx hb dX0_blocked_2 (by decide) ?_
  refine lv_istore_n (lv' := [(3, .int (0 : Int32)), (2, .int (0 : Int32)), (0, .ref q_t), (1, .ref q_a1)]) hx hb dX0_blocked_3 rfl hl (by decide) rfl (fun ls hl => ?_)
  obtain ⟨v_5, hv_5, h⟩ := ox_bind h
  refine lpc_W (Wh := fun (z : Int32 × Int32) => WA p l e (rM 0 0) s m args below meth c g A (MQ below (QI g A o [oX0 q_t Q_t (F_t 0 0) (F_t 1 0), ia g (Q_t 2) 10 (F_t 2), oX4 q_a1 Q_a1 (F_a1 0 0) (F_a1 1 0) (F_a1 2 0)]) args s 0 0 A) 4 4 [oX0 q_t Q_t (F_t 0 0) (F_t 1 0), ia g (Q_t 2) 10 (F_t 2), oX4 q_a1 Q_a1 (F_a1 0 0) (F_a1 1 0) (F_a1 2 0)] [(0, .ref q_t), (1, .ref q_a1), (2, .int z.1), (3, .int z.2)] []) (We := fun (v : Int32) => WA p l e (rM 0 0) s m args below meth c g A (MQ below (QI g A o [oX0 q_t Q_t (F_t 0 0) (F_t 1 0), ia g (Q_t 2) 10 (F_t 2), oX4 q_a1 Q_a1 (F_a1 0 0) (F_a1 1 0) (F_a1 2 0)]) args s 0 0 A) 4 37 [oX0 q_t Q_t (F_t 0 0) (F_t 1 0), ia g (Q_t 2) 10 (F_t 2), oX4 q_a1 Q_a1 (F_a1 0 0) (F_a1 1 0) (F_a1 2 0)] [(2, .int v)] []) (fun z r hb hc he => t_X0_blocked_b4 E q_t Q_t q_a1 Q_a1 N F_t F_a1 z.1 z.2 r hb hc he) N ((0 : Int32), (0 : Int32)) v_5 hv_5 ?_ H locs ls hP hD hS (lv_sub hl [2, 3, 1, 0] rfl)
  intro H locs ls hP hD hS hl
  refine lv_iload_n hx hb dX0_blocked_37 rfl (lv_at hl 0 rfl) ?_
  obtain rfl := Option.some.inj h
  exact k_iret hx hb hr hlk hP hD hS dX0_blocked_38
set_option maxRecDepth 100000 in
theorem c_X0_blocked (l : Launch) (g : gG) (q_t : Nat) (Q_t : Ad) (q_a1 : Nat) (Q_a1 : Ad) (N : Nat) (F_t : St) (F_a1 : St) (o : Int32) (h : x_X0_blocked N F_t F_a1 = some o) (sz : Nat) : MetI l yX0_blocked (.code yX0_blocked cX0_blocked 4 (some .int) :: gW) 0 0 [.ref q_t, .ref q_a1] o g [oX0 q_t Q_t (F_t 0 0) (F_t 1 0), ia g (Q_t 2) 10 (F_t 2), oX4 q_a1 Q_a1 (F_a1 0 0) (F_a1 1 0) (F_a1 2 0)] [oX0 q_t Q_t (F_t 0 0) (F_t 1 0), ia g (Q_t 2) 10 (F_t 2), oX4 q_a1 Q_a1 (F_a1 0 0) (F_a1 1 0) (F_a1 2 0)] sz :=
  mkI (av := [.ref q_t, .ref q_a1]) (by decide +kernel) rfl (fun p e s m below meth c A E H locs ls hP hD hS hl => t_X0_blocked E q_t Q_t q_a1 Q_a1 N F_t F_a1 o h H locs ls hP hD hS hl) sz
def x_X0_yetToCome_b4 (N : Nat) (F_t : St) (x1 : Int32) (x2 : Int32) : Option ((Int32 × Int32) ⊕ (Int32)) :=
  if (80 : Int32) ≤ x2 then (some (.inr x1)) else (if x2 < 0 ∨ 80 ≤ x2.toNatClampNeg then none else Option.bind (x_J6_bitCount_0f7a4 ((F_t 6) x2.toNatClampNeg)) (fun v_3 => xl (x1 + v_3) (fun y_4 => some (.inl (y_4, (x2 + (1 : Int32)))))))
set_option maxHeartbeats 4000000 in
set_option maxRecDepth 100000 in
theorem t_X0_yetToCome_b4 {p : Program} {l : Launch} {e : Env} {s : State} {m : MethodId} {args : Array Value} {below : List Frame} {meth : Method} {c : Code} {g : gG} {A : Nat → Prop} {Q : State → Prop} (E : En p s m args meth c g A cX0_yetToCome 3 (.code yX0_yetToCome cX0_yetToCome 3 (some .int) :: gW) RX0 (some .int)) (q_t : Nat) (Q_t : Ad) (N : Nat) (F_t : St) (x1 : Int32) (x2 : Int32) (o : (Int32 × Int32) ⊕ (Int32)) (h : x_X0_yetToCome_b4 N F_t x1 x2 = some o) (hc : ∀ z, o = .inl z → WA p l e (rM 1 20) s m args below meth c g A Q 3 4 [oX0 q_t Q_t (F_t 0 0) (F_t 1 0), ia g (Q_t 6) 80 (F_t 6)] [(0, .ref q_t), (1, .int z.1), (2, .int z.2)] []) (he : ∀ v, o = .inr v → WA p l e (rM 1 20) s m args below meth c g A Q 3 31 [oX0 q_t Q_t (F_t 0 0) (F_t 1 0), ia g (Q_t 6) 80 (F_t 6)] [(1, .int v)] []) : WA p l e (rM 1 20) s m args below meth c g A Q 3 4 [oX0 q_t Q_t (F_t 0 0) (F_t 1 0), ia g (Q_t 6) 80 (F_t 6)] [(0, .ref q_t), (1, .int x1), (2, .int x2)] [] := by
  obtain ⟨⟨hx, hb, hml, hown, hts⟩, hr, hK, hA, hlk⟩ := id E
  intro H locs ls hP hD hS hl
  refine lv_iload_n hx hb dX0_yetToCome_4 rfl (lv_at hl 2 rfl) ?_
  refine lv_aload_n hx hb dX0_yetToCome_5 rfl (lv_at hl 0 rfl) ?_
  refine va_get (ci := 0) (v := .ref (Q_t 6)) (C := RX0) (T := TX0) (N := 7) hx hb hts (fun w h => .tail _ (u_inX0 w h)) hown hK.1 hP 0 rfl rfl 6 (by decide) (hts _ (.tail _ u_fl_X0_31)) (fun _ h9 => h9) rfl dX0_yetToCome_6 ?_
  refine va_alen hx hb hK.1 hP 1 0 rfl rfl (v := (80 : Int32)) rfl dX0_yetToCome_9 ?_
  refine lv_icmp_ge (tgt := 31) hx hb dX0_yetToCome_10 (by decide) (fun c_1 => ?_) (fun c_1 => ?_)
  · have h := ox_t c_1 h
    obtain rfl := Option.some.inj h
    exact he _ rfl H locs ls hP hD hS (lv_sub hl [1] rfl)
  · have h := ox_f c_1 h
    refine lv_iload_n hx hb dX0_yetToCome_13 rfl (lv_at hl 1 rfl) ?_
    refine lv_aload_n hx hb dX0_yetToCome_14 rfl (lv_at hl 0 rfl) ?_
    refine va_get (ci := 0) (v := .ref (Q_t 6)) (C := RX0) (T := TX0) (N := 7) hx hb hts (fun w h => .tail _ (u_inX0 w h)) hown hK.1 hP 0 rfl rfl 6 (by decide) (hts _ (.tail _ u_fl_X0_31)) (fun _ h9 => h9) rfl dX0_yetToCome_15 ?_
    refine lv_iload_n hx hb dX0_yetToCome_18 rfl (lv_at hl 2 rfl) ?_
    obtain ⟨hi_2, h⟩ := ox_chk h
    refine va_iald hx hb hK.1 hP 1 0 rfl rfl hi_2 dX0_yetToCome_19 ?_
    obtain ⟨v_3, hv_3, h⟩ := ox_bind h
    refine kSi ⟨hx, hb, hml, hown, hts⟩ (c_J6_bitCount_0f7a4 l g ((F_t 6) x2.toNatClampNeg) v_3 hv_3 H.size) (gS u_ml_X0_57 u_st_J6_bitCount_0f7a4 u_ini_J6 u_co_J6_bitCount_0f7a4) hd_J6_bitCount_0f7a4 ⟨rfl, rfl⟩ hK hP hD hS hA [] [0, 1] rfl rfl 0 rfl (w2 := [oX0 q_t Q_t (F_t 0 0) (F_t 1 0), ia g (Q_t 6) 80 (F_t 6)]) rfl rfl (As := [.int ((F_t 6) x2.toNatClampNeg)]) (rest := [.int x1]) rfl hl.1 rfl rfl dX0_yetToCome_20 (fun H locs hP hD hS => ?_)
    refine lv_iadd hx hb dX0_yetToCome_23 ?_
    refine lv_topi (fun y_4 ey_4 => ?_)
    have h := xl_at ey_4 h
    refine lv_istore_n (lv' := [(1, .int y_4), (0, .ref q_t), (2, .int x2)]) hx hb dX0_yetToCome_24 rfl hl (by decide) rfl (fun ls hl => ?_)
    refine lv_iinc (v := (x2 + (1 : Int32))) (lv' := [(2, .int (x2 + (1 : Int32))), (1, .int y_4), (0, .ref q_t)]) hx hb dX0_yetToCome_25 hl (k := 2) rfl rfl (by decide) rfl (fun ls hl => ?_)
    refine lv_goto (tgt := 4) hx hb dX0_yetToCome_28 (by decide) ?_
    obtain rfl := Option.some.inj h
    exact hc _ rfl H locs ls hP hD hS (lv_sub hl [2, 1, 0] rfl)
def x_X0_yetToCome (N : Nat) (F_t : St) : Option (Int32) :=
  Option.bind (lpc (fun (z : Int32 × Int32) => x_X0_yetToCome_b4 N F_t z.1 z.2) N ((0 : Int32), (0 : Int32))) (fun v_5 => some v_5)
set_option maxHeartbeats 4000000 in
set_option maxRecDepth 100000 in
theorem t_X0_yetToCome {p : Program} {l : Launch} {e : Env} {s : State} {m : MethodId} {args : Array Value} {below : List Frame} {meth : Method} {c : Code} {g : gG} {A : Nat → Prop} (E : En p s m args meth c g A cX0_yetToCome 3 (.code yX0_yetToCome cX0_yetToCome 3 (some .int) :: gW) RX0 (some .int)) (q_t : Nat) (Q_t : Ad) (N : Nat) (F_t : St) (o : Int32) (h : x_X0_yetToCome N F_t = some o) : WA p l e (rM 1 20) s m args below meth c g A (MQ below (QI g A o [oX0 q_t Q_t (F_t 0 0) (F_t 1 0), ia g (Q_t 6) 80 (F_t 6)]) args s 0 0 A) 3 0 [oX0 q_t Q_t (F_t 0 0) (F_t 1 0), ia g (Q_t 6) 80 (F_t 6)] [(0, .ref q_t)] [] := by
  obtain ⟨⟨hx, hb, hml, hown, hts⟩, hr, hK, hA, hlk⟩ := id E
  intro H locs ls hP hD hS hl
  refine lv_iconst (v := (0 : Int32)) hx hb dX0_yetToCome_0 (by decide) ?_
  refine lv_istore_n (lv' := [(1, .int (0 : Int32)), (0, .ref q_t)]) hx hb dX0_yetToCome_1 rfl hl (by decide) rfl (fun ls hl => ?_)
  refine lv_iconst (v := (0 : Int32)) hx hb dX0_yetToCome_2 (by decide) ?_
  refine lv_istore_n (lv' := [(2, .int (0 : Int32)), (1, .int (0 : Int32)), (0, .ref q_t)]) hx hb dX0_yetToCome_3 rfl hl (by decide) rfl (fun ls hl => ?_)
  obtain ⟨v_5, hv_5, h⟩ := ox_bind h
  refine lpc_W (Wh := fun (z : Int32 × Int32) => WA p l e (rM 1 20) s m args below meth c g A (MQ below (QI g A o [oX0 q_t Q_t (F_t 0 0) (F_t 1 0), ia g (Q_t 6) 80 (F_t 6)]) args s 0 0 A) 3 4 [oX0 q_t Q_t (F_t 0 0) (F_t 1 0), ia g (Q_t 6) 80 (F_t 6)] [(0, .ref q_t), (1, .int z.1), (2, .int z.2)] []) (We := fun (v : Int32) => WA p l e (rM 1 20) s m args below meth c g A (MQ below (QI g A o [oX0 q_t Q_t (F_t 0 0) (F_t 1 0), ia g (Q_t 6) 80 (F_t 6)]) args s 0 0 A) 3 31 [oX0 q_t Q_t (F_t 0 0) (F_t 1 0), ia g (Q_t 6) 80 (F_t 6)] [(1, .int v)] []) (fun z r hb hc he => t_X0_yetToCome_b4 E q_t Q_t N F_t z.1 z.2 r hb hc he) N ((0 : Int32), (0 : Int32)) v_5 hv_5 ?_ H locs ls hP hD hS (lv_sub hl [2, 1, 0] rfl)
  intro H locs ls hP hD hS hl
  refine lv_iload_n hx hb dX0_yetToCome_31 rfl (lv_at hl 0 rfl) ?_
  obtain rfl := Option.some.inj h
  exact k_iret hx hb hr hlk hP hD hS dX0_yetToCome_32
set_option maxRecDepth 100000 in
theorem c_X0_yetToCome (l : Launch) (g : gG) (q_t : Nat) (Q_t : Ad) (N : Nat) (F_t : St) (o : Int32) (h : x_X0_yetToCome N F_t = some o) (sz : Nat) : MetI l yX0_yetToCome (.code yX0_yetToCome cX0_yetToCome 3 (some .int) :: gW) 1 20 [.ref q_t] o g [oX0 q_t Q_t (F_t 0 0) (F_t 1 0), ia g (Q_t 6) 80 (F_t 6)] [oX0 q_t Q_t (F_t 0 0) (F_t 1 0), ia g (Q_t 6) 80 (F_t 6)] sz :=
  mkI (av := [.ref q_t]) (by decide +kernel) rfl (fun p e s m below meth c A E H locs ls hP hD hS hl => t_X0_yetToCome E q_t Q_t N F_t o h H locs ls hP hD hS hl) sz
def x_X0_soonestAt_b4_k40 (N : Nat) (F_t : St) (x1 : Int32) (x3 : Int32) (x4 : Int32) : Option ((Int32 × Int32) ⊕ (Int32)) :=
  some (.inl (x4, (x3 + (1 : Int32))))
set_option maxHeartbeats 4000000 in
set_option maxRecDepth 100000 in
theorem t_X0_soonestAt_b4_k40 {p : Program} {l : Launch} {e : Env} {s : State} {m : MethodId} {args : Array Value} {below : List Frame} {meth : Method} {c : Code} {g : gG} {A : Nat → Prop} {Q : State → Prop} (E : En p s m args meth c g A cX0_soonestAt 5 (.code yX0_soonestAt cX0_soonestAt 5 (some .int) :: gW) RX0 (some .int)) (q_t : Nat) (Q_t : Ad) (N : Nat) (F_t : St) (x1 : Int32) (x3 : Int32) (x4 : Int32) (o : (Int32 × Int32) ⊕ (Int32)) (h : x_X0_soonestAt_b4_k40 N F_t x1 x3 x4 = some o) (hc : ∀ z, o = .inl z → WA p l e (rM 0 0) s m args below meth c g A Q 5 4 [oX0 q_t Q_t (F_t 0 0) (F_t 1 0), ia g (Q_t 5) 64 (F_t 5)] [(0, .ref q_t), (1, .int x1), (2, .int z.1), (3, .int z.2)] []) (he : ∀ v, o = .inr v → WA p l e (rM 0 0) s m args below meth c g A Q 5 49 [oX0 q_t Q_t (F_t 0 0) (F_t 1 0), ia g (Q_t 5) 64 (F_t 5)] [(2, .int v)] []) : WA p l e (rM 0 0) s m args below meth c g A Q 5 40 [oX0 q_t Q_t (F_t 0 0) (F_t 1 0), ia g (Q_t 5) 64 (F_t 5)] [(0, .ref q_t), (1, .int x1), (3, .int x3), (4, .int x4)] [] := by
  obtain ⟨⟨hx, hb, hml, hown, hts⟩, hr, hK, hA, hlk⟩ := id E
  intro H locs ls hP hD hS hl
  refine lv_iload hx hb dX0_soonestAt_40 (lv_at hl 3 rfl) ?_
  refine lv_istore_n (lv' := [(2, .int x4), (0, .ref q_t), (1, .int x1), (3, .int x3), (4, .int x4)]) hx hb dX0_soonestAt_42 rfl hl (by decide) rfl (fun ls hl => ?_)
  refine lv_iinc (v := (x3 + (1 : Int32))) (lv' := [(3, .int (x3 + (1 : Int32))), (2, .int x4), (0, .ref q_t), (1, .int x1), (4, .int x4)]) hx hb dX0_soonestAt_43 hl (k := 3) rfl rfl (by decide) rfl (fun ls hl => ?_)
  refine lv_goto (tgt := 4) hx hb dX0_soonestAt_46 (by decide) ?_
  obtain rfl := Option.some.inj h
  exact hc _ rfl H locs ls hP hD hS (lv_sub hl [2, 3, 1, 0] rfl)
def x_X0_soonestAt_b4 (N : Nat) (F_t : St) (x1 : Int32) (x2 : Int32) (x3 : Int32) : Option ((Int32 × Int32) ⊕ (Int32)) :=
  if (8 : Int32) ≤ x3 then (some (.inr x2)) else (if ((x1 * (8 : Int32)) + x3) < 0 ∨ 64 ≤ ((x1 * (8 : Int32)) + x3).toNatClampNeg then none else xl ((F_t 5) ((x1 * (8 : Int32)) + x3).toNatClampNeg) (fun y_3 => if y_3 = (-1 : Int32) then (some (.inl (x2, (x3 + (1 : Int32))))) else (if x2 = (-1 : Int32) then (x_X0_soonestAt_b4_k40 N F_t x1 x3 y_3) else (if x2 ≤ y_3 then (some (.inl (x2, (x3 + (1 : Int32))))) else (x_X0_soonestAt_b4_k40 N F_t x1 x3 y_3)))))
set_option maxHeartbeats 4000000 in
set_option maxRecDepth 100000 in
theorem t_X0_soonestAt_b4 {p : Program} {l : Launch} {e : Env} {s : State} {m : MethodId} {args : Array Value} {below : List Frame} {meth : Method} {c : Code} {g : gG} {A : Nat → Prop} {Q : State → Prop} (E : En p s m args meth c g A cX0_soonestAt 5 (.code yX0_soonestAt cX0_soonestAt 5 (some .int) :: gW) RX0 (some .int)) (q_t : Nat) (Q_t : Ad) (N : Nat) (F_t : St) (x1 : Int32) (x2 : Int32) (x3 : Int32) (o : (Int32 × Int32) ⊕ (Int32)) (h : x_X0_soonestAt_b4 N F_t x1 x2 x3 = some o) (hc : ∀ z, o = .inl z → WA p l e (rM 0 0) s m args below meth c g A Q 5 4 [oX0 q_t Q_t (F_t 0 0) (F_t 1 0), ia g (Q_t 5) 64 (F_t 5)] [(0, .ref q_t), (1, .int x1), (2, .int z.1), (3, .int z.2)] []) (he : ∀ v, o = .inr v → WA p l e (rM 0 0) s m args below meth c g A Q 5 49 [oX0 q_t Q_t (F_t 0 0) (F_t 1 0), ia g (Q_t 5) 64 (F_t 5)] [(2, .int v)] []) : WA p l e (rM 0 0) s m args below meth c g A Q 5 4 [oX0 q_t Q_t (F_t 0 0) (F_t 1 0), ia g (Q_t 5) 64 (F_t 5)] [(0, .ref q_t), (1, .int x1), (2, .int x2), (3, .int x3)] [] := by
  obtain ⟨⟨hx, hb, hml, hown, hts⟩, hr, hK, hA, hlk⟩ := id E
  intro H locs ls hP hD hS hl
  refine lv_iload_n hx hb dX0_soonestAt_4 rfl (lv_at hl 3 rfl) ?_
  refine lv_bipush (v := (8 : Int32)) hx hb dX0_soonestAt_5 (by decide) ?_
  refine lv_icmp_ge (tgt := 49) hx hb dX0_soonestAt_7 (by decide) (fun c_1 => ?_) (fun c_1 => ?_)
  · have h := ox_t c_1 h
    obtain rfl := Option.some.inj h
    exact he _ rfl H locs ls hP hD hS (lv_sub hl [2] rfl)
  · have h := ox_f c_1 h
    refine lv_aload_n hx hb dX0_soonestAt_10 rfl (lv_at hl 0 rfl) ?_
    refine va_get (ci := 0) (v := .ref (Q_t 5)) (C := RX0) (T := TX0) (N := 7) hx hb hts (fun w h => .tail _ (u_inX0 w h)) hown hK.1 hP 0 rfl rfl 5 (by decide) (hts _ (.tail _ u_fl_X0_28)) (fun _ h9 => h9) rfl dX0_soonestAt_11 ?_
    refine lv_iload_n hx hb dX0_soonestAt_14 rfl (lv_at hl 1 rfl) ?_
    refine lv_bipush (v := (8 : Int32)) hx hb dX0_soonestAt_15 (by decide) ?_
    refine lv_imul hx hb dX0_soonestAt_17 ?_
    refine lv_iload_n hx hb dX0_soonestAt_18 rfl (lv_at hl 3 rfl) ?_
    refine lv_iadd hx hb dX0_soonestAt_19 ?_
    obtain ⟨hi_2, h⟩ := ox_chk h
    refine va_iald hx hb hK.1 hP 1 0 rfl rfl hi_2 dX0_soonestAt_20 ?_
    refine lv_topi (fun y_3 ey_3 => ?_)
    have h := xl_at ey_3 h
    refine lv_istore (lv' := [(4, .int y_3), (0, .ref q_t), (1, .int x1), (2, .int x2), (3, .int x3)]) hx hb dX0_soonestAt_21 hl (by decide) rfl (fun ls hl => ?_)
    refine lv_iload hx hb dX0_soonestAt_23 (lv_at hl 0 rfl) ?_
    refine lv_iconst (v := (-1 : Int32)) hx hb dX0_soonestAt_25 (by decide) ?_
    refine lv_icmp_eq (tgt := 43) hx hb dX0_soonestAt_26 (by decide) (fun c_4 => ?_) (fun c_4 => ?_)
    · have h := ox_t c_4 h
      refine lv_iinc (v := (x3 + (1 : Int32))) (lv' := [(3, .int (x3 + (1 : Int32))), (4, .int y_3), (0, .ref q_t), (1, .int x1), (2, .int x2)]) hx hb dX0_soonestAt_43 hl (k := 4) rfl rfl (by decide) rfl (fun ls hl => ?_)
      refine lv_goto (tgt := 4) hx hb dX0_soonestAt_46 (by decide) ?_
      obtain rfl := Option.some.inj h
      exact hc _ rfl H locs ls hP hD hS (lv_sub hl [2, 3, 4, 0] rfl)
    · have h := ox_f c_4 h
      refine lv_iload_n hx hb dX0_soonestAt_29 rfl (lv_at hl 3 rfl) ?_
      refine lv_iconst (v := (-1 : Int32)) hx hb dX0_soonestAt_30 (by decide) ?_
      refine lv_icmp_eq (tgt := 40) hx hb dX0_soonestAt_31 (by decide) (fun c_5 => ?_) (fun c_5 => ?_)
      · have h := ox_t c_5 h
        exact t_X0_soonestAt_b4_k40 E q_t Q_t N F_t x1 x3 y_3 _ h hc he H locs ls hP hD hS (lv_sub hl [1, 2, 4, 0] rfl)
      · have h := ox_f c_5 h
        refine lv_iload hx hb dX0_soonestAt_34 (lv_at hl 0 rfl) ?_
        refine lv_iload_n hx hb dX0_soonestAt_36 rfl (lv_at hl 3 rfl) ?_
        refine lv_icmp_ge (tgt := 43) hx hb dX0_soonestAt_37 (by decide) (fun c_6 => ?_) (fun c_6 => ?_)
        · have h := ox_t c_6 h
          refine lv_iinc (v := (x3 + (1 : Int32))) (lv' := [(3, .int (x3 + (1 : Int32))), (4, .int y_3), (0, .ref q_t), (1, .int x1), (2, .int x2)]) hx hb dX0_soonestAt_43 hl (k := 4) rfl rfl (by decide) rfl (fun ls hl => ?_)
          refine lv_goto (tgt := 4) hx hb dX0_soonestAt_46 (by decide) ?_
          obtain rfl := Option.some.inj h
          exact hc _ rfl H locs ls hP hD hS (lv_sub hl [2, 3, 4, 0] rfl)
        · have h := ox_f c_6 h
          exact t_X0_soonestAt_b4_k40 E q_t Q_t N F_t x1 x3 y_3 _ h hc he H locs ls hP hD hS (lv_sub hl [1, 2, 4, 0] rfl)
def x_X0_soonestAt (N : Nat) (F_t : St) (x1 : Int32) : Option (Int32) :=
  Option.bind (lpc (fun (z : Int32 × Int32) => x_X0_soonestAt_b4 N F_t x1 z.1 z.2) N ((-1 : Int32), (0 : Int32))) (fun v_7 => some v_7)
set_option maxHeartbeats 4000000 in
set_option maxRecDepth 100000 in
theorem t_X0_soonestAt {p : Program} {l : Launch} {e : Env} {s : State} {m : MethodId} {args : Array Value} {below : List Frame} {meth : Method} {c : Code} {g : gG} {A : Nat → Prop} (E : En p s m args meth c g A cX0_soonestAt 5 (.code yX0_soonestAt cX0_soonestAt 5 (some .int) :: gW) RX0 (some .int)) (q_t : Nat) (Q_t : Ad) (N : Nat) (F_t : St) (x1 : Int32) (o : Int32) (h : x_X0_soonestAt N F_t x1 = some o) : WA p l e (rM 0 0) s m args below meth c g A (MQ below (QI g A o [oX0 q_t Q_t (F_t 0 0) (F_t 1 0), ia g (Q_t 5) 64 (F_t 5)]) args s 0 0 A) 5 0 [oX0 q_t Q_t (F_t 0 0) (F_t 1 0), ia g (Q_t 5) 64 (F_t 5)] [(0, .ref q_t), (1, .int x1)] [] := by
  obtain ⟨⟨hx, hb, hml, hown, hts⟩, hr, hK, hA, hlk⟩ := id E
  intro H locs ls hP hD hS hl
  refine lv_iconst (v := (-1 : Int32)) hx hb dX0_soonestAt_0 (by decide) ?_
  refine lv_istore_n (lv' := [(2, .int (-1 : Int32)), (0, .ref q_t), (1, .int x1)]) hx hb dX0_soonestAt_1 rfl hl (by decide) rfl (fun ls hl => ?_)
  refine lv_iconst (v := (0 : Int32)) hx hb dX0_soonestAt_2 (by decide) ?_
  refine lv_istore_n (lv' := [(3, .int (0 : Int32)), (2, .int (-1 : Int32)), (0, .ref q_t), (1, .int x1)]) hx hb dX0_soonestAt_3 rfl hl (by decide) rfl (fun ls hl => ?_)
  obtain ⟨v_7, hv_7, h⟩ := ox_bind h
  refine lpc_W (Wh := fun (z : Int32 × Int32) => WA p l e (rM 0 0) s m args below meth c g A (MQ below (QI g A o [oX0 q_t Q_t (F_t 0 0) (F_t 1 0), ia g (Q_t 5) 64 (F_t 5)]) args s 0 0 A) 5 4 [oX0 q_t Q_t (F_t 0 0) (F_t 1 0), ia g (Q_t 5) 64 (F_t 5)] [(0, .ref q_t), (1, .int x1), (2, .int z.1), (3, .int z.2)] []) (We := fun (v : Int32) => WA p l e (rM 0 0) s m args below meth c g A (MQ below (QI g A o [oX0 q_t Q_t (F_t 0 0) (F_t 1 0), ia g (Q_t 5) 64 (F_t 5)]) args s 0 0 A) 5 49 [oX0 q_t Q_t (F_t 0 0) (F_t 1 0), ia g (Q_t 5) 64 (F_t 5)] [(2, .int v)] []) (fun z r hb hc he => t_X0_soonestAt_b4 E q_t Q_t N F_t x1 z.1 z.2 r hb hc he) N ((-1 : Int32), (0 : Int32)) v_7 hv_7 ?_ H locs ls hP hD hS (lv_sub hl [2, 3, 1, 0] rfl)
  intro H locs ls hP hD hS hl
  refine lv_iload_n hx hb dX0_soonestAt_49 rfl (lv_at hl 0 rfl) ?_
  obtain rfl := Option.some.inj h
  exact k_iret hx hb hr hlk hP hD hS dX0_soonestAt_50
set_option maxRecDepth 100000 in
theorem c_X0_soonestAt (l : Launch) (g : gG) (q_t : Nat) (Q_t : Ad) (N : Nat) (F_t : St) (x1 : Int32) (o : Int32) (h : x_X0_soonestAt N F_t x1 = some o) (sz : Nat) : MetI l yX0_soonestAt (.code yX0_soonestAt cX0_soonestAt 5 (some .int) :: gW) 0 0 [.ref q_t, .int x1] o g [oX0 q_t Q_t (F_t 0 0) (F_t 1 0), ia g (Q_t 5) 64 (F_t 5)] [oX0 q_t Q_t (F_t 0 0) (F_t 1 0), ia g (Q_t 5) 64 (F_t 5)] sz :=
  mkI (av := [.ref q_t, .int x1]) (by decide +kernel) rfl (fun p e s m below meth c A E H locs ls hP hD hS hl => t_X0_soonestAt E q_t Q_t N F_t x1 o h H locs ls hP hD hS hl) sz
def x_X0_comeToSpring (F_t : St) (x1 : Int32) : Option (Int32 × (Nat → Int32)) :=
  xl ((0 : Int32) + ((F_t 0 0) - (F_t 0 0) / (10 : Int32) * (10 : Int32))) (fun y_1 => if y_1 < 0 ∨ 80 ≤ y_1.toNatClampNeg then none else if y_1 < 0 ∨ 80 ≤ y_1.toNatClampNeg then none else xl (((F_t 6) y_1.toNatClampNeg) ||| x1) (fun y_4 => if y_1 < 0 ∨ 80 ≤ y_1.toNatClampNeg then none else some (((upd (F_t 6) y_1.toNatClampNeg y_4) y_1.toNatClampNeg), (upd (F_t 6) y_1.toNatClampNeg y_4))))
set_option maxHeartbeats 4000000 in
set_option maxRecDepth 100000 in
theorem t_X0_comeToSpring {p : Program} {l : Launch} {e : Env} {s : State} {m : MethodId} {args : Array Value} {below : List Frame} {meth : Method} {c : Code} {g : gG} {A : Nat → Prop} (E : En p s m args meth c g A cX0_comeToSpring 3 (.code yX0_comeToSpring cX0_comeToSpring 3 (some .int) :: gW) RX0 (some .int)) (q_t : Nat) (Q_t : Ad) (F_t : St) (x1 : Int32) (o : Int32 × (Nat → Int32)) (h : x_X0_comeToSpring F_t x1 = some o) : WA p l e (rM 0 0) s m args below meth c g A (MQ below (QI g A o.1 [oX0 q_t Q_t (F_t 0 0) (F_t 1 0), ia g (Q_t 6) 80 o.2]) args s 0 0 A) 3 0 [oX0 q_t Q_t (F_t 0 0) (F_t 1 0), ia g (Q_t 6) 80 (F_t 6)] [(0, .ref q_t), (1, .int x1)] [] := by
  obtain ⟨⟨hx, hb, hml, hown, hts⟩, hr, hK, hA, hlk⟩ := id E
  intro H locs ls hP hD hS hl
  refine lv_iconst (v := (0 : Int32)) hx hb dX0_comeToSpring_0 (by decide) ?_
  refine lv_aload_n hx hb dX0_comeToSpring_1 rfl (lv_at hl 0 rfl) ?_
  refine va_get (ci := 0) (v := .int (F_t 0 0)) (C := RX0) (T := TX0) (N := 7) hx hb hts (fun w h => .tail _ (u_inX0 w h)) hown hK.1 hP 0 rfl rfl 0 (by decide) (hts _ (.tail _ u_fl_X0_9)) (fun _ h9 => h9) rfl dX0_comeToSpring_2 ?_
  refine lv_bipush (v := (10 : Int32)) hx hb dX0_comeToSpring_5 (by decide) ?_
  refine lv_irem hx hb dX0_comeToSpring_7 (by decide) ?_
  refine lv_iadd hx hb dX0_comeToSpring_8 ?_
  refine lv_topi (fun y_1 ey_1 => ?_)
  have h := xl_at ey_1 h
  refine lv_istore_n (lv' := [(2, .int y_1), (0, .ref q_t), (1, .int x1)]) hx hb dX0_comeToSpring_9 rfl hl (by decide) rfl (fun ls hl => ?_)
  refine lv_aload_n hx hb dX0_comeToSpring_10 rfl (lv_at hl 1 rfl) ?_
  refine va_get (ci := 0) (v := .ref (Q_t 6)) (C := RX0) (T := TX0) (N := 7) hx hb hts (fun w h => .tail _ (u_inX0 w h)) hown hK.1 hP 0 rfl rfl 6 (by decide) (hts _ (.tail _ u_fl_X0_31)) (fun _ h9 => h9) rfl dX0_comeToSpring_11 ?_
  refine lv_iload_n hx hb dX0_comeToSpring_14 rfl (lv_at hl 0 rfl) ?_
  refine lv_dup2_11 hx hb dX0_comeToSpring_15 rfl rfl ?_
  obtain ⟨hi_2, h⟩ := ox_chk h
  refine va_iald hx hb hK.1 hP 1 0 rfl rfl hi_2 dX0_comeToSpring_16 ?_
  refine lv_iload_n hx hb dX0_comeToSpring_17 rfl (lv_at hl 2 rfl) ?_
  refine lv_ior hx hb dX0_comeToSpring_18 ?_
  obtain ⟨hi_3, h⟩ := ox_chk h
  refine lv_topi (fun y_4 ey_4 => ?_)
  have h := xl_at ey_4 h
  refine va_iast hx hb hK.1 hP hD hS 1 0 rfl rfl hi_3 dX0_comeToSpring_19 (fun H locs hP hD hS => ?_)
  have hP : va_P g.1 vwCl [oX0 q_t Q_t (F_t 0 0) (F_t 1 0), ia g (Q_t 6) 80 (upd (F_t 6) y_1.toNatClampNeg y_4)] H := hP
  have hD : va_D A [oX0 q_t Q_t (F_t 0 0) (F_t 1 0), ia g (Q_t 6) 80 (upd (F_t 6) y_1.toNatClampNeg y_4)] := hD
  refine lv_aload_n hx hb dX0_comeToSpring_20 rfl (lv_at hl 1 rfl) ?_
  refine va_get (ci := 0) (v := .ref (Q_t 6)) (C := RX0) (T := TX0) (N := 7) hx hb hts (fun w h => .tail _ (u_inX0 w h)) hown hK.1 hP 0 rfl rfl 6 (by decide) (hts _ (.tail _ u_fl_X0_31)) (fun _ h9 => h9) rfl dX0_comeToSpring_21 ?_
  refine lv_iload_n hx hb dX0_comeToSpring_24 rfl (lv_at hl 0 rfl) ?_
  obtain ⟨hi_5, h⟩ := ox_chk h
  refine va_iald hx hb hK.1 hP 1 0 rfl rfl hi_5 dX0_comeToSpring_25 ?_
  obtain rfl := Option.some.inj h
  exact k_iret hx hb hr hlk hP hD hS dX0_comeToSpring_26
set_option maxRecDepth 100000 in
theorem c_X0_comeToSpring (l : Launch) (g : gG) (q_t : Nat) (Q_t : Ad) (F_t : St) (x1 : Int32) (o : Int32 × (Nat → Int32)) (h : x_X0_comeToSpring F_t x1 = some o) (sz : Nat) : MetI l yX0_comeToSpring (.code yX0_comeToSpring cX0_comeToSpring 3 (some .int) :: gW) 0 0 [.ref q_t, .int x1] o.1 g [oX0 q_t Q_t (F_t 0 0) (F_t 1 0), ia g (Q_t 6) 80 (F_t 6)] [oX0 q_t Q_t (F_t 0 0) (F_t 1 0), ia g (Q_t 6) 80 o.2] sz :=
  mkI (av := [.ref q_t, .int x1]) (by decide +kernel) rfl (fun p e s m below meth c A E H locs ls hP hD hS hl => t_X0_comeToSpring E q_t Q_t F_t x1 o h H locs ls hP hD hS hl) sz
def x_X0_hearAt_b35 (N : Nat) (F_t : St) (x1 : Int32) (x3 : Int32) (x4 : Int32) : Option ((Int32 × (Nat → Int32)) ⊕ ((Nat → Int32))) :=
  if (8 : Int32) ≤ x4 then (some (.inr (F_t 5))) else (Option.bind (x_X9_has x3 x4) (fun v_9 => if v_9 = 0 then (some (.inl ((x4 + (1 : Int32)), (F_t 5)))) else (if ((x1 * (8 : Int32)) + x4) < 0 ∨ 64 ≤ ((x1 * (8 : Int32)) + x4).toNatClampNeg then none else xl (F_t 0 0) (fun y_12 => some (.inl ((x4 + (1 : Int32)), (upd (F_t 5) ((x1 * (8 : Int32)) + x4).toNatClampNeg y_12)))))))
set_option maxHeartbeats 4000000 in
set_option maxRecDepth 100000 in
theorem t_X0_hearAt_b35 {p : Program} {l : Launch} {e : Env} {s : State} {m : MethodId} {args : Array Value} {below : List Frame} {meth : Method} {c : Code} {g : gG} {A : Nat → Prop} {Q : State → Prop} (E : En p s m args meth c g A cX0_hearAt 5 (.code yX0_hearAt cX0_hearAt 5 none :: gW) RX0 none) (q_t : Nat) (Q_t : Ad) (N : Nat) (F_t : St) (x1 : Int32) (x3 : Int32) (x4 : Int32) (o : (Int32 × (Nat → Int32)) ⊕ ((Nat → Int32))) (h : x_X0_hearAt_b35 N F_t x1 x3 x4 = some o) (hc : ∀ z, o = .inl z → WA p l e (rM 1 21) s m args below meth c g A Q 5 35 [oX0 q_t Q_t (F_t 0 0) (F_t 1 0), ia g (Q_t 4) 8 (F_t 4), ia g (Q_t 5) 64 z.2] [(0, .ref q_t), (1, .int x1), (3, .int x3), (4, .int z.1)] []) (he : ∀ v, o = .inr v → WA p l e (rM 1 21) s m args below meth c g A Q 5 73 [oX0 q_t Q_t (F_t 0 0) (F_t 1 0), ia g (Q_t 4) 8 (F_t 4), ia g (Q_t 5) 64 v] [] []) : WA p l e (rM 1 21) s m args below meth c g A Q 5 35 [oX0 q_t Q_t (F_t 0 0) (F_t 1 0), ia g (Q_t 4) 8 (F_t 4), ia g (Q_t 5) 64 (F_t 5)] [(0, .ref q_t), (1, .int x1), (3, .int x3), (4, .int x4)] [] := by
  obtain ⟨⟨hx, hb, hml, hown, hts⟩, hr, hK, hA, hlk⟩ := id E
  intro H locs ls hP hD hS hl
  refine lv_iload hx hb dX0_hearAt_35 (lv_at hl 3 rfl) ?_
  refine lv_bipush (v := (8 : Int32)) hx hb dX0_hearAt_37 (by decide) ?_
  refine lv_icmp_ge (tgt := 73) hx hb dX0_hearAt_39 (by decide) (fun c_8 => ?_) (fun c_8 => ?_)
  · have h := ox_t c_8 h
    obtain rfl := Option.some.inj h
    exact he _ rfl H locs ls hP hD hS (lv_sub hl [] rfl)
  · have h := ox_f c_8 h
    refine lv_iload_n hx hb dX0_hearAt_42 rfl (lv_at hl 2 rfl) ?_
    refine lv_iload hx hb dX0_hearAt_43 (lv_at hl 3 rfl) ?_
    obtain ⟨v_9, hv_9, h⟩ := ox_bind h
    refine kNi ⟨hx, hb, hml, hown, hts⟩ (c_X9_has l g x3 x4 v_9 hv_9 H.size) u_co_X9_has u_st_X9_has u_ini_X9 n_X0_81 hd_X9_has ⟨rfl, rfl⟩ hK hP hD hS hA [] [0, 1, 2] rfl rfl 0 rfl (w2 := [oX0 q_t Q_t (F_t 0 0) (F_t 1 0), ia g (Q_t 4) 8 (F_t 4), ia g (Q_t 5) 64 (F_t 5)]) rfl rfl (As := [.int x3, .int x4]) (rest := []) rfl hl.1 rfl rfl dX0_hearAt_45 (fun H locs hP hD hS => ?_)
    refine lv_if_eq (tgt := 67) hx hb dX0_hearAt_48 (by decide) (fun c_10 => ?_) (fun c_10 => ?_)
    · have h := ox_t c_10 h
      refine lv_iinc (v := (x4 + (1 : Int32))) (lv' := [(4, .int (x4 + (1 : Int32))), (0, .ref q_t), (1, .int x1), (3, .int x3)]) hx hb dX0_hearAt_67 hl (k := 3) rfl rfl (by decide) rfl (fun ls hl => ?_)
      refine lv_goto (tgt := 35) hx hb dX0_hearAt_70 (by decide) ?_
      obtain rfl := Option.some.inj h
      exact hc _ rfl H locs ls hP hD hS (lv_sub hl [1, 2, 3, 0] rfl)
    · have h := ox_f c_10 h
      refine lv_aload_n hx hb dX0_hearAt_51 rfl (lv_at hl 0 rfl) ?_
      refine va_get (ci := 0) (v := .ref (Q_t 5)) (C := RX0) (T := TX0) (N := 7) hx hb hts (fun w h => .tail _ (u_inX0 w h)) hown hK.1 hP 0 rfl rfl 5 (by decide) (hts _ (.tail _ u_fl_X0_28)) (fun _ h9 => h9) rfl dX0_hearAt_52 ?_
      refine lv_iload_n hx hb dX0_hearAt_55 rfl (lv_at hl 1 rfl) ?_
      refine lv_bipush (v := (8 : Int32)) hx hb dX0_hearAt_56 (by decide) ?_
      refine lv_imul hx hb dX0_hearAt_58 ?_
      refine lv_iload hx hb dX0_hearAt_59 (lv_at hl 3 rfl) ?_
      refine lv_iadd hx hb dX0_hearAt_61 ?_
      refine lv_aload_n hx hb dX0_hearAt_62 rfl (lv_at hl 0 rfl) ?_
      refine va_get (ci := 0) (v := .int (F_t 0 0)) (C := RX0) (T := TX0) (N := 7) hx hb hts (fun w h => .tail _ (u_inX0 w h)) hown hK.1 hP 0 rfl rfl 0 (by decide) (hts _ (.tail _ u_fl_X0_9)) (fun _ h9 => h9) rfl dX0_hearAt_63 ?_
      obtain ⟨hi_11, h⟩ := ox_chk h
      refine lv_topi (fun y_12 ey_12 => ?_)
      have h := xl_at ey_12 h
      refine va_iast hx hb hK.1 hP hD hS 2 0 rfl rfl hi_11 dX0_hearAt_66 (fun H locs hP hD hS => ?_)
      have hP : va_P g.1 vwCl [oX0 q_t Q_t (F_t 0 0) (F_t 1 0), ia g (Q_t 4) 8 (F_t 4), ia g (Q_t 5) 64 (upd (F_t 5) ((x1 * (8 : Int32)) + x4).toNatClampNeg y_12)] H := hP
      have hD : va_D A [oX0 q_t Q_t (F_t 0 0) (F_t 1 0), ia g (Q_t 4) 8 (F_t 4), ia g (Q_t 5) 64 (upd (F_t 5) ((x1 * (8 : Int32)) + x4).toNatClampNeg y_12)] := hD
      refine lv_iinc (v := (x4 + (1 : Int32))) (lv' := [(4, .int (x4 + (1 : Int32))), (0, .ref q_t), (1, .int x1), (3, .int x3)]) hx hb dX0_hearAt_67 hl (k := 3) rfl rfl (by decide) rfl (fun ls hl => ?_)
      refine lv_goto (tgt := 35) hx hb dX0_hearAt_70 (by decide) ?_
      obtain rfl := Option.some.inj h
      exact hc _ rfl H locs ls hP hD hS (lv_sub hl [1, 2, 3, 0] rfl)
def x_X0_hearAt (N : Nat) (F_t : St) (x1 : Int32) (x2 : Int32) : Option ((Nat → Int32) × (Nat → Int32)) :=
  if x1 < 0 then (some ((F_t 4), (F_t 5))) else (if x1 < (8 : Int32) then (if x1 < 0 ∨ 8 ≤ x1.toNatClampNeg then none else xl (x2 &&& (((F_t 4) x1.toNatClampNeg) ^^^ (-1 : Int32))) (fun y_4 => if x1 < 0 ∨ 8 ≤ x1.toNatClampNeg then none else if x1 < 0 ∨ 8 ≤ x1.toNatClampNeg then none else xl (((F_t 4) x1.toNatClampNeg) ||| x2) (fun y_7 => Option.bind (lpc (fun (z : Int32 × (Nat → Int32)) => x_X0_hearAt_b35 N (va_up (va_up F_t 4 (upd (F_t 4) x1.toNatClampNeg y_7)) 5 z.2) x1 y_4 z.1) N ((0 : Int32), (F_t 5))) (fun v_13 => some ((upd (F_t 4) x1.toNatClampNeg y_7), v_13))))) else (some ((F_t 4), (F_t 5))))
set_option maxHeartbeats 4000000 in
set_option maxRecDepth 100000 in
theorem t_X0_hearAt {p : Program} {l : Launch} {e : Env} {s : State} {m : MethodId} {args : Array Value} {below : List Frame} {meth : Method} {c : Code} {g : gG} {A : Nat → Prop} (E : En p s m args meth c g A cX0_hearAt 5 (.code yX0_hearAt cX0_hearAt 5 none :: gW) RX0 none) (q_t : Nat) (Q_t : Ad) (N : Nat) (F_t : St) (x1 : Int32) (x2 : Int32) (o : (Nat → Int32) × (Nat → Int32)) (h : x_X0_hearAt N F_t x1 x2 = some o) : WA p l e (rM 1 21) s m args below meth c g A (MQ below (QV g A [oX0 q_t Q_t (F_t 0 0) (F_t 1 0), ia g (Q_t 4) 8 o.1, ia g (Q_t 5) 64 o.2]) args s 0 0 A) 5 0 [oX0 q_t Q_t (F_t 0 0) (F_t 1 0), ia g (Q_t 4) 8 (F_t 4), ia g (Q_t 5) 64 (F_t 5)] [(0, .ref q_t), (1, .int x1), (2, .int x2)] [] := by
  obtain ⟨⟨hx, hb, hml, hown, hts⟩, hr, hK, hA, hlk⟩ := id E
  intro H locs ls hP hD hS hl
  refine lv_iload_n hx hb dX0_hearAt_0 rfl (lv_at hl 1 rfl) ?_
  refine lv_if_lt (tgt := 10) hx hb dX0_hearAt_1 (by decide) (fun c_1 => ?_) (fun c_1 => ?_)
  · have h := ox_t c_1 h
    obtain rfl := Option.some.inj h
    exact k_vret hx hb hr hlk hP hD hS dX0_hearAt_10
  · have h := ox_f c_1 h
    refine lv_iload_n hx hb dX0_hearAt_4 rfl (lv_at hl 1 rfl) ?_
    refine lv_bipush (v := (8 : Int32)) hx hb dX0_hearAt_5 (by decide) ?_
    refine lv_icmp_lt (tgt := 11) hx hb dX0_hearAt_7 (by decide) (fun c_2 => ?_) (fun c_2 => ?_)
    · have h := ox_t c_2 h
      refine lv_iload_n hx hb dX0_hearAt_11 rfl (lv_at hl 2 rfl) ?_
      refine lv_aload_n hx hb dX0_hearAt_12 rfl (lv_at hl 0 rfl) ?_
      refine va_get (ci := 0) (v := .ref (Q_t 4)) (C := RX0) (T := TX0) (N := 7) hx hb hts (fun w h => .tail _ (u_inX0 w h)) hown hK.1 hP 0 rfl rfl 4 (by decide) (hts _ (.tail _ u_fl_X0_25)) (fun _ h9 => h9) rfl dX0_hearAt_13 ?_
      refine lv_iload_n hx hb dX0_hearAt_16 rfl (lv_at hl 1 rfl) ?_
      obtain ⟨hi_3, h⟩ := ox_chk h
      refine va_iald hx hb hK.1 hP 1 0 rfl rfl hi_3 dX0_hearAt_17 ?_
      refine lv_iconst (v := (-1 : Int32)) hx hb dX0_hearAt_18 (by decide) ?_
      refine lv_ixor hx hb dX0_hearAt_19 ?_
      refine lv_iand hx hb dX0_hearAt_20 ?_
      refine lv_topi (fun y_4 ey_4 => ?_)
      have h := xl_at ey_4 h
      refine lv_istore_n (lv' := [(3, .int y_4), (0, .ref q_t), (1, .int x1), (2, .int x2)]) hx hb dX0_hearAt_21 rfl hl (by decide) rfl (fun ls hl => ?_)
      refine lv_aload_n hx hb dX0_hearAt_22 rfl (lv_at hl 1 rfl) ?_
      refine va_get (ci := 0) (v := .ref (Q_t 4)) (C := RX0) (T := TX0) (N := 7) hx hb hts (fun w h => .tail _ (u_inX0 w h)) hown hK.1 hP 0 rfl rfl 4 (by decide) (hts _ (.tail _ u_fl_X0_25)) (fun _ h9 => h9) rfl dX0_hearAt_23 ?_
      refine lv_iload_n hx hb dX0_hearAt_26 rfl (lv_at hl 2 rfl) ?_
      refine lv_dup2_11 hx hb dX0_hearAt_27 rfl rfl ?_
      obtain ⟨hi_5, h⟩ := ox_chk h
      refine va_iald hx hb hK.1 hP 1 0 rfl rfl hi_5 dX0_hearAt_28 ?_
      refine lv_iload_n hx hb dX0_hearAt_29 rfl (lv_at hl 3 rfl) ?_
      refine lv_ior hx hb dX0_hearAt_30 ?_
      obtain ⟨hi_6, h⟩ := ox_chk h
      refine lv_topi (fun y_7 ey_7 => ?_)
      have h := xl_at ey_7 h
      refine va_iast hx hb hK.1 hP hD hS 1 0 rfl rfl hi_6 dX0_hearAt_31 (fun H locs hP hD hS => ?_)
      have hP : va_P g.1 vwCl [oX0 q_t Q_t (F_t 0 0) (F_t 1 0), ia g (Q_t 4) 8 (upd (F_t 4) x1.toNatClampNeg y_7), ia g (Q_t 5) 64 (F_t 5)] H := hP
      have hD : va_D A [oX0 q_t Q_t (F_t 0 0) (F_t 1 0), ia g (Q_t 4) 8 (upd (F_t 4) x1.toNatClampNeg y_7), ia g (Q_t 5) 64 (F_t 5)] := hD
      refine lv_iconst (v := (0 : Int32)) hx hb dX0_hearAt_32 (by decide) ?_
      refine lv_istore (lv' := [(4, .int (0 : Int32)), (3, .int y_4), (0, .ref q_t), (1, .int x1), (2, .int x2)]) hx hb dX0_hearAt_33 hl (by decide) rfl (fun ls hl => ?_)
      obtain ⟨v_13, hv_13, h⟩ := ox_bind h
      refine lpc_W (Wh := fun (z : Int32 × (Nat → Int32)) => WA p l e (rM 1 21) s m args below meth c g A (MQ below (QV g A [oX0 q_t Q_t (F_t 0 0) (F_t 1 0), ia g (Q_t 4) 8 o.1, ia g (Q_t 5) 64 o.2]) args s 0 0 A) 5 35 [oX0 q_t Q_t (F_t 0 0) (F_t 1 0), ia g (Q_t 4) 8 (upd (F_t 4) x1.toNatClampNeg y_7), ia g (Q_t 5) 64 z.2] [(0, .ref q_t), (1, .int x1), (3, .int y_4), (4, .int z.1)] []) (We := fun (v : (Nat → Int32)) => WA p l e (rM 1 21) s m args below meth c g A (MQ below (QV g A [oX0 q_t Q_t (F_t 0 0) (F_t 1 0), ia g (Q_t 4) 8 o.1, ia g (Q_t 5) 64 o.2]) args s 0 0 A) 5 73 [oX0 q_t Q_t (F_t 0 0) (F_t 1 0), ia g (Q_t 4) 8 (upd (F_t 4) x1.toNatClampNeg y_7), ia g (Q_t 5) 64 v] [] []) (fun z r hb hc he => t_X0_hearAt_b35 E q_t Q_t N (va_up (va_up F_t 4 (upd (F_t 4) x1.toNatClampNeg y_7)) 5 z.2) x1 y_4 z.1 r hb hc he) N ((0 : Int32), (F_t 5)) v_13 hv_13 ?_ H locs ls hP hD hS (lv_sub hl [2, 3, 1, 0] rfl)
      intro H locs ls hP hD hS hl
      obtain rfl := Option.some.inj h
      exact k_vret hx hb hr hlk hP hD hS dX0_hearAt_73
    · have h := ox_f c_2 h
      obtain rfl := Option.some.inj h
      exact k_vret hx hb hr hlk hP hD hS dX0_hearAt_10
set_option maxRecDepth 100000 in
theorem c_X0_hearAt (l : Launch) (g : gG) (q_t : Nat) (Q_t : Ad) (N : Nat) (F_t : St) (x1 : Int32) (x2 : Int32) (o : (Nat → Int32) × (Nat → Int32)) (h : x_X0_hearAt N F_t x1 x2 = some o) (sz : Nat) : MetV l yX0_hearAt (.code yX0_hearAt cX0_hearAt 5 none :: gW) 1 21 [.ref q_t, .int x1, .int x2] g [oX0 q_t Q_t (F_t 0 0) (F_t 1 0), ia g (Q_t 4) 8 (F_t 4), ia g (Q_t 5) 64 (F_t 5)] [oX0 q_t Q_t (F_t 0 0) (F_t 1 0), ia g (Q_t 4) 8 o.1, ia g (Q_t 5) 64 o.2] sz :=
  mkV (av := [.ref q_t, .int x1, .int x2]) (by decide +kernel) rfl (fun p e s m below meth c A E H locs ls hP hD hS hl => t_X0_hearAt E q_t Q_t N F_t x1 x2 o h H locs ls hP hD hS hl) sz
def x_X0_sendOn_b8 (N : Nat) (F_t : St) (F_a1 : St) (x2 : Int32) (x3 : Int32) (x4 : Int32) : Option ((Int32 × (Nat → Int32) × (Nat → Int32) × (Nat → Int32) × (Nat → Int32)) ⊕ ((Nat → Int32) × (Nat → Int32) × (Nat → Int32) × (Nat → Int32))) :=
  if (F_a1 2 0) ≤ x4 then (some (.inr ((F_t 2), (F_t 4), (F_t 5), (F_t 6)))) else (if x4 < 0 ∨ 10 ≤ x4.toNatClampNeg then none else if ((F_a1 5) x4.toNatClampNeg) = x2 then (Option.bind (x_X9_has (F_t 1 0) x4) (fun v_5 => if v_5 = 0 then (if x4 < 0 ∨ 10 ≤ x4.toNatClampNeg then none else if (F_a1 0 0) ≤ ((F_t 2) x4.toNatClampNeg) then (some (.inl ((x4 + (1 : Int32)), (F_t 2), (F_t 4), (F_t 5), (F_t 6)))) else (if x4 < 0 ∨ 10 ≤ x4.toNatClampNeg then none else Option.bind (x_J6_bitCount_0f7a4 x3) (fun v_10 => if x4 < 0 ∨ 10 ≤ x4.toNatClampNeg then none else xl (((F_t 2) x4.toNatClampNeg) + v_10) (fun y_12 => if x4 < 0 ∨ 10 ≤ x4.toNatClampNeg then none else if x4 < 0 ∨ 10 ≤ x4.toNatClampNeg then none else if ((((F_a1 6) x4.toNatClampNeg) * (10 : Int32)) + (((F_t 0 0) + ((F_a1 7) x4.toNatClampNeg)) - ((F_t 0 0) + ((F_a1 7) x4.toNatClampNeg)) / (10 : Int32) * (10 : Int32))) < 0 ∨ 80 ≤ ((((F_a1 6) x4.toNatClampNeg) * (10 : Int32)) + (((F_t 0 0) + ((F_a1 7) x4.toNatClampNeg)) - ((F_t 0 0) + ((F_a1 7) x4.toNatClampNeg)) / (10 : Int32) * (10 : Int32))).toNatClampNeg then none else if ((((F_a1 6) x4.toNatClampNeg) * (10 : Int32)) + (((F_t 0 0) + ((F_a1 7) x4.toNatClampNeg)) - ((F_t 0 0) + ((F_a1 7) x4.toNatClampNeg)) / (10 : Int32) * (10 : Int32))) < 0 ∨ 80 ≤ ((((F_a1 6) x4.toNatClampNeg) * (10 : Int32)) + (((F_t 0 0) + ((F_a1 7) x4.toNatClampNeg)) - ((F_t 0 0) + ((F_a1 7) x4.toNatClampNeg)) / (10 : Int32) * (10 : Int32))).toNatClampNeg then none else xl (((F_t 6) ((((F_a1 6) x4.toNatClampNeg) * (10 : Int32)) + (((F_t 0 0) + ((F_a1 7) x4.toNatClampNeg)) - ((F_t 0 0) + ((F_a1 7) x4.toNatClampNeg)) / (10 : Int32) * (10 : Int32))).toNatClampNeg) ||| x3) (fun y_17 => if x4 < 0 ∨ 10 ≤ x4.toNatClampNeg then none else Option.bind (x_X0_hearAt N (va_up (va_up F_t 2 (upd (F_t 2) x4.toNatClampNeg y_12)) 6 (upd (F_t 6) ((((F_a1 6) x4.toNatClampNeg) * (10 : Int32)) + (((F_t 0 0) + ((F_a1 7) x4.toNatClampNeg)) - ((F_t 0 0) + ((F_a1 7) x4.toNatClampNeg)) / (10 : Int32) * (10 : Int32))).toNatClampNeg y_17)) ((F_t 3) x4.toNatClampNeg) x3) (fun v_19 => some (.inl ((x4 + (1 : Int32)), (upd (F_t 2) x4.toNatClampNeg y_12), v_19.1, v_19.2, (upd (F_t 6) ((((F_a1 6) x4.toNatClampNeg) * (10 : Int32)) + (((F_t 0 0) + ((F_a1 7) x4.toNatClampNeg)) - ((F_t 0 0) + ((F_a1 7) x4.toNatClampNeg)) / (10 : Int32) * (10 : Int32))).toNatClampNeg y_17))))))))) else (some (.inl ((x4 + (1 : Int32)), (F_t 2), (F_t 4), (F_t 5), (F_t 6)))))) else (some (.inl ((x4 + (1 : Int32)), (F_t 2), (F_t 4), (F_t 5), (F_t 6)))))
set_option maxHeartbeats 4000000 in
set_option maxRecDepth 100000 in
theorem t_X0_sendOn_b8 {p : Program} {l : Launch} {e : Env} {s : State} {m : MethodId} {args : Array Value} {below : List Frame} {meth : Method} {c : Code} {g : gG} {A : Nat → Prop} {Q : State → Prop} (E : En p s m args meth c g A cX0_sendOn 5 (.code yX0_sendOn cX0_sendOn 5 none :: gW) RX0 none) (q_t : Nat) (Q_t : Ad) (q_a1 : Nat) (Q_a1 : Ad) (N : Nat) (F_t : St) (F_a1 : St) (x2 : Int32) (x3 : Int32) (x4 : Int32) (o : (Int32 × (Nat → Int32) × (Nat → Int32) × (Nat → Int32) × (Nat → Int32)) ⊕ ((Nat → Int32) × (Nat → Int32) × (Nat → Int32) × (Nat → Int32))) (h : x_X0_sendOn_b8 N F_t F_a1 x2 x3 x4 = some o) (hc : ∀ z, o = .inl z → WA p l e (rM 2 45) s m args below meth c g A Q 5 8 [oX0 q_t Q_t (F_t 0 0) (F_t 1 0), ia g (Q_t 2) 10 z.2.1, ia g (Q_t 3) 10 (F_t 3), ia g (Q_t 4) 8 z.2.2.1, ia g (Q_t 5) 64 z.2.2.2.1, ia g (Q_t 6) 80 z.2.2.2.2, oX4 q_a1 Q_a1 (F_a1 0 0) (F_a1 1 0) (F_a1 2 0), ia g (Q_a1 5) 10 (F_a1 5), ia g (Q_a1 6) 10 (F_a1 6), ia g (Q_a1 7) 10 (F_a1 7)] [(0, .ref q_t), (1, .ref q_a1), (2, .int x2), (3, .int x3), (4, .int z.1)] []) (he : ∀ v, o = .inr v → WA p l e (rM 2 45) s m args below meth c g A Q 5 121 [oX0 q_t Q_t (F_t 0 0) (F_t 1 0), ia g (Q_t 2) 10 v.1, ia g (Q_t 3) 10 (F_t 3), ia g (Q_t 4) 8 v.2.1, ia g (Q_t 5) 64 v.2.2.1, ia g (Q_t 6) 80 v.2.2.2, oX4 q_a1 Q_a1 (F_a1 0 0) (F_a1 1 0) (F_a1 2 0), ia g (Q_a1 5) 10 (F_a1 5), ia g (Q_a1 6) 10 (F_a1 6), ia g (Q_a1 7) 10 (F_a1 7)] [] []) : WA p l e (rM 2 45) s m args below meth c g A Q 5 8 [oX0 q_t Q_t (F_t 0 0) (F_t 1 0), ia g (Q_t 2) 10 (F_t 2), ia g (Q_t 3) 10 (F_t 3), ia g (Q_t 4) 8 (F_t 4), ia g (Q_t 5) 64 (F_t 5), ia g (Q_t 6) 80 (F_t 6), oX4 q_a1 Q_a1 (F_a1 0 0) (F_a1 1 0) (F_a1 2 0), ia g (Q_a1 5) 10 (F_a1 5), ia g (Q_a1 6) 10 (F_a1 6), ia g (Q_a1 7) 10 (F_a1 7)] [(0, .ref q_t), (1, .ref q_a1), (2, .int x2), (3, .int x3), (4, .int x4)] [] := by
  obtain ⟨⟨hx, hb, hml, hown, hts⟩, hr, hK, hA, hlk⟩ := id E
  intro H locs ls hP hD hS hl
  refine lv_iload hx hb dX0_sendOn_8 (lv_at hl 4 rfl) ?_
  refine lv_aload_n hx hb dX0_sendOn_10 rfl (lv_at hl 1 rfl) ?_
  refine va_get (ci := 4) (v := .int (F_a1 2 0)) (C := RX4) (T := TX4) (N := 9) hx hb hts (fun w h => .tail _ (u_inX4 w h)) hown hK.1 hP 6 rfl rfl 2 (by decide) (hts _ (.tail _ u_fl_X0_49)) (fun _ h9 => h9) rfl dX0_sendOn_11 ?_
  refine lv_icmp_ge (tgt := 121) hx hb dX0_sendOn_14 (by decide) (fun c_2 => ?_) (fun c_2 => ?_)
  · have h := ox_t c_2 h
    obtain rfl := Option.some.inj h
    exact he _ rfl H locs ls hP hD hS (lv_sub hl [] rfl)
  · have h := ox_f c_2 h
    refine lv_aload_n hx hb dX0_sendOn_17 rfl (lv_at hl 1 rfl) ?_
    refine va_get (ci := 4) (v := .ref (Q_a1 5)) (C := RX4) (T := TX4) (N := 9) hx hb hts (fun w h => .tail _ (u_inX4 w h)) hown hK.1 hP 6 rfl rfl 5 (by decide) (hts _ (.tail _ u_fl_X0_78)) (fun _ h9 => h9) rfl dX0_sendOn_18 ?_
    refine lv_iload hx hb dX0_sendOn_21 (lv_at hl 4 rfl) ?_
    obtain ⟨hi_3, h⟩ := ox_chk h
    refine va_iald hx hb hK.1 hP 7 0 rfl rfl hi_3 dX0_sendOn_23 ?_
    refine lv_iload_n hx hb dX0_sendOn_24 rfl (lv_at hl 2 rfl) ?_
    refine lv_icmp_ne (tgt := 115) hx hb dX0_sendOn_25 (by decide) (fun c_4 => ?_) (fun c_4 => ?_)
    · have h := ox_f c_4 h
      refine lv_iinc (v := (x4 + (1 : Int32))) (lv' := [(4, .int (x4 + (1 : Int32))), (0, .ref q_t), (1, .ref q_a1), (2, .int x2), (3, .int x3)]) hx hb dX0_sendOn_115 hl (k := 4) rfl rfl (by decide) rfl (fun ls hl => ?_)
      refine lv_goto (tgt := 8) hx hb dX0_sendOn_118 (by decide) ?_
      obtain rfl := Option.some.inj h
      exact hc _ rfl H locs ls hP hD hS (lv_sub hl [1, 2, 3, 4, 0] rfl)
    · have h := ox_t c_4 h
      refine lv_aload_n hx hb dX0_sendOn_28 rfl (lv_at hl 0 rfl) ?_
      refine va_get (ci := 0) (v := .int (F_t 1 0)) (C := RX0) (T := TX0) (N := 7) hx hb hts (fun w h => .tail _ (u_inX0 w h)) hown hK.1 hP 0 rfl rfl 1 (by decide) (hts _ (.tail _ u_fl_X0_15)) (fun _ h9 => h9) rfl dX0_sendOn_29 ?_
      refine lv_iload hx hb dX0_sendOn_32 (lv_at hl 4 rfl) ?_
      obtain ⟨v_5, hv_5, h⟩ := ox_bind h
      refine kNi ⟨hx, hb, hml, hown, hts⟩ (c_X9_has l g (F_t 1 0) x4 v_5 hv_5 H.size) u_co_X9_has u_st_X9_has u_ini_X9 n_X0_81 hd_X9_has ⟨rfl, rfl⟩ hK hP hD hS hA [] [0, 1, 2, 3, 4, 5, 6, 7, 8, 9] rfl rfl 0 rfl (w2 := [oX0 q_t Q_t (F_t 0 0) (F_t 1 0), ia g (Q_t 2) 10 (F_t 2), ia g (Q_t 3) 10 (F_t 3), ia g (Q_t 4) 8 (F_t 4), ia g (Q_t 5) 64 (F_t 5), ia g (Q_t 6) 80 (F_t 6), oX4 q_a1 Q_a1 (F_a1 0 0) (F_a1 1 0) (F_a1 2 0), ia g (Q_a1 5) 10 (F_a1 5), ia g (Q_a1 6) 10 (F_a1 6), ia g (Q_a1 7) 10 (F_a1 7)]) rfl rfl (As := [.int (F_t 1 0), .int x4]) (rest := []) rfl hl.1 rfl rfl dX0_sendOn_34 (fun H locs hP hD hS => ?_)
      refine lv_if_ne (tgt := 115) hx hb dX0_sendOn_37 (by decide) (fun c_6 => ?_) (fun c_6 => ?_)
      · have h := ox_f c_6 h
        refine lv_iinc (v := (x4 + (1 : Int32))) (lv' := [(4, .int (x4 + (1 : Int32))), (0, .ref q_t), (1, .ref q_a1), (2, .int x2), (3, .int x3)]) hx hb dX0_sendOn_115 hl (k := 4) rfl rfl (by decide) rfl (fun ls hl => ?_)
        refine lv_goto (tgt := 8) hx hb dX0_sendOn_118 (by decide) ?_
        obtain rfl := Option.some.inj h
        exact hc _ rfl H locs ls hP hD hS (lv_sub hl [1, 2, 3, 4, 0] rfl)
      · have h := ox_t c_6 h
        refine lv_aload_n hx hb dX0_sendOn_40 rfl (lv_at hl 0 rfl) ?_
        refine va_get (ci := 0) (v := .ref (Q_t 2)) (C := RX0) (T := TX0) (N := 7) hx hb hts (fun w h => .tail _ (u_inX0 w h)) hown hK.1 hP 0 rfl rfl 2 (by decide) (hts _ (.tail _ u_fl_X0_18)) (fun _ h9 => h9) rfl dX0_sendOn_41 ?_
        refine lv_iload hx hb dX0_sendOn_44 (lv_at hl 4 rfl) ?_
        obtain ⟨hi_7, h⟩ := ox_chk h
        refine va_iald hx hb hK.1 hP 1 0 rfl rfl hi_7 dX0_sendOn_46 ?_
        refine lv_aload_n hx hb dX0_sendOn_47 rfl (lv_at hl 1 rfl) ?_
        refine va_get (ci := 4) (v := .int (F_a1 0 0)) (C := RX4) (T := TX4) (N := 9) hx hb hts (fun w h => .tail _ (u_inX4 w h)) hown hK.1 hP 6 rfl rfl 0 (by decide) (hts _ (.tail _ u_fl_X0_54)) (fun _ h9 => h9) rfl dX0_sendOn_48 ?_
        refine lv_icmp_ge (tgt := 115) hx hb dX0_sendOn_51 (by decide) (fun c_8 => ?_) (fun c_8 => ?_)
        · have h := ox_t c_8 h
          refine lv_iinc (v := (x4 + (1 : Int32))) (lv' := [(4, .int (x4 + (1 : Int32))), (0, .ref q_t), (1, .ref q_a1), (2, .int x2), (3, .int x3)]) hx hb dX0_sendOn_115 hl (k := 4) rfl rfl (by decide) rfl (fun ls hl => ?_)
          refine lv_goto (tgt := 8) hx hb dX0_sendOn_118 (by decide) ?_
          obtain rfl := Option.some.inj h
          exact hc _ rfl H locs ls hP hD hS (lv_sub hl [1, 2, 3, 4, 0] rfl)
        · have h := ox_f c_8 h
          refine lv_aload_n hx hb dX0_sendOn_54 rfl (lv_at hl 0 rfl) ?_
          refine va_get (ci := 0) (v := .ref (Q_t 2)) (C := RX0) (T := TX0) (N := 7) hx hb hts (fun w h => .tail _ (u_inX0 w h)) hown hK.1 hP 0 rfl rfl 2 (by decide) (hts _ (.tail _ u_fl_X0_18)) (fun _ h9 => h9) rfl dX0_sendOn_55 ?_
          refine lv_iload hx hb dX0_sendOn_58 (lv_at hl 4 rfl) ?_
          refine lv_dup2_11 hx hb dX0_sendOn_60 rfl rfl ?_
          obtain ⟨hi_9, h⟩ := ox_chk h
          refine va_iald hx hb hK.1 hP 1 0 rfl rfl hi_9 dX0_sendOn_61 ?_
          refine lv_iload_n hx hb dX0_sendOn_62 rfl (lv_at hl 3 rfl) ?_
          obtain ⟨v_10, hv_10, h⟩ := ox_bind h
          refine kSi ⟨hx, hb, hml, hown, hts⟩ (c_J6_bitCount_0f7a4 l g x3 v_10 hv_10 H.size) (gS u_ml_X0_57 u_st_J6_bitCount_0f7a4 u_ini_J6 u_co_J6_bitCount_0f7a4) hd_J6_bitCount_0f7a4 ⟨rfl, rfl⟩ hK hP hD hS hA [] [0, 1, 2, 3, 4, 5, 6, 7, 8, 9] rfl rfl 0 rfl (w2 := [oX0 q_t Q_t (F_t 0 0) (F_t 1 0), ia g (Q_t 2) 10 (F_t 2), ia g (Q_t 3) 10 (F_t 3), ia g (Q_t 4) 8 (F_t 4), ia g (Q_t 5) 64 (F_t 5), ia g (Q_t 6) 80 (F_t 6), oX4 q_a1 Q_a1 (F_a1 0 0) (F_a1 1 0) (F_a1 2 0), ia g (Q_a1 5) 10 (F_a1 5), ia g (Q_a1 6) 10 (F_a1 6), ia g (Q_a1 7) 10 (F_a1 7)]) rfl rfl (As := [.int x3]) (rest := [.int ((F_t 2) x4.toNatClampNeg), .int x4, .ref (Q_t 2)]) rfl hl.1 rfl rfl dX0_sendOn_63 (fun H locs hP hD hS => ?_)
          refine lv_iadd hx hb dX0_sendOn_66 ?_
          obtain ⟨hi_11, h⟩ := ox_chk h
          refine lv_topi (fun y_12 ey_12 => ?_)
          have h := xl_at ey_12 h
          refine va_iast hx hb hK.1 hP hD hS 1 0 rfl rfl hi_11 dX0_sendOn_67 (fun H locs hP hD hS => ?_)
          have hP : va_P g.1 vwCl [oX0 q_t Q_t (F_t 0 0) (F_t 1 0), ia g (Q_t 2) 10 (upd (F_t 2) x4.toNatClampNeg y_12), ia g (Q_t 3) 10 (F_t 3), ia g (Q_t 4) 8 (F_t 4), ia g (Q_t 5) 64 (F_t 5), ia g (Q_t 6) 80 (F_t 6), oX4 q_a1 Q_a1 (F_a1 0 0) (F_a1 1 0) (F_a1 2 0), ia g (Q_a1 5) 10 (F_a1 5), ia g (Q_a1 6) 10 (F_a1 6), ia g (Q_a1 7) 10 (F_a1 7)] H := hP
          have hD : va_D A [oX0 q_t Q_t (F_t 0 0) (F_t 1 0), ia g (Q_t 2) 10 (upd (F_t 2) x4.toNatClampNeg y_12), ia g (Q_t 3) 10 (F_t 3), ia g (Q_t 4) 8 (F_t 4), ia g (Q_t 5) 64 (F_t 5), ia g (Q_t 6) 80 (F_t 6), oX4 q_a1 Q_a1 (F_a1 0 0) (F_a1 1 0) (F_a1 2 0), ia g (Q_a1 5) 10 (F_a1 5), ia g (Q_a1 6) 10 (F_a1 6), ia g (Q_a1 7) 10 (F_a1 7)] := hD
          refine lv_aload_n hx hb dX0_sendOn_68 rfl (lv_at hl 0 rfl) ?_
          refine va_get (ci := 0) (v := .ref (Q_t 6)) (C := RX0) (T := TX0) (N := 7) hx hb hts (fun w h => .tail _ (u_inX0 w h)) hown hK.1 hP 0 rfl rfl 6 (by decide) (hts _ (.tail _ u_fl_X0_31)) (fun _ h9 => h9) rfl dX0_sendOn_69 ?_
          refine lv_aload_n hx hb dX0_sendOn_72 rfl (lv_at hl 1 rfl) ?_
          refine va_get (ci := 4) (v := .ref (Q_a1 6)) (C := RX4) (T := TX4) (N := 9) hx hb hts (fun w h => .tail _ (u_inX4 w h)) hown hK.1 hP 6 rfl rfl 6 (by decide) (hts _ (.tail _ u_fl_X0_85)) (fun _ h9 => h9) rfl dX0_sendOn_73 ?_
          refine lv_iload hx hb dX0_sendOn_76 (lv_at hl 4 rfl) ?_
          obtain ⟨hi_13, h⟩ := ox_chk h
          refine va_iald hx hb hK.1 hP 8 0 rfl rfl hi_13 dX0_sendOn_78 ?_
          refine lv_bipush (v := (10 : Int32)) hx hb dX0_sendOn_79 (by decide) ?_
          refine lv_imul hx hb dX0_sendOn_81 ?_
          refine lv_aload_n hx hb dX0_sendOn_82 rfl (lv_at hl 0 rfl) ?_
          refine va_get (ci := 0) (v := .int (F_t 0 0)) (C := RX0) (T := TX0) (N := 7) hx hb hts (fun w h => .tail _ (u_inX0 w h)) hown hK.1 hP 0 rfl rfl 0 (by decide) (hts _ (.tail _ u_fl_X0_9)) (fun _ h9 => h9) rfl dX0_sendOn_83 ?_
          refine lv_aload_n hx hb dX0_sendOn_86 rfl (lv_at hl 1 rfl) ?_
          refine va_get (ci := 4) (v := .ref (Q_a1 7)) (C := RX4) (T := TX4) (N := 9) hx hb hts (fun w h => .tail _ (u_inX4 w h)) hown hK.1 hP 6 rfl rfl 7 (by decide) (hts _ (.tail _ u_fl_X0_88)) (fun _ h9 => h9) rfl dX0_sendOn_87 ?_
          refine lv_iload hx hb dX0_sendOn_90 (lv_at hl 4 rfl) ?_
          obtain ⟨hi_14, h⟩ := ox_chk h
          refine va_iald hx hb hK.1 hP 9 0 rfl rfl hi_14 dX0_sendOn_92 ?_
          refine lv_iadd hx hb dX0_sendOn_93 ?_
          refine lv_bipush (v := (10 : Int32)) hx hb dX0_sendOn_94 (by decide) ?_
          refine lv_irem hx hb dX0_sendOn_96 (by decide) ?_
          refine lv_iadd hx hb dX0_sendOn_97 ?_
          refine lv_dup2_11 hx hb dX0_sendOn_98 rfl rfl ?_
          obtain ⟨hi_15, h⟩ := ox_chk h
          refine va_iald hx hb hK.1 hP 5 0 rfl rfl hi_15 dX0_sendOn_99 ?_
          refine lv_iload_n hx hb dX0_sendOn_100 rfl (lv_at hl 3 rfl) ?_
          refine lv_ior hx hb dX0_sendOn_101 ?_
          obtain ⟨hi_16, h⟩ := ox_chk h
          refine lv_topi (fun y_17 ey_17 => ?_)
          have h := xl_at ey_17 h
          refine va_iast hx hb hK.1 hP hD hS 5 0 rfl rfl hi_16 dX0_sendOn_102 (fun H locs hP hD hS => ?_)
          have hP : va_P g.1 vwCl [oX0 q_t Q_t (F_t 0 0) (F_t 1 0), ia g (Q_t 2) 10 (upd (F_t 2) x4.toNatClampNeg y_12), ia g (Q_t 3) 10 (F_t 3), ia g (Q_t 4) 8 (F_t 4), ia g (Q_t 5) 64 (F_t 5), ia g (Q_t 6) 80 (upd (F_t 6) ((((F_a1 6) x4.toNatClampNeg) * (10 : Int32)) + (((F_t 0 0) + ((F_a1 7) x4.toNatClampNeg)) - ((F_t 0 0) + ((F_a1 7) x4.toNatClampNeg)) / (10 : Int32) * (10 : Int32))).toNatClampNeg y_17), oX4 q_a1 Q_a1 (F_a1 0 0) (F_a1 1 0) (F_a1 2 0), ia g (Q_a1 5) 10 (F_a1 5), ia g (Q_a1 6) 10 (F_a1 6), ia g (Q_a1 7) 10 (F_a1 7)] H := hP
          have hD : va_D A [oX0 q_t Q_t (F_t 0 0) (F_t 1 0), ia g (Q_t 2) 10 (upd (F_t 2) x4.toNatClampNeg y_12), ia g (Q_t 3) 10 (F_t 3), ia g (Q_t 4) 8 (F_t 4), ia g (Q_t 5) 64 (F_t 5), ia g (Q_t 6) 80 (upd (F_t 6) ((((F_a1 6) x4.toNatClampNeg) * (10 : Int32)) + (((F_t 0 0) + ((F_a1 7) x4.toNatClampNeg)) - ((F_t 0 0) + ((F_a1 7) x4.toNatClampNeg)) / (10 : Int32) * (10 : Int32))).toNatClampNeg y_17), oX4 q_a1 Q_a1 (F_a1 0 0) (F_a1 1 0) (F_a1 2 0), ia g (Q_a1 5) 10 (F_a1 5), ia g (Q_a1 6) 10 (F_a1 6), ia g (Q_a1 7) 10 (F_a1 7)] := hD
          refine lv_aload_n hx hb dX0_sendOn_103 rfl (lv_at hl 0 rfl) ?_
          refine lv_aload_n hx hb dX0_sendOn_104 rfl (lv_at hl 0 rfl) ?_
          refine va_get (ci := 0) (v := .ref (Q_t 3)) (C := RX0) (T := TX0) (N := 7) hx hb hts (fun w h => .tail _ (u_inX0 w h)) hown hK.1 hP 0 rfl rfl 3 (by decide) (hts _ (.tail _ u_fl_X0_22)) (fun _ h9 => h9) rfl dX0_sendOn_105 ?_
          refine lv_iload hx hb dX0_sendOn_108 (lv_at hl 4 rfl) ?_
          obtain ⟨hi_18, h⟩ := ox_chk h
          refine va_iald hx hb hK.1 hP 2 0 rfl rfl hi_18 dX0_sendOn_110 ?_
          refine lv_iload_n hx hb dX0_sendOn_111 rfl (lv_at hl 3 rfl) ?_
          obtain ⟨v_19, hv_19, h⟩ := ox_bind h
          refine kVv ⟨hx, hb, hml, hown, hts⟩ (c_X0_hearAt l g q_t Q_t N (va_up (va_up F_t 2 (upd (F_t 2) x4.toNatClampNeg y_12)) 6 (upd (F_t 6) ((((F_a1 6) x4.toNatClampNeg) * (10 : Int32)) + (((F_t 0 0) + ((F_a1 7) x4.toNatClampNeg)) - ((F_t 0 0) + ((F_a1 7) x4.toNatClampNeg)) / (10 : Int32) * (10 : Int32))).toNatClampNeg y_17)) ((F_t 3) x4.toNatClampNeg) x3 v_19 hv_19 H.size) (gV u_ml_X0_66 u_im_X0_hearAt u_se_X0_hearAt u_ini_X0 u_co_X0_hearAt) hd_X0_hearAt ⟨rfl, rfl⟩ hK hP hD hS hA 0 0 rfl rfl [0, 3, 4] [0, 4, 5, 1, 2, 8, 9, 10, 11, 12] rfl rfl 3 rfl (w2 := [oX0 q_t Q_t (F_t 0 0) (F_t 1 0), ia g (Q_t 2) 10 (upd (F_t 2) x4.toNatClampNeg y_12), ia g (Q_t 3) 10 (F_t 3), ia g (Q_t 4) 8 v_19.1, ia g (Q_t 5) 64 v_19.2, ia g (Q_t 6) 80 (upd (F_t 6) ((((F_a1 6) x4.toNatClampNeg) * (10 : Int32)) + (((F_t 0 0) + ((F_a1 7) x4.toNatClampNeg)) - ((F_t 0 0) + ((F_a1 7) x4.toNatClampNeg)) / (10 : Int32) * (10 : Int32))).toNatClampNeg y_17), oX4 q_a1 Q_a1 (F_a1 0 0) (F_a1 1 0) (F_a1 2 0), ia g (Q_a1 5) 10 (F_a1 5), ia g (Q_a1 6) 10 (F_a1 6), ia g (Q_a1 7) 10 (F_a1 7)]) rfl rfl (As := [.int ((F_t 3) x4.toNatClampNeg), .int x3]) (rest := []) rfl hl.1 rfl rfl dX0_sendOn_112 (fun H locs hP hD hS => ?_)
          refine lv_iinc (v := (x4 + (1 : Int32))) (lv' := [(4, .int (x4 + (1 : Int32))), (0, .ref q_t), (1, .ref q_a1), (2, .int x2), (3, .int x3)]) hx hb dX0_sendOn_115 hl (k := 4) rfl rfl (by decide) rfl (fun ls hl => ?_)
          refine lv_goto (tgt := 8) hx hb dX0_sendOn_118 (by decide) ?_
          obtain rfl := Option.some.inj h
          exact hc _ rfl H locs ls hP hD hS (lv_sub hl [1, 2, 3, 4, 0] rfl)
def x_X0_sendOn (N : Nat) (F_t : St) (F_a1 : St) (x2 : Int32) (x3 : Int32) : Option ((Nat → Int32) × (Nat → Int32) × (Nat → Int32) × (Nat → Int32)) :=
  if x3 = 0 then (some ((F_t 2), (F_t 4), (F_t 5), (F_t 6))) else (Option.bind (lpc (fun (z : Int32 × (Nat → Int32) × (Nat → Int32) × (Nat → Int32) × (Nat → Int32)) => x_X0_sendOn_b8 N (va_up (va_up (va_up (va_up F_t 2 z.2.1) 4 z.2.2.1) 5 z.2.2.2.1) 6 z.2.2.2.2) F_a1 x2 x3 z.1) N ((0 : Int32), (F_t 2), (F_t 4), (F_t 5), (F_t 6))) (fun v_20 => some (v_20.1, v_20.2.1, v_20.2.2.1, v_20.2.2.2)))
set_option maxHeartbeats 4000000 in
set_option maxRecDepth 100000 in
theorem t_X0_sendOn {p : Program} {l : Launch} {e : Env} {s : State} {m : MethodId} {args : Array Value} {below : List Frame} {meth : Method} {c : Code} {g : gG} {A : Nat → Prop} (E : En p s m args meth c g A cX0_sendOn 5 (.code yX0_sendOn cX0_sendOn 5 none :: gW) RX0 none) (q_t : Nat) (Q_t : Ad) (q_a1 : Nat) (Q_a1 : Ad) (N : Nat) (F_t : St) (F_a1 : St) (x2 : Int32) (x3 : Int32) (o : (Nat → Int32) × (Nat → Int32) × (Nat → Int32) × (Nat → Int32)) (h : x_X0_sendOn N F_t F_a1 x2 x3 = some o) : WA p l e (rM 2 45) s m args below meth c g A (MQ below (QV g A [oX0 q_t Q_t (F_t 0 0) (F_t 1 0), ia g (Q_t 2) 10 o.1, ia g (Q_t 3) 10 (F_t 3), ia g (Q_t 4) 8 o.2.1, ia g (Q_t 5) 64 o.2.2.1, ia g (Q_t 6) 80 o.2.2.2, oX4 q_a1 Q_a1 (F_a1 0 0) (F_a1 1 0) (F_a1 2 0), ia g (Q_a1 5) 10 (F_a1 5), ia g (Q_a1 6) 10 (F_a1 6), ia g (Q_a1 7) 10 (F_a1 7)]) args s 0 0 A) 5 0 [oX0 q_t Q_t (F_t 0 0) (F_t 1 0), ia g (Q_t 2) 10 (F_t 2), ia g (Q_t 3) 10 (F_t 3), ia g (Q_t 4) 8 (F_t 4), ia g (Q_t 5) 64 (F_t 5), ia g (Q_t 6) 80 (F_t 6), oX4 q_a1 Q_a1 (F_a1 0 0) (F_a1 1 0) (F_a1 2 0), ia g (Q_a1 5) 10 (F_a1 5), ia g (Q_a1 6) 10 (F_a1 6), ia g (Q_a1 7) 10 (F_a1 7)] [(0, .ref q_t), (1, .ref q_a1), (2, .int x2), (3, .int x3)] [] := by
  obtain ⟨⟨hx, hb, hml, hown, hts⟩, hr, hK, hA, hlk⟩ := id E
  intro H locs ls hP hD hS hl
  refine lv_iload_n hx hb dX0_sendOn_0 rfl (lv_at hl 3 rfl) ?_
  refine lv_if_ne (tgt := 5) hx hb dX0_sendOn_1 (by decide) (fun c_1 => ?_) (fun c_1 => ?_)
  · have h := ox_f c_1 h
    refine lv_iconst (v := (0 : Int32)) hx hb dX0_sendOn_5 (by decide) ?_
    refine lv_istore (lv' := [(4, .int (0 : Int32)), (0, .ref q_t), (1, .ref q_a1), (2, .int x2), (3, .int x3)]) hx hb dX0_sendOn_6 hl (by decide) rfl (fun ls hl => ?_)
    obtain ⟨v_20, hv_20, h⟩ := ox_bind h
    refine lpc_W (Wh := fun (z : Int32 × (Nat → Int32) × (Nat → Int32) × (Nat → Int32) × (Nat → Int32)) => WA p l e (rM 2 45) s m args below meth c g A (MQ below (QV g A [oX0 q_t Q_t (F_t 0 0) (F_t 1 0), ia g (Q_t 2) 10 o.1, ia g (Q_t 3) 10 (F_t 3), ia g (Q_t 4) 8 o.2.1, ia g (Q_t 5) 64 o.2.2.1, ia g (Q_t 6) 80 o.2.2.2, oX4 q_a1 Q_a1 (F_a1 0 0) (F_a1 1 0) (F_a1 2 0), ia g (Q_a1 5) 10 (F_a1 5), ia g (Q_a1 6) 10 (F_a1 6), ia g (Q_a1 7) 10 (F_a1 7)]) args s 0 0 A) 5 8 [oX0 q_t Q_t (F_t 0 0) (F_t 1 0), ia g (Q_t 2) 10 z.2.1, ia g (Q_t 3) 10 (F_t 3), ia g (Q_t 4) 8 z.2.2.1, ia g (Q_t 5) 64 z.2.2.2.1, ia g (Q_t 6) 80 z.2.2.2.2, oX4 q_a1 Q_a1 (F_a1 0 0) (F_a1 1 0) (F_a1 2 0), ia g (Q_a1 5) 10 (F_a1 5), ia g (Q_a1 6) 10 (F_a1 6), ia g (Q_a1 7) 10 (F_a1 7)] [(0, .ref q_t), (1, .ref q_a1), (2, .int x2), (3, .int x3), (4, .int z.1)] []) (We := fun (v : (Nat → Int32) × (Nat → Int32) × (Nat → Int32) × (Nat → Int32)) => WA p l e (rM 2 45) s m args below meth c g A (MQ below (QV g A [oX0 q_t Q_t (F_t 0 0) (F_t 1 0), ia g (Q_t 2) 10 o.1, ia g (Q_t 3) 10 (F_t 3), ia g (Q_t 4) 8 o.2.1, ia g (Q_t 5) 64 o.2.2.1, ia g (Q_t 6) 80 o.2.2.2, oX4 q_a1 Q_a1 (F_a1 0 0) (F_a1 1 0) (F_a1 2 0), ia g (Q_a1 5) 10 (F_a1 5), ia g (Q_a1 6) 10 (F_a1 6), ia g (Q_a1 7) 10 (F_a1 7)]) args s 0 0 A) 5 121 [oX0 q_t Q_t (F_t 0 0) (F_t 1 0), ia g (Q_t 2) 10 v.1, ia g (Q_t 3) 10 (F_t 3), ia g (Q_t 4) 8 v.2.1, ia g (Q_t 5) 64 v.2.2.1, ia g (Q_t 6) 80 v.2.2.2, oX4 q_a1 Q_a1 (F_a1 0 0) (F_a1 1 0) (F_a1 2 0), ia g (Q_a1 5) 10 (F_a1 5), ia g (Q_a1 6) 10 (F_a1 6), ia g (Q_a1 7) 10 (F_a1 7)] [] []) (fun z r hb hc he => t_X0_sendOn_b8 E q_t Q_t q_a1 Q_a1 N (va_up (va_up (va_up (va_up F_t 2 z.2.1) 4 z.2.2.1) 5 z.2.2.2.1) 6 z.2.2.2.2) F_a1 x2 x3 z.1 r hb hc he) N ((0 : Int32), (F_t 2), (F_t 4), (F_t 5), (F_t 6)) v_20 hv_20 ?_ H locs ls hP hD hS (lv_sub hl [1, 2, 3, 4, 0] rfl)
    intro H locs ls hP hD hS hl
    obtain rfl := Option.some.inj h
    exact k_vret hx hb hr hlk hP hD hS dX0_sendOn_121
  · have h := ox_t c_1 h
    obtain rfl := Option.some.inj h
    exact k_vret hx hb hr hlk hP hD hS dX0_sendOn_4
set_option maxRecDepth 100000 in
theorem c_X0_sendOn (l : Launch) (g : gG) (q_t : Nat) (Q_t : Ad) (q_a1 : Nat) (Q_a1 : Ad) (N : Nat) (F_t : St) (F_a1 : St) (x2 : Int32) (x3 : Int32) (o : (Nat → Int32) × (Nat → Int32) × (Nat → Int32) × (Nat → Int32)) (h : x_X0_sendOn N F_t F_a1 x2 x3 = some o) (sz : Nat) : MetV l yX0_sendOn (.code yX0_sendOn cX0_sendOn 5 none :: gW) 2 45 [.ref q_t, .ref q_a1, .int x2, .int x3] g [oX0 q_t Q_t (F_t 0 0) (F_t 1 0), ia g (Q_t 2) 10 (F_t 2), ia g (Q_t 3) 10 (F_t 3), ia g (Q_t 4) 8 (F_t 4), ia g (Q_t 5) 64 (F_t 5), ia g (Q_t 6) 80 (F_t 6), oX4 q_a1 Q_a1 (F_a1 0 0) (F_a1 1 0) (F_a1 2 0), ia g (Q_a1 5) 10 (F_a1 5), ia g (Q_a1 6) 10 (F_a1 6), ia g (Q_a1 7) 10 (F_a1 7)] [oX0 q_t Q_t (F_t 0 0) (F_t 1 0), ia g (Q_t 2) 10 o.1, ia g (Q_t 3) 10 (F_t 3), ia g (Q_t 4) 8 o.2.1, ia g (Q_t 5) 64 o.2.2.1, ia g (Q_t 6) 80 o.2.2.2, oX4 q_a1 Q_a1 (F_a1 0 0) (F_a1 1 0) (F_a1 2 0), ia g (Q_a1 5) 10 (F_a1 5), ia g (Q_a1 6) 10 (F_a1 6), ia g (Q_a1 7) 10 (F_a1 7)] sz :=
  mkV (av := [.ref q_t, .ref q_a1, .int x2, .int x3]) (by decide +kernel) rfl (fun p e s m below meth c A E H locs ls hP hD hS hl => t_X0_sendOn E q_t Q_t q_a1 Q_a1 N F_t F_a1 x2 x3 o h H locs ls hP hD hS hl) sz
def x_X0_passHour_b2 (N : Nat) (F_t : St) (F_a1 : St) (x2 : Int32) : Option ((Int32 × (Nat → Int32) × (Nat → Int32) × (Nat → Int32) × (Nat → Int32)) ⊕ ((Nat → Int32) × (Nat → Int32) × (Nat → Int32) × (Nat → Int32))) :=
  if (F_a1 1 0) ≤ x2 then (some (.inr ((F_t 2), (F_t 4), (F_t 5), (F_t 6)))) else (xl ((x2 * (10 : Int32)) + ((F_t 0 0) - (F_t 0 0) / (10 : Int32) * (10 : Int32))) (fun y_2 => if y_2 < 0 ∨ 80 ≤ y_2.toNatClampNeg then none else xl ((F_t 6) y_2.toNatClampNeg) (fun y_4 => if y_2 < 0 ∨ 80 ≤ y_2.toNatClampNeg then none else Option.bind (x_X0_hearAt N (va_up F_t 6 (upd (F_t 6) y_2.toNatClampNeg (0 : Int32))) x2 y_4) (fun v_6 => Option.bind (x_X4_goingOn F_a1 x2 y_4) (fun v_7 => Option.bind (x_X0_sendOn N (va_up (va_up (va_up F_t 4 v_6.1) 5 v_6.2) 6 (upd (F_t 6) y_2.toNatClampNeg (0 : Int32))) F_a1 x2 v_7) (fun v_8 => some (.inl ((x2 + (1 : Int32)), v_8.1, v_8.2.1, v_8.2.2.1, v_8.2.2.2))))))))
set_option maxHeartbeats 4000000 in
set_option maxRecDepth 100000 in
theorem t_X0_passHour_b2 {p : Program} {l : Launch} {e : Env} {s : State} {m : MethodId} {args : Array Value} {below : List Frame} {meth : Method} {c : Code} {g : gG} {A : Nat → Prop} {Q : State → Prop} (E : En p s m args meth c g A cX0_passHour 5 (.code yX0_passHour cX0_passHour 5 none :: gW) RX0 none) (q_t : Nat) (Q_t : Ad) (q_a1 : Nat) (Q_a1 : Ad) (N : Nat) (F_t : St) (F_a1 : St) (x2 : Int32) (o : (Int32 × (Nat → Int32) × (Nat → Int32) × (Nat → Int32) × (Nat → Int32)) ⊕ ((Nat → Int32) × (Nat → Int32) × (Nat → Int32) × (Nat → Int32))) (h : x_X0_passHour_b2 N F_t F_a1 x2 = some o) (hc : ∀ z, o = .inl z → WA p l e (rM 3 69) s m args below meth c g A Q 5 2 [oX0 q_t Q_t (F_t 0 0) (F_t 1 0), ia g (Q_t 2) 10 z.2.1, ia g (Q_t 3) 10 (F_t 3), ia g (Q_t 4) 8 z.2.2.1, ia g (Q_t 5) 64 z.2.2.2.1, ia g (Q_t 6) 80 z.2.2.2.2, oX4 q_a1 Q_a1 (F_a1 0 0) (F_a1 1 0) (F_a1 2 0), ia g (Q_a1 3) 8 (F_a1 3), ia g (Q_a1 5) 10 (F_a1 5), ia g (Q_a1 6) 10 (F_a1 6), ia g (Q_a1 7) 10 (F_a1 7)] [(0, .ref q_t), (1, .ref q_a1), (2, .int z.1)] []) (he : ∀ v, o = .inr v → WA p l e (rM 3 69) s m args below meth c g A Q 5 64 [oX0 q_t Q_t (F_t 0 0) (F_t 1 0), ia g (Q_t 2) 10 v.1, ia g (Q_t 3) 10 (F_t 3), ia g (Q_t 4) 8 v.2.1, ia g (Q_t 5) 64 v.2.2.1, ia g (Q_t 6) 80 v.2.2.2, oX4 q_a1 Q_a1 (F_a1 0 0) (F_a1 1 0) (F_a1 2 0), ia g (Q_a1 3) 8 (F_a1 3), ia g (Q_a1 5) 10 (F_a1 5), ia g (Q_a1 6) 10 (F_a1 6), ia g (Q_a1 7) 10 (F_a1 7)] [(0, .ref q_t)] []) : WA p l e (rM 3 69) s m args below meth c g A Q 5 2 [oX0 q_t Q_t (F_t 0 0) (F_t 1 0), ia g (Q_t 2) 10 (F_t 2), ia g (Q_t 3) 10 (F_t 3), ia g (Q_t 4) 8 (F_t 4), ia g (Q_t 5) 64 (F_t 5), ia g (Q_t 6) 80 (F_t 6), oX4 q_a1 Q_a1 (F_a1 0 0) (F_a1 1 0) (F_a1 2 0), ia g (Q_a1 3) 8 (F_a1 3), ia g (Q_a1 5) 10 (F_a1 5), ia g (Q_a1 6) 10 (F_a1 6), ia g (Q_a1 7) 10 (F_a1 7)] [(0, .ref q_t), (1, .ref q_a1), (2, .int x2)] [] := by
  obtain ⟨⟨hx, hb, hml, hown, hts⟩, hr, hK, hA, hlk⟩ := id E
  intro H locs ls hP hD hS hl
  refine lv_iload_n hx hb dX0_passHour_2 rfl (lv_at hl 2 rfl) ?_
  refine lv_aload_n hx hb dX0_passHour_3 rfl (lv_at hl 1 rfl) ?_
  refine va_get (ci := 4) (v := .int (F_a1 1 0)) (C := RX4) (T := TX4) (N := 9) hx hb hts (fun w h => .tail _ (u_inX4 w h)) hown hK.1 hP 6 rfl rfl 1 (by decide) (hts _ (.tail _ u_fl_X0_63)) (fun _ h9 => h9) rfl dX0_passHour_4 ?_
  refine lv_icmp_ge (tgt := 64) hx hb dX0_passHour_7 (by decide) (fun c_1 => ?_) (fun c_1 => ?_)
  · have h := ox_t c_1 h
    obtain rfl := Option.some.inj h
    exact he _ rfl H locs ls hP hD hS (lv_sub hl [0] rfl)
  · have h := ox_f c_1 h
    refine lv_iload_n hx hb dX0_passHour_10 rfl (lv_at hl 2 rfl) ?_
    refine lv_bipush (v := (10 : Int32)) hx hb dX0_passHour_11 (by decide) ?_
    refine lv_imul hx hb dX0_passHour_13 ?_
    refine lv_aload_n hx hb dX0_passHour_14 rfl (lv_at hl 0 rfl) ?_
    refine va_get (ci := 0) (v := .int (F_t 0 0)) (C := RX0) (T := TX0) (N := 7) hx hb hts (fun w h => .tail _ (u_inX0 w h)) hown hK.1 hP 0 rfl rfl 0 (by decide) (hts _ (.tail _ u_fl_X0_9)) (fun _ h9 => h9) rfl dX0_passHour_15 ?_
    refine lv_bipush (v := (10 : Int32)) hx hb dX0_passHour_18 (by decide) ?_
    refine lv_irem hx hb dX0_passHour_20 (by decide) ?_
    refine lv_iadd hx hb dX0_passHour_21 ?_
    refine lv_topi (fun y_2 ey_2 => ?_)
    have h := xl_at ey_2 h
    refine lv_istore_n (lv' := [(3, .int y_2), (0, .ref q_t), (1, .ref q_a1), (2, .int x2)]) hx hb dX0_passHour_22 rfl hl (by decide) rfl (fun ls hl => ?_)
    refine lv_aload_n hx hb dX0_passHour_23 rfl (lv_at hl 1 rfl) ?_
    refine va_get (ci := 0) (v := .ref (Q_t 6)) (C := RX0) (T := TX0) (N := 7) hx hb hts (fun w h => .tail _ (u_inX0 w h)) hown hK.1 hP 0 rfl rfl 6 (by decide) (hts _ (.tail _ u_fl_X0_31)) (fun _ h9 => h9) rfl dX0_passHour_24 ?_
    refine lv_iload_n hx hb dX0_passHour_27 rfl (lv_at hl 0 rfl) ?_
    obtain ⟨hi_3, h⟩ := ox_chk h
    refine va_iald hx hb hK.1 hP 5 0 rfl rfl hi_3 dX0_passHour_28 ?_
    refine lv_topi (fun y_4 ey_4 => ?_)
    have h := xl_at ey_4 h
    refine lv_istore (lv' := [(4, .int y_4), (3, .int y_2), (0, .ref q_t), (1, .ref q_a1), (2, .int x2)]) hx hb dX0_passHour_29 hl (by decide) rfl (fun ls hl => ?_)
    refine lv_aload_n hx hb dX0_passHour_31 rfl (lv_at hl 2 rfl) ?_
    refine va_get (ci := 0) (v := .ref (Q_t 6)) (C := RX0) (T := TX0) (N := 7) hx hb hts (fun w h => .tail _ (u_inX0 w h)) hown hK.1 hP 0 rfl rfl 6 (by decide) (hts _ (.tail _ u_fl_X0_31)) (fun _ h9 => h9) rfl dX0_passHour_32 ?_
    refine lv_iload_n hx hb dX0_passHour_35 rfl (lv_at hl 1 rfl) ?_
    refine lv_iconst (v := (0 : Int32)) hx hb dX0_passHour_36 (by decide) ?_
    obtain ⟨hi_5, h⟩ := ox_chk h
    refine va_iast hx hb hK.1 hP hD hS 5 0 rfl rfl hi_5 dX0_passHour_37 (fun H locs hP hD hS => ?_)
    have hP : va_P g.1 vwCl [oX0 q_t Q_t (F_t 0 0) (F_t 1 0), ia g (Q_t 2) 10 (F_t 2), ia g (Q_t 3) 10 (F_t 3), ia g (Q_t 4) 8 (F_t 4), ia g (Q_t 5) 64 (F_t 5), ia g (Q_t 6) 80 (upd (F_t 6) y_2.toNatClampNeg (0 : Int32)), oX4 q_a1 Q_a1 (F_a1 0 0) (F_a1 1 0) (F_a1 2 0), ia g (Q_a1 3) 8 (F_a1 3), ia g (Q_a1 5) 10 (F_a1 5), ia g (Q_a1 6) 10 (F_a1 6), ia g (Q_a1 7) 10 (F_a1 7)] H := hP
    have hD : va_D A [oX0 q_t Q_t (F_t 0 0) (F_t 1 0), ia g (Q_t 2) 10 (F_t 2), ia g (Q_t 3) 10 (F_t 3), ia g (Q_t 4) 8 (F_t 4), ia g (Q_t 5) 64 (F_t 5), ia g (Q_t 6) 80 (upd (F_t 6) y_2.toNatClampNeg (0 : Int32)), oX4 q_a1 Q_a1 (F_a1 0 0) (F_a1 1 0) (F_a1 2 0), ia g (Q_a1 3) 8 (F_a1 3), ia g (Q_a1 5) 10 (F_a1 5), ia g (Q_a1 6) 10 (F_a1 6), ia g (Q_a1 7) 10 (F_a1 7)] := hD
    refine lv_aload_n hx hb dX0_passHour_38 rfl (lv_at hl 2 rfl) ?_
    refine lv_iload_n hx hb dX0_passHour_39 rfl (lv_at hl 4 rfl) ?_
    refine lv_iload hx hb dX0_passHour_40 (lv_at hl 0 rfl) ?_
    obtain ⟨v_6, hv_6, h⟩ := ox_bind h
    refine kVv ⟨hx, hb, hml, hown, hts⟩ (c_X0_hearAt l g q_t Q_t N (va_up F_t 6 (upd (F_t 6) y_2.toNatClampNeg (0 : Int32))) x2 y_4 v_6 hv_6 H.size) (gV u_ml_X0_66 u_im_X0_hearAt u_se_X0_hearAt u_ini_X0 u_co_X0_hearAt) hd_X0_hearAt ⟨rfl, rfl⟩ hK hP hD hS hA 0 0 rfl rfl [0, 3, 4] [0, 4, 5, 1, 2, 8, 9, 10, 11, 12, 13] rfl rfl 3 rfl (w2 := [oX0 q_t Q_t (F_t 0 0) (F_t 1 0), ia g (Q_t 2) 10 (F_t 2), ia g (Q_t 3) 10 (F_t 3), ia g (Q_t 4) 8 v_6.1, ia g (Q_t 5) 64 v_6.2, ia g (Q_t 6) 80 (upd (F_t 6) y_2.toNatClampNeg (0 : Int32)), oX4 q_a1 Q_a1 (F_a1 0 0) (F_a1 1 0) (F_a1 2 0), ia g (Q_a1 3) 8 (F_a1 3), ia g (Q_a1 5) 10 (F_a1 5), ia g (Q_a1 6) 10 (F_a1 6), ia g (Q_a1 7) 10 (F_a1 7)]) rfl rfl (As := [.int x2, .int y_4]) (rest := []) rfl hl.1 rfl rfl dX0_passHour_42 (fun H locs hP hD hS => ?_)
    refine lv_aload_n hx hb dX0_passHour_45 rfl (lv_at hl 2 rfl) ?_
    refine lv_aload_n hx hb dX0_passHour_46 rfl (lv_at hl 3 rfl) ?_
    refine lv_iload_n hx hb dX0_passHour_47 rfl (lv_at hl 4 rfl) ?_
    refine lv_aload_n hx hb dX0_passHour_48 rfl (lv_at hl 3 rfl) ?_
    refine lv_iload_n hx hb dX0_passHour_49 rfl (lv_at hl 4 rfl) ?_
    refine lv_iload hx hb dX0_passHour_50 (lv_at hl 0 rfl) ?_
    obtain ⟨v_7, hv_7, h⟩ := ox_bind h
    refine kVi ⟨hx, hb, hml, hown, hts⟩ (c_X4_goingOn l g q_a1 Q_a1 F_a1 x2 y_4 v_7 hv_7 H.size) (gV u_ml_X0_70 u_im_X4_goingOn u_se_X4_goingOn u_ini_X4 u_co_X4_goingOn) hd_X4_goingOn ⟨rfl, rfl⟩ hK hP hD hS hA 6 4 rfl rfl [6, 7] [2, 3, 4, 5, 6, 7, 0, 1, 10, 11, 12] rfl rfl 2 rfl (w2 := [oX0 q_t Q_t (F_t 0 0) (F_t 1 0), ia g (Q_t 2) 10 (F_t 2), ia g (Q_t 3) 10 (F_t 3), ia g (Q_t 4) 8 v_6.1, ia g (Q_t 5) 64 v_6.2, ia g (Q_t 6) 80 (upd (F_t 6) y_2.toNatClampNeg (0 : Int32)), oX4 q_a1 Q_a1 (F_a1 0 0) (F_a1 1 0) (F_a1 2 0), ia g (Q_a1 3) 8 (F_a1 3), ia g (Q_a1 5) 10 (F_a1 5), ia g (Q_a1 6) 10 (F_a1 6), ia g (Q_a1 7) 10 (F_a1 7)]) rfl rfl (As := [.int x2, .int y_4]) (rest := [.int x2, .ref q_a1, .ref q_t]) rfl hl.1 rfl rfl dX0_passHour_52 (fun H locs hP hD hS => ?_)
    obtain ⟨v_8, hv_8, h⟩ := ox_bind h
    refine kVv ⟨hx, hb, hml, hown, hts⟩ (c_X0_sendOn l g q_t Q_t q_a1 Q_a1 N (va_up (va_up (va_up F_t 4 v_6.1) 5 v_6.2) 6 (upd (F_t 6) y_2.toNatClampNeg (0 : Int32))) F_a1 x2 v_7 v_8 hv_8 H.size) (gV u_ml_X0_74 u_im_X0_sendOn u_se_X0_sendOn u_ini_X0 u_co_X0_sendOn) hd_X0_sendOn ⟨rfl, rfl⟩ hK hP hD hS hA 0 0 rfl rfl [0, 1, 2, 3, 4, 5, 6, 8, 9, 10] [0, 1, 2, 3, 4, 5, 6, 17, 7, 8, 9] rfl rfl 10 rfl (w2 := [oX0 q_t Q_t (F_t 0 0) (F_t 1 0), ia g (Q_t 2) 10 v_8.1, ia g (Q_t 3) 10 (F_t 3), ia g (Q_t 4) 8 v_8.2.1, ia g (Q_t 5) 64 v_8.2.2.1, ia g (Q_t 6) 80 v_8.2.2.2, oX4 q_a1 Q_a1 (F_a1 0 0) (F_a1 1 0) (F_a1 2 0), ia g (Q_a1 3) 8 (F_a1 3), ia g (Q_a1 5) 10 (F_a1 5), ia g (Q_a1 6) 10 (F_a1 6), ia g (Q_a1 7) 10 (F_a1 7)]) rfl rfl (As := [.ref q_a1, .int x2, .int v_7]) (rest := []) rfl hl.1 rfl rfl dX0_passHour_55 (fun H locs hP hD hS => ?_)
    refine lv_iinc (v := (x2 + (1 : Int32))) (lv' := [(2, .int (x2 + (1 : Int32))), (4, .int y_4), (3, .int y_2), (0, .ref q_t), (1, .ref q_a1)]) hx hb dX0_passHour_58 hl (k := 4) rfl rfl (by decide) rfl (fun ls hl => ?_)
    refine lv_goto (tgt := 2) hx hb dX0_passHour_61 (by decide) ?_
    obtain rfl := Option.some.inj h
    exact hc _ rfl H locs ls hP hD hS (lv_sub hl [3, 4, 0] rfl)
def x_X0_passHour (N : Nat) (F_t : St) (F_a1 : St) : Option (Int32 × (Nat → Int32) × (Nat → Int32) × (Nat → Int32) × (Nat → Int32)) :=
  Option.bind (lpc (fun (z : Int32 × (Nat → Int32) × (Nat → Int32) × (Nat → Int32) × (Nat → Int32)) => x_X0_passHour_b2 N (va_up (va_up (va_up (va_up F_t 2 z.2.1) 4 z.2.2.1) 5 z.2.2.2.1) 6 z.2.2.2.2) F_a1 z.1) N ((0 : Int32), (F_t 2), (F_t 4), (F_t 5), (F_t 6))) (fun v_9 => xl ((F_t 0 0) + (1 : Int32)) (fun y_10 => some (y_10, v_9.1, v_9.2.1, v_9.2.2.1, v_9.2.2.2)))
set_option maxHeartbeats 4000000 in
set_option maxRecDepth 100000 in
theorem t_X0_passHour {p : Program} {l : Launch} {e : Env} {s : State} {m : MethodId} {args : Array Value} {below : List Frame} {meth : Method} {c : Code} {g : gG} {A : Nat → Prop} (E : En p s m args meth c g A cX0_passHour 5 (.code yX0_passHour cX0_passHour 5 none :: gW) RX0 none) (q_t : Nat) (Q_t : Ad) (q_a1 : Nat) (Q_a1 : Ad) (N : Nat) (F_t : St) (F_a1 : St) (o : Int32 × (Nat → Int32) × (Nat → Int32) × (Nat → Int32) × (Nat → Int32)) (h : x_X0_passHour N F_t F_a1 = some o) : WA p l e (rM 3 69) s m args below meth c g A (MQ below (QV g A [oX0 q_t Q_t o.1 (F_t 1 0), ia g (Q_t 2) 10 o.2.1, ia g (Q_t 3) 10 (F_t 3), ia g (Q_t 4) 8 o.2.2.1, ia g (Q_t 5) 64 o.2.2.2.1, ia g (Q_t 6) 80 o.2.2.2.2, oX4 q_a1 Q_a1 (F_a1 0 0) (F_a1 1 0) (F_a1 2 0), ia g (Q_a1 3) 8 (F_a1 3), ia g (Q_a1 5) 10 (F_a1 5), ia g (Q_a1 6) 10 (F_a1 6), ia g (Q_a1 7) 10 (F_a1 7)]) args s 0 0 A) 5 0 [oX0 q_t Q_t (F_t 0 0) (F_t 1 0), ia g (Q_t 2) 10 (F_t 2), ia g (Q_t 3) 10 (F_t 3), ia g (Q_t 4) 8 (F_t 4), ia g (Q_t 5) 64 (F_t 5), ia g (Q_t 6) 80 (F_t 6), oX4 q_a1 Q_a1 (F_a1 0 0) (F_a1 1 0) (F_a1 2 0), ia g (Q_a1 3) 8 (F_a1 3), ia g (Q_a1 5) 10 (F_a1 5), ia g (Q_a1 6) 10 (F_a1 6), ia g (Q_a1 7) 10 (F_a1 7)] [(0, .ref q_t), (1, .ref q_a1)] [] := by
  obtain ⟨⟨hx, hb, hml, hown, hts⟩, hr, hK, hA, hlk⟩ := id E
  intro H locs ls hP hD hS hl
  refine lv_iconst (v := (0 : Int32)) hx hb dX0_passHour_0 (by decide) ?_
  refine lv_istore_n (lv' := [(2, .int (0 : Int32)), (0, .ref q_t), (1, .ref q_a1)]) hx hb dX0_passHour_1 rfl hl (by decide) rfl (fun ls hl => ?_)
  obtain ⟨v_9, hv_9, h⟩ := ox_bind h
  refine lpc_W (Wh := fun (z : Int32 × (Nat → Int32) × (Nat → Int32) × (Nat → Int32) × (Nat → Int32)) => WA p l e (rM 3 69) s m args below meth c g A (MQ below (QV g A [oX0 q_t Q_t o.1 (F_t 1 0), ia g (Q_t 2) 10 o.2.1, ia g (Q_t 3) 10 (F_t 3), ia g (Q_t 4) 8 o.2.2.1, ia g (Q_t 5) 64 o.2.2.2.1, ia g (Q_t 6) 80 o.2.2.2.2, oX4 q_a1 Q_a1 (F_a1 0 0) (F_a1 1 0) (F_a1 2 0), ia g (Q_a1 3) 8 (F_a1 3), ia g (Q_a1 5) 10 (F_a1 5), ia g (Q_a1 6) 10 (F_a1 6), ia g (Q_a1 7) 10 (F_a1 7)]) args s 0 0 A) 5 2 [oX0 q_t Q_t (F_t 0 0) (F_t 1 0), ia g (Q_t 2) 10 z.2.1, ia g (Q_t 3) 10 (F_t 3), ia g (Q_t 4) 8 z.2.2.1, ia g (Q_t 5) 64 z.2.2.2.1, ia g (Q_t 6) 80 z.2.2.2.2, oX4 q_a1 Q_a1 (F_a1 0 0) (F_a1 1 0) (F_a1 2 0), ia g (Q_a1 3) 8 (F_a1 3), ia g (Q_a1 5) 10 (F_a1 5), ia g (Q_a1 6) 10 (F_a1 6), ia g (Q_a1 7) 10 (F_a1 7)] [(0, .ref q_t), (1, .ref q_a1), (2, .int z.1)] []) (We := fun (v : (Nat → Int32) × (Nat → Int32) × (Nat → Int32) × (Nat → Int32)) => WA p l e (rM 3 69) s m args below meth c g A (MQ below (QV g A [oX0 q_t Q_t o.1 (F_t 1 0), ia g (Q_t 2) 10 o.2.1, ia g (Q_t 3) 10 (F_t 3), ia g (Q_t 4) 8 o.2.2.1, ia g (Q_t 5) 64 o.2.2.2.1, ia g (Q_t 6) 80 o.2.2.2.2, oX4 q_a1 Q_a1 (F_a1 0 0) (F_a1 1 0) (F_a1 2 0), ia g (Q_a1 3) 8 (F_a1 3), ia g (Q_a1 5) 10 (F_a1 5), ia g (Q_a1 6) 10 (F_a1 6), ia g (Q_a1 7) 10 (F_a1 7)]) args s 0 0 A) 5 64 [oX0 q_t Q_t (F_t 0 0) (F_t 1 0), ia g (Q_t 2) 10 v.1, ia g (Q_t 3) 10 (F_t 3), ia g (Q_t 4) 8 v.2.1, ia g (Q_t 5) 64 v.2.2.1, ia g (Q_t 6) 80 v.2.2.2, oX4 q_a1 Q_a1 (F_a1 0 0) (F_a1 1 0) (F_a1 2 0), ia g (Q_a1 3) 8 (F_a1 3), ia g (Q_a1 5) 10 (F_a1 5), ia g (Q_a1 6) 10 (F_a1 6), ia g (Q_a1 7) 10 (F_a1 7)] [(0, .ref q_t)] []) (fun z r hb hc he => t_X0_passHour_b2 E q_t Q_t q_a1 Q_a1 N (va_up (va_up (va_up (va_up F_t 2 z.2.1) 4 z.2.2.1) 5 z.2.2.2.1) 6 z.2.2.2.2) F_a1 z.1 r hb hc he) N ((0 : Int32), (F_t 2), (F_t 4), (F_t 5), (F_t 6)) v_9 hv_9 ?_ H locs ls hP hD hS (lv_sub hl [1, 2, 0] rfl)
  intro H locs ls hP hD hS hl
  refine lv_aload_n hx hb dX0_passHour_64 rfl (lv_at hl 0 rfl) ?_
  refine lv_dup hx hb dX0_passHour_65 rfl ?_
  refine va_get (ci := 0) (v := .int (F_t 0 0)) (C := RX0) (T := TX0) (N := 7) hx hb hts (fun w h => .tail _ (u_inX0 w h)) hown hK.1 hP 0 rfl rfl 0 (by decide) (hts _ (.tail _ u_fl_X0_9)) (fun _ h9 => h9) rfl dX0_passHour_66 ?_
  refine lv_iconst (v := (1 : Int32)) hx hb dX0_passHour_69 (by decide) ?_
  refine lv_iadd hx hb dX0_passHour_70 ?_
  refine lv_topi (fun y_10 ey_10 => ?_)
  have h := xl_at ey_10 h
  refine va_put (ci := 0) (v := .int y_10) (ty := .int) (C := RX0) (T := TX0) (N := 7) hx hb hts (fun w h => .tail _ (u_inX0 w h)) tyX0 tyX0_ok nmX0 hown hK.1 hP hD hS 0 rfl rfl 0 (by decide) (hts _ (.tail _ u_fl_X0_9)) (fun _ h9 => h9) rfl (tyX0_ok 0 (by decide)) rfl rfl (Nat.le_of_ble_eq_true rfl) dX0_passHour_71 (fun H locs hP hD hS => ?_)
  have hP : va_P g.1 vwCl [oX0 q_t Q_t y_10 (F_t 1 0), ia g (Q_t 2) 10 v_9.1, ia g (Q_t 3) 10 (F_t 3), ia g (Q_t 4) 8 v_9.2.1, ia g (Q_t 5) 64 v_9.2.2.1, ia g (Q_t 6) 80 v_9.2.2.2, oX4 q_a1 Q_a1 (F_a1 0 0) (F_a1 1 0) (F_a1 2 0), ia g (Q_a1 3) 8 (F_a1 3), ia g (Q_a1 5) 10 (F_a1 5), ia g (Q_a1 6) 10 (F_a1 6), ia g (Q_a1 7) 10 (F_a1 7)] H := hP
  have hD : va_D A [oX0 q_t Q_t y_10 (F_t 1 0), ia g (Q_t 2) 10 v_9.1, ia g (Q_t 3) 10 (F_t 3), ia g (Q_t 4) 8 v_9.2.1, ia g (Q_t 5) 64 v_9.2.2.1, ia g (Q_t 6) 80 v_9.2.2.2, oX4 q_a1 Q_a1 (F_a1 0 0) (F_a1 1 0) (F_a1 2 0), ia g (Q_a1 3) 8 (F_a1 3), ia g (Q_a1 5) 10 (F_a1 5), ia g (Q_a1 6) 10 (F_a1 6), ia g (Q_a1 7) 10 (F_a1 7)] := hD
  obtain rfl := Option.some.inj h
  exact k_vret hx hb hr hlk hP hD hS dX0_passHour_74
set_option maxRecDepth 100000 in
theorem c_X0_passHour (l : Launch) (g : gG) (q_t : Nat) (Q_t : Ad) (q_a1 : Nat) (Q_a1 : Ad) (N : Nat) (F_t : St) (F_a1 : St) (o : Int32 × (Nat → Int32) × (Nat → Int32) × (Nat → Int32) × (Nat → Int32)) (h : x_X0_passHour N F_t F_a1 = some o) (sz : Nat) : MetV l yX0_passHour (.code yX0_passHour cX0_passHour 5 none :: gW) 3 69 [.ref q_t, .ref q_a1] g [oX0 q_t Q_t (F_t 0 0) (F_t 1 0), ia g (Q_t 2) 10 (F_t 2), ia g (Q_t 3) 10 (F_t 3), ia g (Q_t 4) 8 (F_t 4), ia g (Q_t 5) 64 (F_t 5), ia g (Q_t 6) 80 (F_t 6), oX4 q_a1 Q_a1 (F_a1 0 0) (F_a1 1 0) (F_a1 2 0), ia g (Q_a1 3) 8 (F_a1 3), ia g (Q_a1 5) 10 (F_a1 5), ia g (Q_a1 6) 10 (F_a1 6), ia g (Q_a1 7) 10 (F_a1 7)] [oX0 q_t Q_t o.1 (F_t 1 0), ia g (Q_t 2) 10 o.2.1, ia g (Q_t 3) 10 (F_t 3), ia g (Q_t 4) 8 o.2.2.1, ia g (Q_t 5) 64 o.2.2.2.1, ia g (Q_t 6) 80 o.2.2.2.2, oX4 q_a1 Q_a1 (F_a1 0 0) (F_a1 1 0) (F_a1 2 0), ia g (Q_a1 3) 8 (F_a1 3), ia g (Q_a1 5) 10 (F_a1 5), ia g (Q_a1 6) 10 (F_a1 6), ia g (Q_a1 7) 10 (F_a1 7)] sz :=
  mkV (av := [.ref q_t, .ref q_a1]) (by decide +kernel) rfl (fun p e s m below meth c A E H locs ls hP hD hS hl => t_X0_passHour E q_t Q_t q_a1 Q_a1 N F_t F_a1 o h H locs ls hP hD hS hl) sz
