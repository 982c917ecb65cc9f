def x_X3_forget (F_t : St) : Option (Int32) :=
  some (0 : Int32)
set_option maxHeartbeats 4000000 in
set_option maxRecDepth 100000 in
theorem t_X3_forget {p : Program} {l : Launch} {e : Env} {s : State} {m : MethodId} {args : Array Value} {below : List Frame} {meth : Method} {c : Code} {g : gG} {A : Nat → Prop} (E : En p s m args meth c g A cX3_forget 1 (.code yX3_forget cX3_forget 1 none :: gW) RX3 none) (q_t : Nat) (Q_t : Ad) (F_t : St) (o : Int32) (h : x_X3_forget F_t = some o) : WA p l e (rM 0 0) s m args below meth c g A (MQ below (QV g A [oX3 q_t Q_t o (F_t 1 0)]) args s 0 0 A) 1 0 [oX3 q_t Q_t (F_t 0 0) (F_t 1 0)] [(0, .ref q_t)] [] := by
  obtain ⟨⟨hx, hb, hml, hown, hts⟩, hr, hK, hA, hlk⟩ := id E
  intro H locs ls hP hD hS hl
  refine lv_aload_n hx hb dX3_forget_0 rfl (lv_at hl 0 rfl) ?_
  refine lv_iconst (v := (0 : Int32)) hx hb dX3_forget_1 (by decide) ?_
  refine va_put (ci := 3) (v := .int (0 : Int32)) (ty := .int) (C := RX3) (T := TX3) (N := 3) hx hb hts (fun w h => .tail _ (u_inX3 w h)) tyX3 tyX3_ok nmX3 hown hK.1 hP hD hS 0 rfl rfl 0 (by decide) (hts _ (.tail _ u_fl_X3_9)) (fun _ h9 => h9) rfl (tyX3_ok 0 (by decide)) rfl rfl (Nat.le_of_ble_eq_true rfl) dX3_forget_2 (fun H locs hP hD hS => ?_)
  have hP : va_P g.1 vwCl [oX3 q_t Q_t (0 : Int32) (F_t 1 0)] H := hP
  have hD : va_D A [oX3 q_t Q_t (0 : Int32) (F_t 1 0)] := hD
  obtain rfl := Option.some.inj h
  exact k_vret hx hb hr hlk hP hD hS dX3_forget_5
set_option maxRecDepth 100000 in
theorem c_X3_forget (l : Launch) (g : gG) (q_t : Nat) (Q_t : Ad) (F_t : St) (o : Int32) (h : x_X3_forget F_t = some o) (sz : Nat) : MetV l yX3_forget (.code yX3_forget cX3_forget 1 none :: gW) 0 0 [.ref q_t] g [oX3 q_t Q_t (F_t 0 0) (F_t 1 0)] [oX3 q_t Q_t o (F_t 1 0)] sz :=
  mkV (av := [.ref q_t]) (by decide +kernel) rfl (fun p e s m below meth c A E H locs ls hP hD hS hl => t_X3_forget E q_t Q_t F_t o h H locs ls hP hD hS hl) sz
def x_X3_push (q_t_ring : Nat) (F_t : St) (R_t : (Nat → Option Nat)) (F_t_ring : St) (F_a1 : St) : Option (Int32 × Int32 × Int32 × Int32 × (Nat → Int32) × (Nat → Int32) × (Nat → Int32) × (Nat → Int32) × (Nat → Int32)) :=
  if (F_t 1 0) < 0 ∨ 20 ≤ (F_t 1 0).toNatClampNeg then none else if R_t (F_t 1 0).toNatClampNeg = some q_t_ring then Option.bind (x_X0_copyFrom F_t_ring F_a1) (fun v_3 => xl (((F_t 1 0) + (1 : Int32)) - ((F_t 1 0) + (1 : Int32)) / (20 : Int32) * (20 : Int32)) (fun y_4 => xl (if (20 : Int32) < ((F_t 0 0) + (1 : Int32)) then (20 : Int32) else ((F_t 0 0) + (1 : Int32))) (fun y_5 => some (y_5, y_4, v_3.1, v_3.2.1, v_3.2.2.1, v_3.2.2.2.1, v_3.2.2.2.2.1, v_3.2.2.2.2.2.1, v_3.2.2.2.2.2.2)))) else none
set_option maxHeartbeats 4000000 in
set_option maxRecDepth 100000 in
theorem t_X3_push {p : Program} {l : Launch} {e : Env} {s : State} {m : MethodId} {args : Array Value} {below : List Frame} {meth : Method} {c : Code} {g : gG} {A : Nat → Prop} (E : En p s m args meth c g A cX3_push 2 (.code yX3_push cX3_push 2 none :: gW) RX3 none) (q_t : Nat) (Q_t : Ad) (Q_t_ring : Ad) (q_a1 : Nat) (Q_a1 : Ad) (q_t_ring : Nat) (F_t : St) (R_t : (Nat → Option Nat)) (F_t_ring : St) (F_a1 : St) (o : Int32 × Int32 × Int32 × Int32 × (Nat → Int32) × (Nat → Int32) × (Nat → Int32) × (Nat → Int32) × (Nat → Int32)) (h : x_X3_push q_t_ring F_t R_t F_t_ring F_a1 = some o) : WA p l e (rM 2 47) s m args below meth c g A (MQ below (QV g A [oX3 q_t Q_t o.1 o.2.1, raF g (Q_t 2) 20 R_t, oX0 q_t_ring Q_t_ring o.2.2.1 o.2.2.2.1, ia g (Q_t_ring 2) 10 o.2.2.2.2.1, ia g (Q_t_ring 3) 10 o.2.2.2.2.2.1, ia g (Q_t_ring 4) 8 o.2.2.2.2.2.2.1, ia g (Q_t_ring 5) 64 o.2.2.2.2.2.2.2.1, ia g (Q_t_ring 6) 80 o.2.2.2.2.2.2.2.2, oX0 q_a1 Q_a1 (F_a1 0 0) (F_a1 1 0), ia g (Q_a1 2) 10 (F_a1 2), ia g (Q_a1 3) 10 (F_a1 3), ia g (Q_a1 4) 8 (F_a1 4), ia g (Q_a1 5) 64 (F_a1 5), ia g (Q_a1 6) 80 (F_a1 6)]) args s 0 0 A) 2 0 [oX3 q_t Q_t (F_t 0 0) (F_t 1 0), raF g (Q_t 2) 20 R_t, oX0 q_t_ring Q_t_ring (F_t_ring 0 0) (F_t_ring 1 0), ia g (Q_t_ring 2) 10 (F_t_ring 2), ia g (Q_t_ring 3) 10 (F_t_ring 3), ia g (Q_t_ring 4) 8 (F_t_ring 4), ia g (Q_t_ring 5) 64 (F_t_ring 5), ia g (Q_t_ring 6) 80 (F_t_ring 6), oX0 q_a1 Q_a1 (F_a1 0 0) (F_a1 1 0), ia g (Q_a1 2) 10 (F_a1 2), ia g (Q_a1 3) 10 (F_a1 3), ia g (Q_a1 4) 8 (F_a1 4), ia g (Q_a1 5) 64 (F_a1 5), ia g (Q_a1 6) 80 (F_a1 6)] [(0, .ref q_t), (1, .ref q_a1)] [] := by
  obtain ⟨⟨hx, hb, hml, hown, hts⟩, hr, hK, hA, hlk⟩ := id E
  intro H locs ls hP hD hS hl
  refine lv_aload_n hx hb dX3_push_0 rfl (lv_at hl 0 rfl) ?_
  refine va_get (ci := 3) (v := .ref (Q_t 2)) (C := RX3) (T := TX3) (N := 3) hx hb hts (fun w h => .tail _ (u_inX3 w h)) hown hK.1 hP 0 rfl rfl 2 (by decide) (hts _ (.tail _ u_fl_X3_20)) (fun _ h9 => h9) rfl dX3_push_1 ?_
  refine lv_aload_n hx hb dX3_push_4 rfl (lv_at hl 0 rfl) ?_
  refine va_get (ci := 3) (v := .int (F_t 1 0)) (C := RX3) (T := TX3) (N := 3) hx hb hts (fun w h => .tail _ (u_inX3 w h)) hown hK.1 hP 0 rfl rfl 1 (by decide) (hts _ (.tail _ u_fl_X3_15)) (fun _ h9 => h9) rfl dX3_push_5 ?_
  obtain ⟨hi_1, h⟩ := ox_chk h
  obtain ⟨hr_2, h⟩ := ox_ok h
  refine k_aldq hx hb hK.1 hP 1 3 rfl rfl hi_1 hr_2 dX3_push_8 ?_
  refine lv_aload_n hx hb dX3_push_9 rfl (lv_at hl 1 rfl) ?_
  obtain ⟨v_3, hv_3, h⟩ := ox_bind h
  refine kVv ⟨hx, hb, hml, hown, hts⟩ (c_X0_copyFrom l g q_t_ring Q_t_ring q_a1 Q_a1 F_t_ring F_a1 v_3 hv_3 H.size) (gV u_ml_X3_25 u_im_X0_copyFrom u_se_X0_copyFrom u_ini_X0 u_co_X0_copyFrom) hd_X0_copyFrom ⟨rfl, rfl⟩ hK hP hD hS hA 2 0 rfl rfl [2, 3, 4, 5, 6, 7, 8, 9, 10, 11, 12, 13] [12, 13, 0, 1, 2, 3, 4, 5, 6, 7, 8, 9, 10, 11] rfl rfl 12 rfl (w2 := [oX3 q_t Q_t (F_t 0 0) (F_t 1 0), raF g (Q_t 2) 20 R_t, oX0 q_t_ring Q_t_ring v_3.1 v_3.2.1, ia g (Q_t_ring 2) 10 v_3.2.2.1, ia g (Q_t_ring 3) 10 v_3.2.2.2.1, ia g (Q_t_ring 4) 8 v_3.2.2.2.2.1, ia g (Q_t_ring 5) 64 v_3.2.2.2.2.2.1, ia g (Q_t_ring 6) 80 v_3.2.2.2.2.2.2, oX0 q_a1 Q_a1 (F_a1 0 0) (F_a1 1 0), ia g (Q_a1 2) 10 (F_a1 2), ia g (Q_a1 3) 10 (F_a1 3), ia g (Q_a1 4) 8 (F_a1 4), ia g (Q_a1 5) 64 (F_a1 5), ia g (Q_a1 6) 80 (F_a1 6)]) rfl rfl (As := [.ref q_a1]) (rest := []) rfl hl.1 rfl rfl dX3_push_10 (fun H locs hP hD hS => ?_)
  refine lv_aload_n hx hb dX3_push_13 rfl (lv_at hl 0 rfl) ?_
  refine lv_aload_n hx hb dX3_push_14 rfl (lv_at hl 0 rfl) ?_
  refine va_get (ci := 3) (v := .int (F_t 1 0)) (C := RX3) (T := TX3) (N := 3) hx hb hts (fun w h => .tail _ (u_inX3 w h)) hown hK.1 hP 0 rfl rfl 1 (by decide) (hts _ (.tail _ u_fl_X3_15)) (fun _ h9 => h9) rfl dX3_push_15 ?_
  refine lv_iconst (v := (1 : Int32)) hx hb dX3_push_18 (by decide) ?_
  refine lv_iadd hx hb dX3_push_19 ?_
  refine lv_bipush (v := (20 : Int32)) hx hb dX3_push_20 (by decide) ?_
  refine lv_irem hx hb dX3_push_22 (by decide) ?_
  refine lv_topi (fun y_4 ey_4 => ?_)
  have h := xl_at ey_4 h
  refine va_put (ci := 3) (v := .int y_4) (ty := .int) (C := RX3) (T := TX3) (N := 3) hx hb hts (fun w h => .tail _ (u_inX3 w h)) tyX3 tyX3_ok nmX3 hown hK.1 hP hD hS 0 rfl rfl 1 (by decide) (hts _ (.tail _ u_fl_X3_15)) (fun _ h9 => h9) rfl (tyX3_ok 1 (by decide)) rfl rfl (Nat.le_of_ble_eq_true rfl) dX3_push_23 (fun H locs hP hD hS => ?_)
  have hP : va_P g.1 vwCl [oX3 q_t Q_t (F_t 0 0) y_4, raF g (Q_t 2) 20 R_t, oX0 q_t_ring Q_t_ring v_3.1 v_3.2.1, ia g (Q_t_ring 2) 10 v_3.2.2.1, ia g (Q_t_ring 3) 10 v_3.2.2.2.1, ia g (Q_t_ring 4) 8 v_3.2.2.2.2.1, ia g (Q_t_ring 5) 64 v_3.2.2.2.2.2.1, ia g (Q_t_ring 6) 80 v_3.2.2.2.2.2.2, oX0 q_a1 Q_a1 (F_a1 0 0) (F_a1 1 0), ia g (Q_a1 2) 10 (F_a1 2), ia g (Q_a1 3) 10 (F_a1 3), ia g (Q_a1 4) 8 (F_a1 4), ia g (Q_a1 5) 64 (F_a1 5), ia g (Q_a1 6) 80 (F_a1 6)] H := hP
  have hD : va_D A [oX3 q_t Q_t (F_t 0 0) y_4, raF g (Q_t 2) 20 R_t, oX0 q_t_ring Q_t_ring v_3.1 v_3.2.1, ia g (Q_t_ring 2) 10 v_3.2.2.1, ia g (Q_t_ring 3) 10 v_3.2.2.2.1, ia g (Q_t_ring 4) 8 v_3.2.2.2.2.1, ia g (Q_t_ring 5) 64 v_3.2.2.2.2.2.1, ia g (Q_t_ring 6) 80 v_3.2.2.2.2.2.2, oX0 q_a1 Q_a1 (F_a1 0 0) (F_a1 1 0), ia g (Q_a1 2) 10 (F_a1 2), ia g (Q_a1 3) 10 (F_a1 3), ia g (Q_a1 4) 8 (F_a1 4), ia g (Q_a1 5) 64 (F_a1 5), ia g (Q_a1 6) 80 (F_a1 6)] := hD
  refine lv_aload_n hx hb dX3_push_26 rfl (lv_at hl 0 rfl) ?_
  refine lv_aload_n hx hb dX3_push_27 rfl (lv_at hl 0 rfl) ?_
  refine va_get (ci := 3) (v := .int (F_t 0 0)) (C := RX3) (T := TX3) (N := 3) hx hb hts (fun w h => .tail _ (u_inX3 w h)) hown hK.1 hP 0 rfl rfl 0 (by decide) (hts _ (.tail _ u_fl_X3_9)) (fun _ h9 => h9) rfl dX3_push_28 ?_
  refine lv_iconst (v := (1 : Int32)) hx hb dX3_push_31 (by decide) ?_
  refine lv_iadd hx hb dX3_push_32 ?_
  refine lv_bipush (v := (20 : Int32)) hx hb dX3_push_33 (by decide) ?_
  refine va_mmin hx hb (hml.trans hl.1.symm) hown (hts _ (.tail _ u_ml_X3_29)) (hts _ (.tail _ u_st_J9_min_7cf53)) (hts _ (.tail _ u_ini_J9)) (hts _ (.tail _ u_co_J9_min_7cf53)) (Nat.le_of_ble_eq_true rfl) (Nat.le_of_ble_eq_true rfl) (Nat.le_refl _) (Nat.le_refl _) dX3_push_35 ?_
  refine lv_topi (fun y_5 ey_5 => ?_)
  have h := xl_at ey_5 h
  refine va_put (ci := 3) (v := .int y_5) (ty := .int) (C := RX3) (T := TX3) (N := 3) hx hb hts (fun w h => .tail _ (u_inX3 w h)) tyX3 tyX3_ok nmX3 hown hK.1 hP hD hS 0 rfl rfl 0 (by decide) (hts _ (.tail _ u_fl_X3_9)) (fun _ h9 => h9) rfl (tyX3_ok 0 (by decide)) rfl rfl (Nat.le_of_ble_eq_true rfl) dX3_push_38 (fun H locs hP hD hS => ?_)
  have hP : va_P g.1 vwCl [oX3 q_t Q_t y_5 y_4, raF g (Q_t 2) 20 R_t, oX0 q_t_ring Q_t_ring v_3.1 v_3.2.1, ia g (Q_t_ring 2) 10 v_3.2.2.1, ia g (Q_t_ring 3) 10 v_3.2.2.2.1, ia g (Q_t_ring 4) 8 v_3.2.2.2.2.1, ia g (Q_t_ring 5) 64 v_3.2.2.2.2.2.1, ia g (Q_t_ring 6) 80 v_3.2.2.2.2.2.2, oX0 q_a1 Q_a1 (F_a1 0 0) (F_a1 1 0), ia g (Q_a1 2) 10 (F_a1 2), ia g (Q_a1 3) 10 (F_a1 3), ia g (Q_a1 4) 8 (F_a1 4), ia g (Q_a1 5) 64 (F_a1 5), ia g (Q_a1 6) 80 (F_a1 6)] H := hP
  have hD : va_D A [oX3 q_t Q_t y_5 y_4, raF g (Q_t 2) 20 R_t, oX0 q_t_ring Q_t_ring v_3.1 v_3.2.1, ia g (Q_t_ring 2) 10 v_3.2.2.1, ia g (Q_t_ring 3) 10 v_3.2.2.2.1, ia g (Q_t_ring 4) 8 v_3.2.2.2.2.1, ia g (Q_t_ring 5) 64 v_3.2.2.2.2.2.1, ia g (Q_t_ring 6) 80 v_3.2.2.2.2.2.2, oX0 q_a1 Q_a1 (F_a1 0 0) (F_a1 1 0), ia g (Q_a1 2) 10 (F_a1 2), ia g (Q_a1 3) 10 (F_a1 3), ia g (Q_a1 4) 8 (F_a1 4), ia g (Q_a1 5) 64 (F_a1 5), ia g (Q_a1 6) 80 (F_a1 6)] := hD
  obtain rfl := Option.some.inj h
  exact k_vret hx hb hr hlk hP hD hS dX3_push_41
set_option maxRecDepth 100000 in
theorem c_X3_push (l : Launch) (g : gG) (q_t : Nat) (Q_t : Ad) (Q_t_ring : Ad) (q_a1 : Nat) (Q_a1 : Ad) (q_t_ring : Nat) (F_t : St) (R_t : (Nat → Option Nat)) (F_t_ring : St) (F_a1 : St) (o : Int32 × Int32 × Int32 × Int32 × (Nat → Int32) × (Nat → Int32) × (Nat → Int32) × (Nat → Int32) × (Nat → Int32)) (h : x_X3_push q_t_ring F_t R_t F_t_ring F_a1 = some o) (sz : Nat) : MetV l yX3_push (.code yX3_push cX3_push 2 none :: gW) 2 47 [.ref q_t, .ref q_a1] g [oX3 q_t Q_t (F_t 0 0) (F_t 1 0), raF g (Q_t 2) 20 R_t, oX0 q_t_ring Q_t_ring (F_t_ring 0 0) (F_t_ring 1 0), ia g (Q_t_ring 2) 10 (F_t_ring 2), ia g (Q_t_ring 3) 10 (F_t_ring 3), ia g (Q_t_ring 4) 8 (F_t_ring 4), ia g (Q_t_ring 5) 64 (F_t_ring 5), ia g (Q_t_ring 6) 80 (F_t_ring 6), oX0 q_a1 Q_a1 (F_a1 0 0) (F_a1 1 0), ia g (Q_a1 2) 10 (F_a1 2), ia g (Q_a1 3) 10 (F_a1 3), ia g (Q_a1 4) 8 (F_a1 4), ia g (Q_a1 5) 64 (F_a1 5), ia g (Q_a1 6) 80 (F_a1 6)] [oX3 q_t Q_t o.1 o.2.1, raF g (Q_t 2) 20 R_t, oX0 q_t_ring Q_t_ring o.2.2.1 o.2.2.2.1, ia g (Q_t_ring 2) 10 o.2.2.2.2.1, ia g (Q_t_ring 3) 10 o.2.2.2.2.2.1, ia g (Q_t_ring 4) 8 o.2.2.2.2.2.2.1, ia g (Q_t_ring 5) 64 o.2.2.2.2.2.2.2.1, ia g (Q_t_ring 6) 80 o.2.2.2.2.2.2.2.2, oX0 q_a1 Q_a1 (F_a1 0 0) (F_a1 1 0), ia g (Q_a1 2) 10 (F_a1 2), ia g (Q_a1 3) 10 (F_a1 3), ia g (Q_a1 4) 8 (F_a1 4), ia g (Q_a1 5) 64 (F_a1 5), ia g (Q_a1 6) 80 (F_a1 6)] sz :=
  mkV (av := [.ref q_t, .ref q_a1]) (by decide +kernel) rfl (fun p e s m below meth c A E H locs ls hP hD hS hl => t_X3_push E q_t Q_t Q_t_ring q_a1 Q_a1 q_t_ring F_t R_t F_t_ring F_a1 o h H locs ls hP hD hS hl) sz
def x_X3_pop (q_t_ring : Nat) (F_t : St) (R_t : (Nat → Option Nat)) (F_t_ring : St) (F_a1 : St) : Option (Int32 × Int32 × Int32 × Int32 × Int32 × (Nat → Int32) × (Nat → Int32) × (Nat → Int32) × (Nat → Int32) × (Nat → Int32)) :=
  if (F_t 0 0) = 0 then (some ((0 : Int32), (F_t 0 0), (F_t 1 0), (F_a1 0 0), (F_a1 1 0), (F_a1 2), (F_a1 3), (F_a1 4), (F_a1 5), (F_a1 6))) else (xl ((((F_t 1 0) + (20 : Int32)) - (1 : Int32)) - (((F_t 1 0) + (20 : Int32)) - (1 : Int32)) / (20 : Int32) * (20 : Int32)) (fun y_2 => xl ((F_t 0 0) - (1 : Int32)) (fun y_3 => if y_2 < 0 ∨ 20 ≤ y_2.toNatClampNeg then none else if R_t y_2.toNatClampNeg = some q_t_ring then Option.bind (x_X0_copyFrom F_a1 F_t_ring) (fun v_6 => some ((1 : Int32), y_3, y_2, v_6.1, v_6.2.1, v_6.2.2.1, v_6.2.2.2.1, v_6.2.2.2.2.1, v_6.2.2.2.2.2.1, v_6.2.2.2.2.2.2)) else none)))
set_option maxHeartbeats 4000000 in
set_option maxRecDepth 100000 in
theorem t_X3_pop {p : Program} {l : Launch} {e : Env} {s : State} {m : MethodId} {args : Array Value} {below : List Frame} {meth : Method} {c : Code} {g : gG} {A : Nat → Prop} (E : En p s m args meth c g A cX3_pop 2 (.code yX3_pop cX3_pop 2 (some .boolean) :: gW) RX3 (some .boolean)) (q_t : Nat) (Q_t : Ad) (Q_t_ring : Ad) (q_a1 : Nat) (Q_a1 : Ad) (q_t_ring : Nat) (F_t : St) (R_t : (Nat → Option Nat)) (F_t_ring : St) (F_a1 : St) (o : Int32 × Int32 × Int32 × Int32 × Int32 × (Nat → Int32) × (Nat → Int32) × (Nat → Int32) × (Nat → Int32) × (Nat → Int32)) (h : x_X3_pop q_t_ring F_t R_t F_t_ring F_a1 = some o) : WA p l e (rM 2 47) s m args below meth c g A (MQ below (QI g A o.1 [oX3 q_t Q_t o.2.1 o.2.2.1, raF g (Q_t 2) 20 R_t, oX0 q_t_ring Q_t_ring (F_t_ring 0 0) (F_t_ring 1 0), ia g (Q_t_ring 2) 10 (F_t_ring 2), ia g (Q_t_ring 3) 10 (F_t_ring 3), ia g (Q_t_ring 4) 8 (F_t_ring 4), ia g (Q_t_ring 5) 64 (F_t_ring 5), ia g (Q_t_ring 6) 80 (F_t_ring 6), oX0 q_a1 Q_a1 o.2.2.2.1 o.2.2.2.2.1, ia g (Q_a1 2) 10 o.2.2.2.2.2.1, ia g (Q_a1 3) 10 o.2.2.2.2.2.2.1, ia g (Q_a1 4) 8 o.2.2.2.2.2.2.2.1, ia g (Q_a1 5) 64 o.2.2.2.2.2.2.2.2.1, ia g (Q_a1 6) 80 o.2.2.2.2.2.2.2.2.2]) args s 0 0 A) 2 0 [oX3 q_t Q_t (F_t 0 0) (F_t 1 0), raF g (Q_t 2) 20 R_t, oX0 q_t_ring Q_t_ring (F_t_ring 0 0) (F_t_ring 1 0), ia g (Q_t_ring 2) 10 (F_t_ring 2), ia g (Q_t_ring 3) 10 (F_t_ring 3), ia g (Q_t_ring 4) 8 (F_t_ring 4), ia g (Q_t_ring 5) 64 (F_t_ring 5), ia g (Q_t_ring 6) 80 (F_t_ring 6), oX0 q_a1 Q_a1 (F_a1 0 0) (F_a1 1 0), ia g (Q_a1 2) 10 (F_a1 2), ia g (Q_a1 3) 10 (F_a1 3), ia g (Q_a1 4) 8 (F_a1 4), ia g (Q_a1 5) 64 (F_a1 5), ia g (Q_a1 6) 80 (F_a1 6)] [(0, .ref q_t), (1, .ref q_a1)] [] := by
  obtain ⟨⟨hx, hb, hml, hown, hts⟩, hr, hK, hA, hlk⟩ := id E
  intro H locs ls hP hD hS hl
  refine lv_aload_n hx hb dX3_pop_0 rfl (lv_at hl 0 rfl) ?_
  refine va_get (ci := 3) (v := .int (F_t 0 0)) (C := RX3) (T := TX3) (N := 3) hx hb hts (fun w h => .tail _ (u_inX3 w h)) hown hK.1 hP 0 rfl rfl 0 (by decide) (hts _ (.tail _ u_fl_X3_9)) (fun _ h9 => h9) rfl dX3_pop_1 ?_
  refine lv_if_ne (tgt := 9) hx hb dX3_pop_4 (by decide) (fun c_1 => ?_) (fun c_1 => ?_)
  · have h := ox_f c_1 h
    refine lv_aload_n hx hb dX3_pop_9 rfl (lv_at hl 0 rfl) ?_
    refine lv_aload_n hx hb dX3_pop_10 rfl (lv_at hl 0 rfl) ?_
    refine va_get (ci := 3) (v := .int (F_t 1 0)) (C := RX3) (T := TX3) (N := 3) hx hb hts (fun w h => .tail _ (u_inX3 w h)) hown hK.1 hP 0 rfl rfl 1 (by decide) (hts _ (.tail _ u_fl_X3_15)) (fun _ h9 => h9) rfl dX3_pop_11 ?_
    refine lv_bipush (v := (20 : Int32)) hx hb dX3_pop_14 (by decide) ?_
    refine lv_iadd hx hb dX3_pop_16 ?_
    refine lv_iconst (v := (1 : Int32)) hx hb dX3_pop_17 (by decide) ?_
    refine lv_isub hx hb dX3_pop_18 ?_
    refine lv_bipush (v := (20 : Int32)) hx hb dX3_pop_19 (by decide) ?_
    refine lv_irem hx hb dX3_pop_21 (by decide) ?_
    refine lv_topi (fun y_2 ey_2 => ?_)
    have h := xl_at ey_2 h
    refine va_put (ci := 3) (v := .int y_2) (ty := .int) (C := RX3) (T := TX3) (N := 3) hx hb hts (fun w h => .tail _ (u_inX3 w h)) tyX3 tyX3_ok nmX3 hown hK.1 hP hD hS 0 rfl rfl 1 (by decide) (hts _ (.tail _ u_fl_X3_15)) (fun _ h9 => h9) rfl (tyX3_ok 1 (by decide)) rfl rfl (Nat.le_of_ble_eq_true rfl) dX3_pop_22 (fun H locs hP hD hS => ?_)
    have hP : va_P g.1 vwCl [oX3 q_t Q_t (F_t 0 0) y_2, raF g (Q_t 2) 20 R_t, oX0 q_t_ring Q_t_ring (F_t_ring 0 0) (F_t_ring 1 0), ia g (Q_t_ring 2) 10 (F_t_ring 2), ia g (Q_t_ring 3) 10 (F_t_ring 3), ia g (Q_t_ring 4) 8 (F_t_ring 4), ia g (Q_t_ring 5) 64 (F_t_ring 5), ia g (Q_t_ring 6) 80 (F_t_ring 6), oX0 q_a1 Q_a1 (F_a1 0 0) (F_a1 1 0), ia g (Q_a1 2) 10 (F_a1 2), ia g (Q_a1 3) 10 (F_a1 3), ia g (Q_a1 4) 8 (F_a1 4), ia g (Q_a1 5) 64 (F_a1 5), ia g (Q_a1 6) 80 (F_a1 6)] H := hP
    have hD : va_D A [oX3 q_t Q_t (F_t 0 0) y_2, raF g (Q_t 2) 20 R_t, oX0 q_t_ring Q_t_ring (F_t_ring 0 0) (F_t_ring 1 0), ia g (Q_t_ring 2) 10 (F_t_ring 2), ia g (Q_t_ring 3) 10 (F_t_ring 3), ia g (Q_t_ring 4) 8 (F_t_ring 4), ia g (Q_t_ring 5) 64 (F_t_ring 5), ia g (Q_t_ring 6) 80 (F_t_ring 6), oX0 q_a1 Q_a1 (F_a1 0 0) (F_a1 1 0), ia g (Q_a1 2) 10 (F_a1 2), ia g (Q_a1 3) 10 (F_a1 3), ia g (Q_a1 4) 8 (F_a1 4), ia g (Q_a1 5) 64 (F_a1 5), ia g (Q_a1 6) 80 (F_a1 6)] := hD
    refine lv_aload_n hx hb dX3_pop_25 rfl (lv_at hl 0 rfl) ?_
    refine lv_dup hx hb dX3_pop_26 rfl ?_
    refine va_get (ci := 3) (v := .int (F_t 0 0)) (C := RX3) (T := TX3) (N := 3) hx hb hts (fun w h => .tail _ (u_inX3 w h)) hown hK.1 hP 0 rfl rfl 0 (by decide) (hts _ (.tail _ u_fl_X3_9)) (fun _ h9 => h9) rfl dX3_pop_27 ?_
    refine lv_iconst (v := (1 : Int32)) hx hb dX3_pop_30 (by decide) ?_
    refine lv_isub hx hb dX3_pop_31 ?_
    refine lv_topi (fun y_3 ey_3 => ?_)
    have h := xl_at ey_3 h
    refine va_put (ci := 3) (v := .int y_3) (ty := .int) (C := RX3) (T := TX3) (N := 3) hx hb hts (fun w h => .tail _ (u_inX3 w h)) tyX3 tyX3_ok nmX3 hown hK.1 hP hD hS 0 rfl rfl 0 (by decide) (hts _ (.tail _ u_fl_X3_9)) (fun _ h9 => h9) rfl (tyX3_ok 0 (by decide)) rfl rfl (Nat.le_of_ble_eq_true rfl) dX3_pop_32 (fun H locs hP hD hS => ?_)
    have hP : va_P g.1 vwCl [oX3 q_t Q_t y_3 y_2, raF g (Q_t 2) 20 R_t, oX0 q_t_ring Q_t_ring (F_t_ring 0 0) (F_t_ring 1 0), ia g (Q_t_ring 2) 10 (F_t_ring 2), ia g (Q_t_ring 3) 10 (F_t_ring 3), ia g (Q_t_ring 4) 8 (F_t_ring 4), ia g (Q_t_ring 5) 64 (F_t_ring 5), ia g (Q_t_ring 6) 80 (F_t_ring 6), oX0 q_a1 Q_a1 (F_a1 0 0) (F_a1 1 0), ia g (Q_a1 2) 10 (F_a1 2), ia g (Q_a1 3) 10 (F_a1 3), ia g (Q_a1 4) 8 (F_a1 4), ia g (Q_a1 5) 64 (F_a1 5), ia g (Q_a1 6) 80 (F_a1 6)] H := hP
    have hD : va_D A [oX3 q_t Q_t y_3 y_2, raF g (Q_t 2) 20 R_t, oX0 q_t_ring Q_t_ring (F_t_ring 0 0) (F_t_ring 1 0), ia g (Q_t_ring 2) 10 (F_t_ring 2), ia g (Q_t_ring 3) 10 (F_t_ring 3), ia g (Q_t_ring 4) 8 (F_t_ring 4), ia g (Q_t_ring 5) 64 (F_t_ring 5), ia g (Q_t_ring 6) 80 (F_t_ring 6), oX0 q_a1 Q_a1 (F_a1 0 0) (F_a1 1 0), ia g (Q_a1 2) 10 (F_a1 2), ia g (Q_a1 3) 10 (F_a1 3), ia g (Q_a1 4) 8 (F_a1 4), ia g (Q_a1 5) 64 (F_a1 5), ia g (Q_a1 6) 80 (F_a1 6)] := hD
    refine lv_aload_n hx hb dX3_pop_35 rfl (lv_at hl 1 rfl) ?_
    refine lv_aload_n hx hb dX3_pop_36 rfl (lv_at hl 0 rfl) ?_
    refine va_get (ci := 3) (v := .ref (Q_t 2)) (C := RX3) (T := TX3) (N := 3) hx hb hts (fun w h => .tail _ (u_inX3 w h)) hown hK.1 hP 0 rfl rfl 2 (by decide) (hts _ (.tail _ u_fl_X3_20)) (fun _ h9 => h9) rfl dX3_pop_37 ?_
    refine lv_aload_n hx hb dX3_pop_40 rfl (lv_at hl 0 rfl) ?_
    refine va_get (ci := 3) (v := .int y_2) (C := RX3) (T := TX3) (N := 3) hx hb hts (fun w h => .tail _ (u_inX3 w h)) hown hK.1 hP 0 rfl rfl 1 (by decide) (hts _ (.tail _ u_fl_X3_15)) (fun _ h9 => h9) rfl dX3_pop_41 ?_
    obtain ⟨hi_4, h⟩ := ox_chk h
    obtain ⟨hr_5, h⟩ := ox_ok h
    refine k_aldq hx hb hK.1 hP 1 3 rfl rfl hi_4 hr_5 dX3_pop_44 ?_
    obtain ⟨v_6, hv_6, h⟩ := ox_bind h
    refine kVv ⟨hx, hb, hml, hown, hts⟩ (c_X0_copyFrom l g q_a1 Q_a1 q_t_ring Q_t_ring F_a1 F_t_ring v_6 hv_6 H.size) (gV u_ml_X3_25 u_im_X0_copyFrom u_se_X0_copyFrom u_ini_X0 u_co_X0_copyFrom) hd_X0_copyFrom ⟨rfl, rfl⟩ hK hP hD hS hA 8 0 rfl rfl [8, 9, 10, 11, 12, 13, 2, 3, 4, 5, 6, 7] [12, 13, 6, 7, 8, 9, 10, 11, 0, 1, 2, 3, 4, 5] rfl rfl 12 rfl (w2 := [oX3 q_t Q_t y_3 y_2, raF g (Q_t 2) 20 R_t, oX0 q_t_ring Q_t_ring (F_t_ring 0 0) (F_t_ring 1 0), ia g (Q_t_ring 2) 10 (F_t_ring 2), ia g (Q_t_ring 3) 10 (F_t_ring 3), ia g (Q_t_ring 4) 8 (F_t_ring 4), ia g (Q_t_ring 5) 64 (F_t_ring 5), ia g (Q_t_ring 6) 80 (F_t_ring 6), oX0 q_a1 Q_a1 v_6.1 v_6.2.1, ia g (Q_a1 2) 10 v_6.2.2.1, ia g (Q_a1 3) 10 v_6.2.2.2.1, ia g (Q_a1 4) 8 v_6.2.2.2.2.1, ia g (Q_a1 5) 64 v_6.2.2.2.2.2.1, ia g (Q_a1 6) 80 v_6.2.2.2.2.2.2]) rfl rfl (As := [.ref q_t_ring]) (rest := []) rfl hl.1 rfl rfl dX3_pop_45 (fun H locs hP hD hS => ?_)
    refine lv_iconst (v := (1 : Int32)) hx hb dX3_pop_48 (by decide) ?_
    obtain rfl := Option.some.inj h
    exact k_zret hx hb hr hlk (.inr rfl) hP hD hS dX3_pop_49
  · have h := ox_t c_1 h
    refine lv_iconst (v := (0 : Int32)) hx hb dX3_pop_7 (by decide) ?_
    obtain rfl := Option.some.inj h
    exact k_zret hx hb hr hlk (.inl rfl) hP hD hS dX3_pop_8
set_option maxRecDepth 100000 in
theorem c_X3_pop (l : Launch) (g : gG) (q_t : Nat) (Q_t : Ad) (Q_t_ring : Ad) (q_a1 : Nat) (Q_a1 : Ad) (q_t_ring : Nat) (F_t : St) (R_t : (Nat → Option Nat)) (F_t_ring : St) (F_a1 : St) (o : Int32 × Int32 × Int32 × Int32 × Int32 × (Nat → Int32) × (Nat → Int32) × (Nat → Int32) × (Nat → Int32) × (Nat → Int32)) (h : x_X3_pop q_t_ring F_t R_t F_t_ring F_a1 = some o) (sz : Nat) : MetI l yX3_pop (.code yX3_pop cX3_pop 2 (some .boolean) :: gW) 2 47 [.ref q_t, .ref q_a1] o.1 g [oX3 q_t Q_t (F_t 0 0) (F_t 1 0), raF g (Q_t 2) 20 R_t, oX0 q_t_ring Q_t_ring (F_t_ring 0 0) (F_t_ring 1 0), ia g (Q_t_ring 2) 10 (F_t_ring 2), ia g (Q_t_ring 3) 10 (F_t_ring 3), ia g (Q_t_ring 4) 8 (F_t_ring 4), ia g (Q_t_ring 5) 64 (F_t_ring 5), ia g (Q_t_ring 6) 80 (F_t_ring 6), oX0 q_a1 Q_a1 (F_a1 0 0) (F_a1 1 0), ia g (Q_a1 2) 10 (F_a1 2), ia g (Q_a1 3) 10 (F_a1 3), ia g (Q_a1 4) 8 (F_a1 4), ia g (Q_a1 5) 64 (F_a1 5), ia g (Q_a1 6) 80 (F_a1 6)] [oX3 q_t Q_t o.2.1 o.2.2.1, raF g (Q_t 2) 20 R_t, oX0 q_t_ring Q_t_ring (F_t_ring 0 0) (F_t_ring 1 0), ia g (Q_t_ring 2) 10 (F_t_ring 2), ia g (Q_t_ring 3) 10 (F_t_ring 3), ia g (Q_t_ring 4) 8 (F_t_ring 4), ia g (Q_t_ring 5) 64 (F_t_ring 5), ia g (Q_t_ring 6) 80 (F_t_ring 6), oX0 q_a1 Q_a1 o.2.2.2.1 o.2.2.2.2.1, ia g (Q_a1 2) 10 o.2.2.2.2.2.1, ia g (Q_a1 3) 10 o.2.2.2.2.2.2.1, ia g (Q_a1 4) 8 o.2.2.2.2.2.2.2.1, ia g (Q_a1 5) 64 o.2.2.2.2.2.2.2.2.1, ia g (Q_a1 6) 80 o.2.2.2.2.2.2.2.2.2] sz :=
  mkI (av := [.ref q_t, .ref q_a1]) (by decide +kernel) rfl (fun p e s m below meth c A E H locs ls hP hD hS hl => t_X3_pop E q_t Q_t Q_t_ring q_a1 Q_a1 q_t_ring F_t R_t F_t_ring F_a1 o h H locs ls hP hD hS hl) sz
