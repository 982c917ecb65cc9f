def x_X9_feed (F_t : St) (F_t_reader : St) (x1 : Int32) : Option (Int32 × (Nat → Int32) × Int32) :=
  if x1 < 0 then (some ((-1000000002 : Int32), (F_t_reader 0), (F_t_reader 1 0))) else (if x1 ≤ (255 : Int32) then (Option.bind (x_X5_add F_t_reader x1) (fun v_3 => if v_3.1 = 0 then (some ((-1000000004 : Int32), v_3.2.1, v_3.2.2)) else (some (v_3.2.2, v_3.2.1, v_3.2.2)))) else (some ((-1000000002 : Int32), (F_t_reader 0), (F_t_reader 1 0))))
set_option maxHeartbeats 4000000 in
set_option maxRecDepth 100000 in
theorem t_X9_feed {p : Program} {l : Launch} {e : Env} {s : State} {m : MethodId} {args : Array Value} {below : List Frame} {meth : Method} {c : Code} {g : gG} {A : Nat → Prop} (E : En p s m args meth c g A cX9_feed 2 (.code yX9_feed cX9_feed 2 (some .int) :: gW) RX9 (some .int)) (q_t : Nat) (Q_t : Ad) (Q_t_reader : Ad) (F_t : St) (F_t_reader : St) (x1 : Int32) (o : Int32 × (Nat → Int32) × Int32) (h : x_X9_feed F_t F_t_reader x1 = some o) : WA p l e (rM 1 21) s m args below meth c g A (MQ below (QI g A o.1 [oX9 q_t Q_t (F_t 10 0), oX5 (Q_t 0) Q_t_reader o.2.2 (F_t_reader 2 0) (F_t_reader 3 0) (F_t_reader 4 0) (F_t_reader 5 0), ia g (Q_t_reader 0) 240 o.2.1]) args s 0 0 A) 2 0 [oX9 q_t Q_t (F_t 10 0), oX5 (Q_t 0) Q_t_reader (F_t_reader 1 0) (F_t_reader 2 0) (F_t_reader 3 0) (F_t_reader 4 0) (F_t_reader 5 0), ia g (Q_t_reader 0) 240 (F_t_reader 0)] [(0, .ref q_t), (1, .int x1)] [] := by
  obtain ⟨⟨hx, hb, hml, hown, hts⟩, hr, hK, hA, hlk⟩ := id E
  intro H locs ls hP hD hS hl
  refine lv_iload_n hx hb dX9_feed_0 rfl (lv_at hl 1 rfl) ?_
  refine lv_if_lt (tgt := 11) hx hb dX9_feed_1 (by decide) (fun c_1 => ?_) (fun c_1 => ?_)
  · have h := ox_t c_1 h
    refine lv_ldc (v := (-1000000002 : Int32)) hx hb hown (hts _ (.tail _ u_k_X9_75)) dX9_feed_11 ?_
    obtain rfl := Option.some.inj h
    exact k_iret hx hb hr hlk hP hD hS dX9_feed_13
  · have h := ox_f c_1 h
    refine lv_iload_n hx hb dX9_feed_4 rfl (lv_at hl 1 rfl) ?_
    refine lv_sipush (v := (255 : Int32)) hx hb dX9_feed_5 (by decide) ?_
    refine lv_icmp_le (tgt := 14) hx hb dX9_feed_8 (by decide) (fun c_2 => ?_) (fun c_2 => ?_)
    · have h := ox_t c_2 h
      refine lv_aload_n hx hb dX9_feed_14 rfl (lv_at hl 0 rfl) ?_
      refine va_get (ci := 9) (v := .ref (Q_t 0)) (C := RX9) (T := TX9) (N := 11) hx hb hts (fun w h => .tail _ (u_inX9 w h)) hown hK.1 hP 0 rfl rfl 0 (by decide) (hts _ (.tail _ u_fl_X9_12)) (fun _ h9 => h9) rfl dX9_feed_15 ?_
      refine lv_iload_n hx hb dX9_feed_18 rfl (lv_at hl 1 rfl) ?_
      obtain ⟨v_3, hv_3, h⟩ := ox_bind h
      refine kVi ⟨hx, hb, hml, hown, hts⟩ (c_X5_add l g (Q_t 0) Q_t_reader F_t_reader x1 v_3 hv_3 H.size) (gV u_ml_X9_76 u_im_X5_add u_se_X5_add u_ini_X5 u_co_X5_add) hd_X5_add ⟨rfl, rfl⟩ hK hP hD hS hA 1 5 rfl rfl [1, 2] [2, 0, 1] rfl rfl 2 rfl (w2 := [oX9 q_t Q_t (F_t 10 0), oX5 (Q_t 0) Q_t_reader v_3.2.2 (F_t_reader 2 0) (F_t_reader 3 0) (F_t_reader 4 0) (F_t_reader 5 0), ia g (Q_t_reader 0) 240 v_3.2.1]) rfl rfl (As := [.int x1]) (rest := []) rfl hl.1 rfl rfl dX9_feed_19 (fun H locs hP hD hS => ?_)
      refine lv_if_eq (tgt := 35) hx hb dX9_feed_22 (by decide) (fun c_4 => ?_) (fun c_4 => ?_)
      · have h := ox_t c_4 h
        refine lv_ldc (v := (-1000000004 : Int32)) hx hb hown (hts _ (.tail _ u_k_X9_83)) dX9_feed_35 ?_
        obtain rfl := Option.some.inj h
        exact k_iret hx hb hr hlk hP hD hS dX9_feed_37
      · have h := ox_f c_4 h
        refine lv_aload_n hx hb dX9_feed_25 rfl (lv_at hl 0 rfl) ?_
        refine va_get (ci := 9) (v := .ref (Q_t 0)) (C := RX9) (T := TX9) (N := 11) hx hb hts (fun w h => .tail _ (u_inX9 w h)) hown hK.1 hP 0 rfl rfl 0 (by decide) (hts _ (.tail _ u_fl_X9_12)) (fun _ h9 => h9) rfl dX9_feed_26 ?_
        refine va_get (ci := 5) (v := .int v_3.2.2) (C := RX5) (T := TX5) (N := 6) hx hb hts (fun w h => .tail _ (u_inX5 w h)) hown hK.1 hP 1 rfl rfl 1 (by decide) (hts _ (.tail _ u_fl_X9_80)) (fun _ h9 => h9) rfl dX9_feed_29 ?_
        refine lv_goto (tgt := 37) hx hb dX9_feed_32 (by decide) ?_
        obtain rfl := Option.some.inj h
        exact k_iret hx hb hr hlk hP hD hS dX9_feed_37
    · have h := ox_f c_2 h
      refine lv_ldc (v := (-1000000002 : Int32)) hx hb hown (hts _ (.tail _ u_k_X9_75)) dX9_feed_11 ?_
      obtain rfl := Option.some.inj h
      exact k_iret hx hb hr hlk hP hD hS dX9_feed_13
set_option maxRecDepth 100000 in
theorem c_X9_feed (l : Launch) (g : gG) (q_t : Nat) (Q_t : Ad) (Q_t_reader : Ad) (F_t : St) (F_t_reader : St) (x1 : Int32) (o : Int32 × (Nat → Int32) × Int32) (h : x_X9_feed F_t F_t_reader x1 = some o) (sz : Nat) : MetI l yX9_feed (.code yX9_feed cX9_feed 2 (some .int) :: gW) 1 21 [.ref q_t, .int x1] o.1 g [oX9 q_t Q_t (F_t 10 0), oX5 (Q_t 0) Q_t_reader (F_t_reader 1 0) (F_t_reader 2 0) (F_t_reader 3 0) (F_t_reader 4 0) (F_t_reader 5 0), ia g (Q_t_reader 0) 240 (F_t_reader 0)] [oX9 q_t Q_t (F_t 10 0), oX5 (Q_t 0) Q_t_reader o.2.2 (F_t_reader 2 0) (F_t_reader 3 0) (F_t_reader 4 0) (F_t_reader 5 0), ia g (Q_t_reader 0) 240 o.2.1] sz :=
  mkI (av := [.ref q_t, .int x1]) (by decide +kernel) rfl (fun p e s m below meth c A E H locs ls hP hD hS hl => t_X9_feed E q_t Q_t Q_t_reader F_t F_t_reader x1 o h H locs ls hP hD hS hl) sz
def x_X9_fault (F_t : St) (F_t_reader : St) : Option (Int32) :=
  some (F_t_reader 3 0)
set_option maxHeartbeats 4000000 in
set_option maxRecDepth 100000 in
theorem t_X9_fault {p : Program} {l : Launch} {e : Env} {s : State} {m : MethodId} {args : Array Value} {below : List Frame} {meth : Method} {c : Code} {g : gG} {A : Nat → Prop} (E : En p s m args meth c g A cX9_fault 1 (.code yX9_fault cX9_fault 1 (some .int) :: gW) RX9 (some .int)) (q_t : Nat) (Q_t : Ad) (Q_t_reader : Ad) (F_t : St) (F_t_reader : St) (o : Int32) (h : x_X9_fault F_t F_t_reader = some o) : WA p l e (rM 0 0) s m args below meth c g A (MQ below (QI g A o [oX9 q_t Q_t (F_t 10 0), oX5 (Q_t 0) Q_t_reader (F_t_reader 1 0) (F_t_reader 2 0) (F_t_reader 3 0) (F_t_reader 4 0) (F_t_reader 5 0)]) args s 0 0 A) 1 0 [oX9 q_t Q_t (F_t 10 0), oX5 (Q_t 0) Q_t_reader (F_t_reader 1 0) (F_t_reader 2 0) (F_t_reader 3 0) (F_t_reader 4 0) (F_t_reader 5 0)] [(0, .ref q_t)] [] := by
  obtain ⟨⟨hx, hb, hml, hown, hts⟩, hr, hK, hA, hlk⟩ := id E
  intro H locs ls hP hD hS hl
  refine lv_aload_n hx hb dX9_fault_0 rfl (lv_at hl 0 rfl) ?_
  refine va_get (ci := 9) (v := .ref (Q_t 0)) (C := RX9) (T := TX9) (N := 11) hx hb hts (fun w h => .tail _ (u_inX9 w h)) hown hK.1 hP 0 rfl rfl 0 (by decide) (hts _ (.tail _ u_fl_X9_12)) (fun _ h9 => h9) rfl dX9_fault_1 ?_
  refine va_get (ci := 5) (v := .int (F_t_reader 3 0)) (C := RX5) (T := TX5) (N := 6) hx hb hts (fun w h => .tail _ (u_inX5 w h)) hown hK.1 hP 1 rfl rfl 3 (by decide) (hts _ (.tail _ u_fl_X9_107)) (fun _ h9 => h9) rfl dX9_fault_4 ?_
  obtain rfl := Option.some.inj h
  exact k_iret hx hb hr hlk hP hD hS dX9_fault_7
set_option maxRecDepth 100000 in
theorem c_X9_fault (l : Launch) (g : gG) (q_t : Nat) (Q_t : Ad) (Q_t_reader : Ad) (F_t : St) (F_t_reader : St) (o : Int32) (h : x_X9_fault F_t F_t_reader = some o) (sz : Nat) : MetI l yX9_fault (.code yX9_fault cX9_fault 1 (some .int) :: gW) 0 0 [.ref q_t] o g [oX9 q_t Q_t (F_t 10 0), oX5 (Q_t 0) Q_t_reader (F_t_reader 1 0) (F_t_reader 2 0) (F_t_reader 3 0) (F_t_reader 4 0) (F_t_reader 5 0)] [oX9 q_t Q_t (F_t 10 0), oX5 (Q_t 0) Q_t_reader (F_t_reader 1 0) (F_t_reader 2 0) (F_t_reader 3 0) (F_t_reader 4 0) (F_t_reader 5 0)] sz :=
  mkI (av := [.ref q_t]) (by decide +kernel) rfl (fun p e s m below meth c A E H locs ls hP hD hS hl => t_X9_fault E q_t Q_t Q_t_reader F_t F_t_reader o h H locs ls hP hD hS hl) sz
def x_X9_told (N : Nat) (F_t : St) (F_t_flow : St) (F_t_notes : St) (F_t_past : St) (F_t_plan : St) (F_t_reader : St) (x1 : Int32) : Option (Int32) :=
  if x1 = 0 then (some (F_t_plan 0 0)) else if x1 = 1 then (some (F_t_plan 1 0)) else if x1 = 2 then (some (F_t_plan 2 0)) else if x1 = 3 then (some (F_t_reader 1 0)) else if x1 = 4 then (some (F_t_flow 0 0)) else if x1 = 5 then (some (F_t_flow 1 0)) else if x1 = 6 then (Option.bind (x_X0_blocked N F_t_flow F_t_plan) (fun v_8 => some v_8)) else if x1 = 7 then (Option.bind (x_X0_yetToCome N F_t_flow) (fun v_10 => some v_10)) else if x1 = 8 then (some (F_t_notes 0 0)) else if x1 = 9 then (some (F_t_notes 1 0)) else if x1 = 10 then (some (F_t_past 0 0)) else (some (-1000000002 : Int32))
set_option maxHeartbeats 4000000 in
set_option maxRecDepth 100000 in
theorem t_X9_told {p : Program} {l : Launch} {e : Env} {s : State} {m : MethodId} {args : Array Value} {below : List Frame} {meth : Method} {c : Code} {g : gG} {A : Nat → Prop} (E : En p s m args meth c g A cX9_told 2 (.code yX9_told cX9_told 2 (some .int) :: gW) RX9 (some .int)) (q_t : Nat) (Q_t : Ad) (Q_t_flow : Ad) (Q_t_notes : Ad) (Q_t_past : Ad) (Q_t_plan : Ad) (Q_t_reader : Ad) (N : Nat) (F_t : St) (F_t_flow : St) (F_t_notes : St) (F_t_past : St) (F_t_plan : St) (F_t_reader : St) (x1 : Int32) (o : Int32) (h : x_X9_told N F_t F_t_flow F_t_notes F_t_past F_t_plan F_t_reader x1 = some o) : WA p l e (rM 2 42) s m args below meth c g A (MQ below (QI g A o [oX9 q_t Q_t (F_t 10 0), oX0 (Q_t 3) Q_t_flow (F_t_flow 0 0) (F_t_flow 1 0), ia g (Q_t_flow 2) 10 (F_t_flow 2), ia g (Q_t_flow 6) 80 (F_t_flow 6), oX2 (Q_t 7) Q_t_notes (F_t_notes 0 0) (F_t_notes 1 0), oX3 (Q_t 5) Q_t_past (F_t_past 0 0) (F_t_past 1 0), oX4 (Q_t 1) Q_t_plan (F_t_plan 0 0) (F_t_plan 1 0) (F_t_plan 2 0), oX5 (Q_t 0) Q_t_reader (F_t_reader 1 0) (F_t_reader 2 0) (F_t_reader 3 0) (F_t_reader 4 0) (F_t_reader 5 0)]) args s 0 0 A) 2 0 [oX9 q_t Q_t (F_t 10 0), oX0 (Q_t 3) Q_t_flow (F_t_flow 0 0) (F_t_flow 1 0), ia g (Q_t_flow 2) 10 (F_t_flow 2), ia g (Q_t_flow 6) 80 (F_t_flow 6), oX2 (Q_t 7) Q_t_notes (F_t_notes 0 0) (F_t_notes 1 0), oX3 (Q_t 5) Q_t_past (F_t_past 0 0) (F_t_past 1 0), oX4 (Q_t 1) Q_t_plan (F_t_plan 0 0) (F_t_plan 1 0) (F_t_plan 2 0), oX5 (Q_t 0) Q_t_reader (F_t_reader 1 0) (F_t_reader 2 0) (F_t_reader 3 0) (F_t_reader 4 0) (F_t_reader 5 0)] [(0, .ref q_t), (1, .int x1)] [] := by
  obtain ⟨⟨hx, hb, hml, hown, hts⟩, hr, hK, hA, hlk⟩ := id E
  intro H locs ls hP hD hS hl
  refine lv_iload_n hx hb dX9_told_0 rfl (lv_at hl 1 rfl) ?_
  by_cases c_1 : x1 = 0
  · have h := ox_t c_1 h
    refine lv_tableIn (off := 59) (tgt := 60) hx hb dX9_told_1 (by rw [c_1]; decide) (by rw [c_1]; decide) (by rw [c_1]; rfl) (by decide) ?_
    refine lv_aload_n hx hb dX9_told_60 rfl (lv_at hl 0 rfl) ?_
    refine va_get (ci := 9) (v := .ref (Q_t 1)) (C := RX9) (T := TX9) (N := 11) hx hb hts (fun w h => .tail _ (u_inX9 w h)) hown hK.1 hP 0 rfl rfl 1 (by decide) (hts _ (.tail _ u_fl_X9_19)) (fun _ h9 => h9) rfl dX9_told_61 ?_
    refine va_get (ci := 4) (v := .int (F_t_plan 0 0)) (C := RX4) (T := TX4) (N := 9) hx hb hts (fun w h => .tail _ (u_inX4 w h)) hown hK.1 hP 6 rfl rfl 0 (by decide) (hts _ (.tail _ u_fl_X9_110)) (fun _ h9 => h9) rfl dX9_told_64 ?_
    obtain rfl := Option.some.inj h
    exact k_iret hx hb hr hlk hP hD hS dX9_told_67
  have h := ox_f c_1 h
  by_cases c_2 : x1 = 1
  · have h := ox_t c_2 h
    refine lv_tableIn (off := 67) (tgt := 68) hx hb dX9_told_1 (by rw [c_2]; decide) (by rw [c_2]; decide) (by rw [c_2]; rfl) (by decide) ?_
    refine lv_aload_n hx hb dX9_told_68 rfl (lv_at hl 0 rfl) ?_
    refine va_get (ci := 9) (v := .ref (Q_t 1)) (C := RX9) (T := TX9) (N := 11) hx hb hts (fun w h => .tail _ (u_inX9 w h)) hown hK.1 hP 0 rfl rfl 1 (by decide) (hts _ (.tail _ u_fl_X9_19)) (fun _ h9 => h9) rfl dX9_told_69 ?_
    refine va_get (ci := 4) (v := .int (F_t_plan 1 0)) (C := RX4) (T := TX4) (N := 9) hx hb hts (fun w h => .tail _ (u_inX4 w h)) hown hK.1 hP 6 rfl rfl 1 (by decide) (hts _ (.tail _ u_fl_X9_104)) (fun _ h9 => h9) rfl dX9_told_72 ?_
    obtain rfl := Option.some.inj h
    exact k_iret hx hb hr hlk hP hD hS dX9_told_75
  have h := ox_f c_2 h
  by_cases c_3 : x1 = 2
  · have h := ox_t c_3 h
    refine lv_tableIn (off := 75) (tgt := 76) hx hb dX9_told_1 (by rw [c_3]; decide) (by rw [c_3]; decide) (by rw [c_3]; rfl) (by decide) ?_
    refine lv_aload_n hx hb dX9_told_76 rfl (lv_at hl 0 rfl) ?_
    refine va_get (ci := 9) (v := .ref (Q_t 1)) (C := RX9) (T := TX9) (N := 11) hx hb hts (fun w h => .tail _ (u_inX9 w h)) hown hK.1 hP 0 rfl rfl 1 (by decide) (hts _ (.tail _ u_fl_X9_19)) (fun _ h9 => h9) rfl dX9_told_77 ?_
    refine va_get (ci := 4) (v := .int (F_t_plan 2 0)) (C := RX4) (T := TX4) (N := 9) hx hb hts (fun w h => .tail _ (u_inX4 w h)) hown hK.1 hP 6 rfl rfl 2 (by decide) (hts _ (.tail _ u_fl_X9_113)) (fun _ h9 => h9) rfl dX9_told_80 ?_
    obtain rfl := Option.some.inj h
    exact k_iret hx hb hr hlk hP hD hS dX9_told_83
  have h := ox_f c_3 h
  by_cases c_4 : x1 = 3
  · have h := ox_t c_4 h
    refine lv_tableIn (off := 83) (tgt := 84) hx hb dX9_told_1 (by rw [c_4]; decide) (by rw [c_4]; decide) (by rw [c_4]; rfl) (by decide) ?_
    refine lv_aload_n hx hb dX9_told_84 rfl (lv_at hl 0 rfl) ?_
    refine va_get (ci := 9) (v := .ref (Q_t 0)) (C := RX9) (T := TX9) (N := 11) hx hb hts (fun w h => .tail _ (u_inX9 w h)) hown hK.1 hP 0 rfl rfl 0 (by decide) (hts _ (.tail _ u_fl_X9_12)) (fun _ h9 => h9) rfl dX9_told_85 ?_
    refine va_get (ci := 5) (v := .int (F_t_reader 1 0)) (C := RX5) (T := TX5) (N := 6) hx hb hts (fun w h => .tail _ (u_inX5 w h)) hown hK.1 hP 7 rfl rfl 1 (by decide) (hts _ (.tail _ u_fl_X9_80)) (fun _ h9 => h9) rfl dX9_told_88 ?_
    obtain rfl := Option.some.inj h
    exact k_iret hx hb hr hlk hP hD hS dX9_told_91
  have h := ox_f c_4 h
  by_cases c_5 : x1 = 4
  · have h := ox_t c_5 h
    refine lv_tableIn (off := 91) (tgt := 92) hx hb dX9_told_1 (by rw [c_5]; decide) (by rw [c_5]; decide) (by rw [c_5]; rfl) (by decide) ?_
    refine lv_aload_n hx hb dX9_told_92 rfl (lv_at hl 0 rfl) ?_
    refine va_get (ci := 9) (v := .ref (Q_t 3)) (C := RX9) (T := TX9) (N := 11) hx hb hts (fun w h => .tail _ (u_inX9 w h)) hown hK.1 hP 0 rfl rfl 3 (by decide) (hts _ (.tail _ u_fl_X9_29)) (fun _ h9 => h9) rfl dX9_told_93 ?_
    refine va_get (ci := 0) (v := .int (F_t_flow 0 0)) (C := RX0) (T := TX0) (N := 7) hx hb hts (fun w h => .tail _ (u_inX0 w h)) hown hK.1 hP 1 rfl rfl 0 (by decide) (hts _ (.tail _ u_fl_X9_116)) (fun _ h9 => h9) rfl dX9_told_96 ?_
    obtain rfl := Option.some.inj h
    exact k_iret hx hb hr hlk hP hD hS dX9_told_99
  have h := ox_f c_5 h
  by_cases c_6 : x1 = 5
  · have h := ox_t c_6 h
    refine lv_tableIn (off := 99) (tgt := 100) hx hb dX9_told_1 (by rw [c_6]; decide) (by rw [c_6]; decide) (by rw [c_6]; rfl) (by decide) ?_
    refine lv_aload_n hx hb dX9_told_100 rfl (lv_at hl 0 rfl) ?_
    refine va_get (ci := 9) (v := .ref (Q_t 3)) (C := RX9) (T := TX9) (N := 11) hx hb hts (fun w h => .tail _ (u_inX9 w h)) hown hK.1 hP 0 rfl rfl 3 (by decide) (hts _ (.tail _ u_fl_X9_29)) (fun _ h9 => h9) rfl dX9_told_101 ?_
    refine va_get (ci := 0) (v := .int (F_t_flow 1 0)) (C := RX0) (T := TX0) (N := 7) hx hb hts (fun w h => .tail _ (u_inX0 w h)) hown hK.1 hP 1 rfl rfl 1 (by decide) (hts _ (.tail _ u_fl_X9_119)) (fun _ h9 => h9) rfl dX9_told_104 ?_
    obtain rfl := Option.some.inj h
    exact k_iret hx hb hr hlk hP hD hS dX9_told_107
  have h := ox_f c_6 h
  by_cases c_7 : x1 = 6
  · have h := ox_t c_7 h
    refine lv_tableIn (off := 107) (tgt := 108) hx hb dX9_told_1 (by rw [c_7]; decide) (by rw [c_7]; decide) (by rw [c_7]; rfl) (by decide) ?_
    refine lv_aload_n hx hb dX9_told_108 rfl (lv_at hl 0 rfl) ?_
    refine va_get (ci := 9) (v := .ref (Q_t 3)) (C := RX9) (T := TX9) (N := 11) hx hb hts (fun w h => .tail _ (u_inX9 w h)) hown hK.1 hP 0 rfl rfl 3 (by decide) (hts _ (.tail _ u_fl_X9_29)) (fun _ h9 => h9) rfl dX9_told_109 ?_
    refine lv_aload_n hx hb dX9_told_112 rfl (lv_at hl 0 rfl) ?_
    refine va_get (ci := 9) (v := .ref (Q_t 1)) (C := RX9) (T := TX9) (N := 11) hx hb hts (fun w h => .tail _ (u_inX9 w h)) hown hK.1 hP 0 rfl rfl 1 (by decide) (hts _ (.tail _ u_fl_X9_19)) (fun _ h9 => h9) rfl dX9_told_113 ?_
    obtain ⟨v_8, hv_8, h⟩ := ox_bind h
    refine kVi ⟨hx, hb, hml, hown, hts⟩ (c_X0_blocked l g (Q_t 3) Q_t_flow (Q_t 1) Q_t_plan N F_t_flow F_t_plan v_8 hv_8 H.size) (gV u_ml_X9_122 u_im_X0_blocked u_se_X0_blocked u_ini_X0 u_co_X0_blocked) hd_X0_blocked ⟨rfl, rfl⟩ hK hP hD hS hA 1 0 rfl rfl [1, 2, 6] [3, 0, 1, 6, 7, 8, 2, 10] rfl rfl 3 rfl (w2 := [oX9 q_t Q_t (F_t 10 0), oX0 (Q_t 3) Q_t_flow (F_t_flow 0 0) (F_t_flow 1 0), ia g (Q_t_flow 2) 10 (F_t_flow 2), ia g (Q_t_flow 6) 80 (F_t_flow 6), oX2 (Q_t 7) Q_t_notes (F_t_notes 0 0) (F_t_notes 1 0), oX3 (Q_t 5) Q_t_past (F_t_past 0 0) (F_t_past 1 0), oX4 (Q_t 1) Q_t_plan (F_t_plan 0 0) (F_t_plan 1 0) (F_t_plan 2 0), oX5 (Q_t 0) Q_t_reader (F_t_reader 1 0) (F_t_reader 2 0) (F_t_reader 3 0) (F_t_reader 4 0) (F_t_reader 5 0)]) rfl rfl (As := [.ref (Q_t 1)]) (rest := []) rfl hl.1 rfl rfl dX9_told_116 (fun H locs hP hD hS => ?_)
    obtain rfl := Option.some.inj h
    exact k_iret hx hb hr hlk hP hD hS dX9_told_119
  have h := ox_f c_7 h
  by_cases c_9 : x1 = 7
  · have h := ox_t c_9 h
    refine lv_tableIn (off := 119) (tgt := 120) hx hb dX9_told_1 (by rw [c_9]; decide) (by rw [c_9]; decide) (by rw [c_9]; rfl) (by decide) ?_
    refine lv_aload_n hx hb dX9_told_120 rfl (lv_at hl 0 rfl) ?_
    refine va_get (ci := 9) (v := .ref (Q_t 3)) (C := RX9) (T := TX9) (N := 11) hx hb hts (fun w h => .tail _ (u_inX9 w h)) hown hK.1 hP 0 rfl rfl 3 (by decide) (hts _ (.tail _ u_fl_X9_29)) (fun _ h9 => h9) rfl dX9_told_121 ?_
    obtain ⟨v_10, hv_10, h⟩ := ox_bind h
    refine kVi ⟨hx, hb, hml, hown, hts⟩ (c_X0_yetToCome l g (Q_t 3) Q_t_flow N F_t_flow v_10 hv_10 H.size) (gV u_ml_X9_126 u_im_X0_yetToCome u_se_X0_yetToCome u_ini_X0 u_co_X0_yetToCome) hd_X0_yetToCome ⟨rfl, rfl⟩ hK hP hD hS hA 1 0 rfl rfl [1, 3] [2, 0, 4, 1, 6, 7, 8, 9] rfl rfl 2 rfl (w2 := [oX9 q_t Q_t (F_t 10 0), oX0 (Q_t 3) Q_t_flow (F_t_flow 0 0) (F_t_flow 1 0), ia g (Q_t_flow 2) 10 (F_t_flow 2), ia g (Q_t_flow 6) 80 (F_t_flow 6), oX2 (Q_t 7) Q_t_notes (F_t_notes 0 0) (F_t_notes 1 0), oX3 (Q_t 5) Q_t_past (F_t_past 0 0) (F_t_past 1 0), oX4 (Q_t 1) Q_t_plan (F_t_plan 0 0) (F_t_plan 1 0) (F_t_plan 2 0), oX5 (Q_t 0) Q_t_reader (F_t_reader 1 0) (F_t_reader 2 0) (F_t_reader 3 0) (F_t_reader 4 0) (F_t_reader 5 0)]) rfl rfl (As := []) (rest := []) rfl hl.1 rfl rfl dX9_told_124 (fun H locs hP hD hS => ?_)
    obtain rfl := Option.some.inj h
    exact k_iret hx hb hr hlk hP hD hS dX9_told_127
  have h := ox_f c_9 h
  by_cases c_11 : x1 = 8
  · have h := ox_t c_11 h
    refine lv_tableIn (off := 127) (tgt := 128) hx hb dX9_told_1 (by rw [c_11]; decide) (by rw [c_11]; decide) (by rw [c_11]; rfl) (by decide) ?_
    refine lv_aload_n hx hb dX9_told_128 rfl (lv_at hl 0 rfl) ?_
    refine va_get (ci := 9) (v := .ref (Q_t 7)) (C := RX9) (T := TX9) (N := 11) hx hb hts (fun w h => .tail _ (u_inX9 w h)) hown hK.1 hP 0 rfl rfl 7 (by decide) (hts _ (.tail _ u_fl_X9_52)) (fun _ h9 => h9) rfl dX9_told_129 ?_
    refine va_get (ci := 2) (v := .int (F_t_notes 0 0)) (C := RX2) (T := TX2) (N := 7) hx hb hts (fun w h => .tail _ (u_inX2 w h)) hown hK.1 hP 4 rfl rfl 0 (by decide) (hts _ (.tail _ u_fl_X9_130)) (fun _ h9 => h9) rfl dX9_told_132 ?_
    obtain rfl := Option.some.inj h
    exact k_iret hx hb hr hlk hP hD hS dX9_told_135
  have h := ox_f c_11 h
  by_cases c_12 : x1 = 9
  · have h := ox_t c_12 h
    refine lv_tableIn (off := 135) (tgt := 136) hx hb dX9_told_1 (by rw [c_12]; decide) (by rw [c_12]; decide) (by rw [c_12]; rfl) (by decide) ?_
    refine lv_aload_n hx hb dX9_told_136 rfl (lv_at hl 0 rfl) ?_
    refine va_get (ci := 9) (v := .ref (Q_t 7)) (C := RX9) (T := TX9) (N := 11) hx hb hts (fun w h => .tail _ (u_inX9 w h)) hown hK.1 hP 0 rfl rfl 7 (by decide) (hts _ (.tail _ u_fl_X9_52)) (fun _ h9 => h9) rfl dX9_told_137 ?_
    refine va_get (ci := 2) (v := .int (F_t_notes 1 0)) (C := RX2) (T := TX2) (N := 7) hx hb hts (fun w h => .tail _ (u_inX2 w h)) hown hK.1 hP 4 rfl rfl 1 (by decide) (hts _ (.tail _ u_fl_X9_133)) (fun _ h9 => h9) rfl dX9_told_140 ?_
    obtain rfl := Option.some.inj h
    exact k_iret hx hb hr hlk hP hD hS dX9_told_143
  have h := ox_f c_12 h
  by_cases c_13 : x1 = 10
  · have h := ox_t c_13 h
    refine lv_tableIn (off := 143) (tgt := 144) hx hb dX9_told_1 (by rw [c_13]; decide) (by rw [c_13]; decide) (by rw [c_13]; rfl) (by decide) ?_
    refine lv_aload_n hx hb dX9_told_144 rfl (lv_at hl 0 rfl) ?_
    refine va_get (ci := 9) (v := .ref (Q_t 5)) (C := RX9) (T := TX9) (N := 11) hx hb hts (fun w h => .tail _ (u_inX9 w h)) hown hK.1 hP 0 rfl rfl 5 (by decide) (hts _ (.tail _ u_fl_X9_39)) (fun _ h9 => h9) rfl dX9_told_145 ?_
    refine va_get (ci := 3) (v := .int (F_t_past 0 0)) (C := RX3) (T := TX3) (N := 3) hx hb hts (fun w h => .tail _ (u_inX3 w h)) hown hK.1 hP 5 rfl rfl 0 (by decide) (hts _ (.tail _ u_fl_X9_136)) (fun _ h9 => h9) rfl dX9_told_148 ?_
    obtain rfl := Option.some.inj h
    exact k_iret hx hb hr hlk hP hD hS dX9_told_151
  have h := ox_f c_13 h
  refine lv_tableOut (tgt := 152) hx hb dX9_told_1 (tsw_out (hi := 10) (lt_s (lt_s (lt_s (lt_s (lt_s (lt_s (lt_s (lt_s (lt_s (lt_s (lt_s lt_0 c_1) c_2) c_3) c_4) c_5) c_6) c_7) c_9) c_11) c_12) c_13)) (by decide) ?_
  refine lv_ldc (v := (-1000000002 : Int32)) hx hb hown (hts _ (.tail _ u_k_X9_75)) dX9_told_152 ?_
  obtain rfl := Option.some.inj h
  exact k_iret hx hb hr hlk hP hD hS dX9_told_154
set_option maxRecDepth 100000 in
theorem c_X9_told (l : Launch) (g : gG) (q_t : Nat) (Q_t : Ad) (Q_t_flow : Ad) (Q_t_notes : Ad) (Q_t_past : Ad) (Q_t_plan : Ad) (Q_t_reader : Ad) (N : Nat) (F_t : St) (F_t_flow : St) (F_t_notes : St) (F_t_past : St) (F_t_plan : St) (F_t_reader : St) (x1 : Int32) (o : Int32) (h : x_X9_told N F_t F_t_flow F_t_notes F_t_past F_t_plan F_t_reader x1 = some o) (sz : Nat) : MetI l yX9_told (.code yX9_told cX9_told 2 (some .int) :: gW) 2 42 [.ref q_t, .int x1] o g [oX9 q_t Q_t (F_t 10 0), oX0 (Q_t 3) Q_t_flow (F_t_flow 0 0) (F_t_flow 1 0), ia g (Q_t_flow 2) 10 (F_t_flow 2), ia g (Q_t_flow 6) 80 (F_t_flow 6), oX2 (Q_t 7) Q_t_notes (F_t_notes 0 0) (F_t_notes 1 0), oX3 (Q_t 5) Q_t_past (F_t_past 0 0) (F_t_past 1 0), oX4 (Q_t 1) Q_t_plan (F_t_plan 0 0) (F_t_plan 1 0) (F_t_plan 2 0), oX5 (Q_t 0) Q_t_reader (F_t_reader 1 0) (F_t_reader 2 0) (F_t_reader 3 0) (F_t_reader 4 0) (F_t_reader 5 0)] [oX9 q_t Q_t (F_t 10 0), oX0 (Q_t 3) Q_t_flow (F_t_flow 0 0) (F_t_flow 1 0), ia g (Q_t_flow 2) 10 (F_t_flow 2), ia g (Q_t_flow 6) 80 (F_t_flow 6), oX2 (Q_t 7) Q_t_notes (F_t_notes 0 0) (F_t_notes 1 0), oX3 (Q_t 5) Q_t_past (F_t_past 0 0) (F_t_past 1 0), oX4 (Q_t 1) Q_t_plan (F_t_plan 0 0) (F_t_plan 1 0) (F_t_plan 2 0), oX5 (Q_t 0) Q_t_reader (F_t_reader 1 0) (F_t_reader 2 0) (F_t_reader 3 0) (F_t_reader 4 0) (F_t_reader 5 0)] sz :=
  mkI (av := [.ref q_t, .int x1]) (by decide +kernel) rfl (fun p e s m below meth c A E H locs ls hP hD hS hl => t_X9_told E q_t Q_t Q_t_flow Q_t_notes Q_t_past Q_t_plan Q_t_reader N F_t F_t_flow F_t_notes F_t_past F_t_plan F_t_reader x1 o h H locs ls hP hD hS hl) sz
def x_X9_place (F_t : St) (F_t_flow : St) (F_t_plan : St) (x1 : Int32) (x2 : Int32) : Option (Int32) :=
  Option.bind (x_X4_hasPlace F_t_plan x1) (fun v_1 => if v_1 = 0 then (some (-1000000001 : Int32)) else (if x2 = 0 then (if x1 < 0 ∨ 8 ≤ x1.toNatClampNeg then none else some ((F_t_plan 3) x1.toNatClampNeg)) else if x2 = 1 then (if x1 < 0 ∨ 8 ≤ x1.toNatClampNeg then none else some ((F_t_plan 4) x1.toNatClampNeg)) else if x2 = 2 then (if x1 < 0 ∨ 8 ≤ x1.toNatClampNeg then none else some ((F_t_flow 4) x1.toNatClampNeg)) else (some (-1000000002 : Int32))))
set_option maxHeartbeats 4000000 in
set_option maxRecDepth 100000 in
theorem t_X9_place {p : Program} {l : Launch} {e : Env} {s : State} {m : MethodId} {args : Array Value} {below : List Frame} {meth : Method} {c : Code} {g : gG} {A : Nat → Prop} (E : En p s m args meth c g A cX9_place 3 (.code yX9_place cX9_place 3 (some .int) :: gW) RX9 (some .int)) (q_t : Nat) (Q_t : Ad) (Q_t_flow : Ad) (Q_t_plan : Ad) (F_t : St) (F_t_flow : St) (F_t_plan : St) (x1 : Int32) (x2 : Int32) (o : Int32) (h : x_X9_place F_t F_t_flow F_t_plan x1 x2 = some o) : WA p l e (rM 1 21) s m args below meth c g A (MQ below (QI g A o [oX9 q_t Q_t (F_t 10 0), oX0 (Q_t 3) Q_t_flow (F_t_flow 0 0) (F_t_flow 1 0), ia g (Q_t_flow 4) 8 (F_t_flow 4), oX4 (Q_t 1) Q_t_plan (F_t_plan 0 0) (F_t_plan 1 0) (F_t_plan 2 0), ia g (Q_t_plan 3) 8 (F_t_plan 3), ia g (Q_t_plan 4) 8 (F_t_plan 4)]) args s 0 0 A) 3 0 [oX9 q_t Q_t (F_t 10 0), oX0 (Q_t 3) Q_t_flow (F_t_flow 0 0) (F_t_flow 1 0), ia g (Q_t_flow 4) 8 (F_t_flow 4), oX4 (Q_t 1) Q_t_plan (F_t_plan 0 0) (F_t_plan 1 0) (F_t_plan 2 0), ia g (Q_t_plan 3) 8 (F_t_plan 3), ia g (Q_t_plan 4) 8 (F_t_plan 4)] [(0, .ref q_t), (1, .int x1), (2, .int x2)] [] := by
  obtain ⟨⟨hx, hb, hml, hown, hts⟩, hr, hK, hA, hlk⟩ := id E
  intro H locs ls hP hD hS hl
  refine lv_aload_n hx hb dX9_place_0 rfl (lv_at hl 0 rfl) ?_
  refine va_get (ci := 9) (v := .ref (Q_t 1)) (C := RX9) (T := TX9) (N := 11) hx hb hts (fun w h => .tail _ (u_inX9 w h)) hown hK.1 hP 0 rfl rfl 1 (by decide) (hts _ (.tail _ u_fl_X9_19)) (fun _ h9 => h9) rfl dX9_place_1 ?_
  refine lv_iload_n hx hb dX9_place_4 rfl (lv_at hl 1 rfl) ?_
  obtain ⟨v_1, hv_1, h⟩ := ox_bind h
  refine kVi ⟨hx, hb, hml, hown, hts⟩ (c_X4_hasPlace l g (Q_t 1) Q_t_plan F_t_plan x1 v_1 hv_1 H.size) (gV u_ml_X9_139 u_im_X4_hasPlace u_se_X4_hasPlace u_ini_X4 u_co_X4_hasPlace) hd_X4_hasPlace ⟨rfl, rfl⟩ hK hP hD hS hA 3 4 rfl rfl [3] [1, 2, 3, 0, 5, 6] rfl rfl 1 rfl (w2 := [oX9 q_t Q_t (F_t 10 0), oX0 (Q_t 3) Q_t_flow (F_t_flow 0 0) (F_t_flow 1 0), ia g (Q_t_flow 4) 8 (F_t_flow 4), oX4 (Q_t 1) Q_t_plan (F_t_plan 0 0) (F_t_plan 1 0) (F_t_plan 2 0), ia g (Q_t_plan 3) 8 (F_t_plan 3), ia g (Q_t_plan 4) 8 (F_t_plan 4)]) rfl rfl (As := [.int x1]) (rest := []) rfl hl.1 rfl rfl dX9_place_5 (fun H locs hP hD hS => ?_)
  refine lv_if_ne (tgt := 14) hx hb dX9_place_8 (by decide) (fun c_2 => ?_) (fun c_2 => ?_)
  · have h := ox_f c_2 h
    refine lv_iload_n hx hb dX9_place_14 rfl (lv_at hl 2 rfl) ?_
    by_cases c_3 : x2 = 0
    · have h := ox_t c_3 h
      refine lv_tableIn (off := 25) (tgt := 40) hx hb dX9_place_15 (by rw [c_3]; decide) (by rw [c_3]; decide) (by rw [c_3]; rfl) (by decide) ?_
      refine lv_aload_n hx hb dX9_place_40 rfl (lv_at hl 0 rfl) ?_
      refine va_get (ci := 9) (v := .ref (Q_t 1)) (C := RX9) (T := TX9) (N := 11) hx hb hts (fun w h => .tail _ (u_inX9 w h)) hown hK.1 hP 0 rfl rfl 1 (by decide) (hts _ (.tail _ u_fl_X9_19)) (fun _ h9 => h9) rfl dX9_place_41 ?_
      refine va_get (ci := 4) (v := .ref (Q_t_plan 3)) (C := RX4) (T := TX4) (N := 9) hx hb hts (fun w h => .tail _ (u_inX4 w h)) hown hK.1 hP 3 rfl rfl 3 (by decide) (hts _ (.tail _ u_fl_X9_143)) (fun _ h9 => h9) rfl dX9_place_44 ?_
      refine lv_iload_n hx hb dX9_place_47 rfl (lv_at hl 1 rfl) ?_
      obtain ⟨hi_4, h⟩ := ox_chk h
      refine va_iald hx hb hK.1 hP 4 0 rfl rfl hi_4 dX9_place_48 ?_
      obtain rfl := Option.some.inj h
      exact k_iret hx hb hr hlk hP hD hS dX9_place_49
    have h := ox_f c_3 h
    by_cases c_5 : x2 = 1
    · have h := ox_t c_5 h
      refine lv_tableIn (off := 35) (tgt := 50) hx hb dX9_place_15 (by rw [c_5]; decide) (by rw [c_5]; decide) (by rw [c_5]; rfl) (by decide) ?_
      refine lv_aload_n hx hb dX9_place_50 rfl (lv_at hl 0 rfl) ?_
      refine va_get (ci := 9) (v := .ref (Q_t 1)) (C := RX9) (T := TX9) (N := 11) hx hb hts (fun w h => .tail _ (u_inX9 w h)) hown hK.1 hP 0 rfl rfl 1 (by decide) (hts _ (.tail _ u_fl_X9_19)) (fun _ h9 => h9) rfl dX9_place_51 ?_
      refine va_get (ci := 4) (v := .ref (Q_t_plan 4)) (C := RX4) (T := TX4) (N := 9) hx hb hts (fun w h => .tail _ (u_inX4 w h)) hown hK.1 hP 3 rfl rfl 4 (by decide) (hts _ (.tail _ u_fl_X9_147)) (fun _ h9 => h9) rfl dX9_place_54 ?_
      refine lv_iload_n hx hb dX9_place_57 rfl (lv_at hl 1 rfl) ?_
      obtain ⟨hi_6, h⟩ := ox_chk h
      refine va_iald hx hb hK.1 hP 5 0 rfl rfl hi_6 dX9_place_58 ?_
      obtain rfl := Option.some.inj h
      exact k_iret hx hb hr hlk hP hD hS dX9_place_59
    have h := ox_f c_5 h
    by_cases c_7 : x2 = 2
    · have h := ox_t c_7 h
      refine lv_tableIn (off := 45) (tgt := 60) hx hb dX9_place_15 (by rw [c_7]; decide) (by rw [c_7]; decide) (by rw [c_7]; rfl) (by decide) ?_
      refine lv_aload_n hx hb dX9_place_60 rfl (lv_at hl 0 rfl) ?_
      refine va_get (ci := 9) (v := .ref (Q_t 3)) (C := RX9) (T := TX9) (N := 11) hx hb hts (fun w h => .tail _ (u_inX9 w h)) hown hK.1 hP 0 rfl rfl 3 (by decide) (hts _ (.tail _ u_fl_X9_29)) (fun _ h9 => h9) rfl dX9_place_61 ?_
      refine va_get (ci := 0) (v := .ref (Q_t_flow 4)) (C := RX0) (T := TX0) (N := 7) hx hb hts (fun w h => .tail _ (u_inX0 w h)) hown hK.1 hP 1 rfl rfl 4 (by decide) (hts _ (.tail _ u_fl_X9_150)) (fun _ h9 => h9) rfl dX9_place_64 ?_
      refine lv_iload_n hx hb dX9_place_67 rfl (lv_at hl 1 rfl) ?_
      obtain ⟨hi_8, h⟩ := ox_chk h
      refine va_iald hx hb hK.1 hP 2 0 rfl rfl hi_8 dX9_place_68 ?_
      obtain rfl := Option.some.inj h
      exact k_iret hx hb hr hlk hP hD hS dX9_place_69
    have h := ox_f c_7 h
    refine lv_tableOut (tgt := 70) hx hb dX9_place_15 (tsw_out (hi := 2) (lt_s (lt_s (lt_s lt_0 c_3) c_5) c_7)) (by decide) ?_
    refine lv_ldc (v := (-1000000002 : Int32)) hx hb hown (hts _ (.tail _ u_k_X9_75)) dX9_place_70 ?_
    obtain rfl := Option.some.inj h
    exact k_iret hx hb hr hlk hP hD hS dX9_place_72
  · have h := ox_t c_2 h
    refine lv_ldc (v := (-1000000001 : Int32)) hx hb hown (hts _ (.tail _ u_k_X9_142)) dX9_place_11 ?_
    obtain rfl := Option.some.inj h
    exact k_iret hx hb hr hlk hP hD hS dX9_place_13
set_option maxRecDepth 100000 in
theorem c_X9_place (l : Launch) (g : gG) (q_t : Nat) (Q_t : Ad) (Q_t_flow : Ad) (Q_t_plan : Ad) (F_t : St) (F_t_flow : St) (F_t_plan : St) (x1 : Int32) (x2 : Int32) (o : Int32) (h : x_X9_place F_t F_t_flow F_t_plan x1 x2 = some o) (sz : Nat) : MetI l yX9_place (.code yX9_place cX9_place 3 (some .int) :: gW) 1 21 [.ref q_t, .int x1, .int x2] o g [oX9 q_t Q_t (F_t 10 0), oX0 (Q_t 3) Q_t_flow (F_t_flow 0 0) (F_t_flow 1 0), ia g (Q_t_flow 4) 8 (F_t_flow 4), oX4 (Q_t 1) Q_t_plan (F_t_plan 0 0) (F_t_plan 1 0) (F_t_plan 2 0), ia g (Q_t_plan 3) 8 (F_t_plan 3), ia g (Q_t_plan 4) 8 (F_t_plan 4)] [oX9 q_t Q_t (F_t 10 0), oX0 (Q_t 3) Q_t_flow (F_t_flow 0 0) (F_t_flow 1 0), ia g (Q_t_flow 4) 8 (F_t_flow 4), oX4 (Q_t 1) Q_t_plan (F_t_plan 0 0) (F_t_plan 1 0) (F_t_plan 2 0), ia g (Q_t_plan 3) 8 (F_t_plan 3), ia g (Q_t_plan 4) 8 (F_t_plan 4)] sz :=
  mkI (av := [.ref q_t, .int x1, .int x2]) (by decide +kernel) rfl (fun p e s m below meth c A E H locs ls hP hD hS hl => t_X9_place E q_t Q_t Q_t_flow Q_t_plan F_t F_t_flow F_t_plan x1 x2 o h H locs ls hP hD hS hl) sz
def x_X9_channel (F_t : St) (F_t_flow : St) (F_t_plan : St) (x1 : Int32) (x2 : Int32) : Option (Int32) :=
  Option.bind (x_X4_hasChannel F_t_plan x1) (fun v_1 => if v_1 = 0 then (some (-1000000001 : Int32)) else (if x2 = 0 then (if x1 < 0 ∨ 10 ≤ x1.toNatClampNeg then none else some ((F_t_plan 5) x1.toNatClampNeg)) else if x2 = 1 then (if x1 < 0 ∨ 10 ≤ x1.toNatClampNeg then none else some ((F_t_plan 6) x1.toNatClampNeg)) else if x2 = 2 then (if x1 < 0 ∨ 10 ≤ x1.toNatClampNeg then none else some ((F_t_plan 7) x1.toNatClampNeg)) else if x2 = 3 then (if x1 < 0 ∨ 10 ≤ x1.toNatClampNeg then none else some ((F_t_flow 2) x1.toNatClampNeg)) else if x2 = 4 then (Option.bind (x_X9_has (F_t_flow 1 0) x1) (fun v_12 => if v_12 = 0 then (some (0 : Int32)) else (some (1 : Int32)))) else if x2 = 5 then (if x1 < 0 ∨ 10 ≤ x1.toNatClampNeg then none else some ((F_t_flow 3) x1.toNatClampNeg)) else (some (-1000000002 : Int32))))
set_option maxHeartbeats 4000000 in
set_option maxRecDepth 100000 in
theorem t_X9_channel {p : Program} {l : Launch} {e : Env} {s : State} {m : MethodId} {args : Array Value} {below : List Frame} {meth : Method} {c : Code} {g : gG} {A : Nat → Prop} (E : En p s m args meth c g A cX9_channel 3 (.code yX9_channel cX9_channel 3 (some .int) :: gW) RX9 (some .int)) (q_t : Nat) (Q_t : Ad) (Q_t_flow : Ad) (Q_t_plan : Ad) (F_t : St) (F_t_flow : St) (F_t_plan : St) (x1 : Int32) (x2 : Int32) (o : Int32) (h : x_X9_channel F_t F_t_flow F_t_plan x1 x2 = some o) : WA p l e (rM 1 21) s m args below meth c g A (MQ below (QI g A o [oX9 q_t Q_t (F_t 10 0), oX0 (Q_t 3) Q_t_flow (F_t_flow 0 0) (F_t_flow 1 0), ia g (Q_t_flow 2) 10 (F_t_flow 2), ia g (Q_t_flow 3) 10 (F_t_flow 3), oX4 (Q_t 1) Q_t_plan (F_t_plan 0 0) (F_t_plan 1 0) (F_t_plan 2 0), ia g (Q_t_plan 5) 10 (F_t_plan 5), ia g (Q_t_plan 6) 10 (F_t_plan 6), ia g (Q_t_plan 7) 10 (F_t_plan 7)]) args s 0 0 A) 3 0 [oX9 q_t Q_t (F_t 10 0), oX0 (Q_t 3) Q_t_flow (F_t_flow 0 0) (F_t_flow 1 0), ia g (Q_t_flow 2) 10 (F_t_flow 2), ia g (Q_t_flow 3) 10 (F_t_flow 3), oX4 (Q_t 1) Q_t_plan (F_t_plan 0 0) (F_t_plan 1 0) (F_t_plan 2 0), ia g (Q_t_plan 5) 10 (F_t_plan 5), ia g (Q_t_plan 6) 10 (F_t_plan 6), ia g (Q_t_plan 7) 10 (F_t_plan 7)] [(0, .ref q_t), (1, .int x1), (2, .int x2)] [] := by
  obtain ⟨⟨hx, hb, hml, hown, hts⟩, hr, hK, hA, hlk⟩ := id E
  intro H locs ls hP hD hS hl
  refine lv_aload_n hx hb dX9_channel_0 rfl (lv_at hl 0 rfl) ?_
  refine va_get (ci := 9) (v := .ref (Q_t 1)) (C := RX9) (T := TX9) (N := 11) hx hb hts (fun w h => .tail _ (u_inX9 w h)) hown hK.1 hP 0 rfl rfl 1 (by decide) (hts _ (.tail _ u_fl_X9_19)) (fun _ h9 => h9) rfl dX9_channel_1 ?_
  refine lv_iload_n hx hb dX9_channel_4 rfl (lv_at hl 1 rfl) ?_
  obtain ⟨v_1, hv_1, h⟩ := ox_bind h
  refine kVi ⟨hx, hb, hml, hown, hts⟩ (c_X4_hasChannel l g (Q_t 1) Q_t_plan F_t_plan x1 v_1 hv_1 H.size) (gV u_ml_X9_153 u_im_X4_hasChannel u_se_X4_hasChannel u_ini_X4 u_co_X4_hasChannel) hd_X4_hasChannel ⟨rfl, rfl⟩ hK hP hD hS hA 4 4 rfl rfl [4] [1, 2, 3, 4, 0, 6, 7, 8] rfl rfl 1 rfl (w2 := [oX9 q_t Q_t (F_t 10 0), oX0 (Q_t 3) Q_t_flow (F_t_flow 0 0) (F_t_flow 1 0), ia g (Q_t_flow 2) 10 (F_t_flow 2), ia g (Q_t_flow 3) 10 (F_t_flow 3), oX4 (Q_t 1) Q_t_plan (F_t_plan 0 0) (F_t_plan 1 0) (F_t_plan 2 0), ia g (Q_t_plan 5) 10 (F_t_plan 5), ia g (Q_t_plan 6) 10 (F_t_plan 6), ia g (Q_t_plan 7) 10 (F_t_plan 7)]) rfl rfl (As := [.int x1]) (rest := []) rfl hl.1 rfl rfl dX9_channel_5 (fun H locs hP hD hS => ?_)
  refine lv_if_ne (tgt := 14) hx hb dX9_channel_8 (by decide) (fun c_2 => ?_) (fun c_2 => ?_)
  · have h := ox_f c_2 h
    refine lv_iload_n hx hb dX9_channel_14 rfl (lv_at hl 2 rfl) ?_
    by_cases c_3 : x2 = 0
    · have h := ox_t c_3 h
      refine lv_tableIn (off := 37) (tgt := 52) hx hb dX9_channel_15 (by rw [c_3]; decide) (by rw [c_3]; decide) (by rw [c_3]; rfl) (by decide) ?_
      refine lv_aload_n hx hb dX9_channel_52 rfl (lv_at hl 0 rfl) ?_
      refine va_get (ci := 9) (v := .ref (Q_t 1)) (C := RX9) (T := TX9) (N := 11) hx hb hts (fun w h => .tail _ (u_inX9 w h)) hown hK.1 hP 0 rfl rfl 1 (by decide) (hts _ (.tail _ u_fl_X9_19)) (fun _ h9 => h9) rfl dX9_channel_53 ?_
      refine va_get (ci := 4) (v := .ref (Q_t_plan 5)) (C := RX4) (T := TX4) (N := 9) hx hb hts (fun w h => .tail _ (u_inX4 w h)) hown hK.1 hP 4 rfl rfl 5 (by decide) (hts _ (.tail _ u_fl_X9_156)) (fun _ h9 => h9) rfl dX9_channel_56 ?_
      refine lv_iload_n hx hb dX9_channel_59 rfl (lv_at hl 1 rfl) ?_
      obtain ⟨hi_4, h⟩ := ox_chk h
      refine va_iald hx hb hK.1 hP 5 0 rfl rfl hi_4 dX9_channel_60 ?_
      obtain rfl := Option.some.inj h
      exact k_iret hx hb hr hlk hP hD hS dX9_channel_61
    have h := ox_f c_3 h
    by_cases c_5 : x2 = 1
    · have h := ox_t c_5 h
      refine lv_tableIn (off := 47) (tgt := 62) hx hb dX9_channel_15 (by rw [c_5]; decide) (by rw [c_5]; decide) (by rw [c_5]; rfl) (by decide) ?_
      refine lv_aload_n hx hb dX9_channel_62 rfl (lv_at hl 0 rfl) ?_
      refine va_get (ci := 9) (v := .ref (Q_t 1)) (C := RX9) (T := TX9) (N := 11) hx hb hts (fun w h => .tail _ (u_inX9 w h)) hown hK.1 hP 0 rfl rfl 1 (by decide) (hts _ (.tail _ u_fl_X9_19)) (fun _ h9 => h9) rfl dX9_channel_63 ?_
      refine va_get (ci := 4) (v := .ref (Q_t_plan 6)) (C := RX4) (T := TX4) (N := 9) hx hb hts (fun w h => .tail _ (u_inX4 w h)) hown hK.1 hP 4 rfl rfl 6 (by decide) (hts _ (.tail _ u_fl_X9_159)) (fun _ h9 => h9) rfl dX9_channel_66 ?_
      refine lv_iload_n hx hb dX9_channel_69 rfl (lv_at hl 1 rfl) ?_
      obtain ⟨hi_6, h⟩ := ox_chk h
      refine va_iald hx hb hK.1 hP 6 0 rfl rfl hi_6 dX9_channel_70 ?_
      obtain rfl := Option.some.inj h
      exact k_iret hx hb hr hlk hP hD hS dX9_channel_71
    have h := ox_f c_5 h
    by_cases c_7 : x2 = 2
    · have h := ox_t c_7 h
      refine lv_tableIn (off := 57) (tgt := 72) hx hb dX9_channel_15 (by rw [c_7]; decide) (by rw [c_7]; decide) (by rw [c_7]; rfl) (by decide) ?_
      refine lv_aload_n hx hb dX9_channel_72 rfl (lv_at hl 0 rfl) ?_
      refine va_get (ci := 9) (v := .ref (Q_t 1)) (C := RX9) (T := TX9) (N := 11) hx hb hts (fun w h => .tail _ (u_inX9 w h)) hown hK.1 hP 0 rfl rfl 1 (by decide) (hts _ (.tail _ u_fl_X9_19)) (fun _ h9 => h9) rfl dX9_channel_73 ?_
      refine va_get (ci := 4) (v := .ref (Q_t_plan 7)) (C := RX4) (T := TX4) (N := 9) hx hb hts (fun w h => .tail _ (u_inX4 w h)) hown hK.1 hP 4 rfl rfl 7 (by decide) (hts _ (.tail _ u_fl_X9_162)) (fun _ h9 => h9) rfl dX9_channel_76 ?_
      refine lv_iload_n hx hb dX9_channel_79 rfl (lv_at hl 1 rfl) ?_
      obtain ⟨hi_8, h⟩ := ox_chk h
      refine va_iald hx hb hK.1 hP 7 0 rfl rfl hi_8 dX9_channel_80 ?_
      obtain rfl := Option.some.inj h
      exact k_iret hx hb hr hlk hP hD hS dX9_channel_81
    have h := ox_f c_7 h
    by_cases c_9 : x2 = 3
    · have h := ox_t c_9 h
      refine lv_tableIn (off := 67) (tgt := 82) hx hb dX9_channel_15 (by rw [c_9]; decide) (by rw [c_9]; decide) (by rw [c_9]; rfl) (by decide) ?_
      refine lv_aload_n hx hb dX9_channel_82 rfl (lv_at hl 0 rfl) ?_
      refine va_get (ci := 9) (v := .ref (Q_t 3)) (C := RX9) (T := TX9) (N := 11) hx hb hts (fun w h => .tail _ (u_inX9 w h)) hown hK.1 hP 0 rfl rfl 3 (by decide) (hts _ (.tail _ u_fl_X9_29)) (fun _ h9 => h9) rfl dX9_channel_83 ?_
      refine va_get (ci := 0) (v := .ref (Q_t_flow 2)) (C := RX0) (T := TX0) (N := 7) hx hb hts (fun w h => .tail _ (u_inX0 w h)) hown hK.1 hP 1 rfl rfl 2 (by decide) (hts _ (.tail _ u_fl_X9_165)) (fun _ h9 => h9) rfl dX9_channel_86 ?_
      refine lv_iload_n hx hb dX9_channel_89 rfl (lv_at hl 1 rfl) ?_
      obtain ⟨hi_10, h⟩ := ox_chk h
      refine va_iald hx hb hK.1 hP 2 0 rfl rfl hi_10 dX9_channel_90 ?_
      obtain rfl := Option.some.inj h
      exact k_iret hx hb hr hlk hP hD hS dX9_channel_91
    have h := ox_f c_9 h
    by_cases c_11 : x2 = 4
    · have h := ox_t c_11 h
      refine lv_tableIn (off := 77) (tgt := 92) hx hb dX9_channel_15 (by rw [c_11]; decide) (by rw [c_11]; decide) (by rw [c_11]; rfl) (by decide) ?_
      refine lv_aload_n hx hb dX9_channel_92 rfl (lv_at hl 0 rfl) ?_
      refine va_get (ci := 9) (v := .ref (Q_t 3)) (C := RX9) (T := TX9) (N := 11) hx hb hts (fun w h => .tail _ (u_inX9 w h)) hown hK.1 hP 0 rfl rfl 3 (by decide) (hts _ (.tail _ u_fl_X9_29)) (fun _ h9 => h9) rfl dX9_channel_93 ?_
      refine va_get (ci := 0) (v := .int (F_t_flow 1 0)) (C := RX0) (T := TX0) (N := 7) hx hb hts (fun w h => .tail _ (u_inX0 w h)) hown hK.1 hP 1 rfl rfl 1 (by decide) (hts _ (.tail _ u_fl_X9_119)) (fun _ h9 => h9) rfl dX9_channel_96 ?_
      refine lv_iload_n hx hb dX9_channel_99 rfl (lv_at hl 1 rfl) ?_
      obtain ⟨v_12, hv_12, h⟩ := ox_bind h
      refine kSi ⟨hx, hb, hml, hown, hts⟩ (c_X9_has l g (F_t_flow 1 0) x1 v_12 hv_12 H.size) (gS u_ml_X9_168 u_st_X9_has u_ini_X9 u_co_X9_has) hd_X9_has ⟨rfl, rfl⟩ hK hP hD hS hA [] [0, 1, 2, 3, 4, 5, 6, 7] rfl rfl 0 rfl (w2 := [oX9 q_t Q_t (F_t 10 0), oX0 (Q_t 3) Q_t_flow (F_t_flow 0 0) (F_t_flow 1 0), ia g (Q_t_flow 2) 10 (F_t_flow 2), ia g (Q_t_flow 3) 10 (F_t_flow 3), oX4 (Q_t 1) Q_t_plan (F_t_plan 0 0) (F_t_plan 1 0) (F_t_plan 2 0), ia g (Q_t_plan 5) 10 (F_t_plan 5), ia g (Q_t_plan 6) 10 (F_t_plan 6), ia g (Q_t_plan 7) 10 (F_t_plan 7)]) rfl rfl (As := [.int (F_t_flow 1 0), .int x1]) (rest := []) rfl hl.1 rfl rfl dX9_channel_100 (fun H locs hP hD hS => ?_)
      refine lv_if_eq (tgt := 110) hx hb dX9_channel_103 (by decide) (fun c_13 => ?_) (fun c_13 => ?_)
      · have h := ox_t c_13 h
        refine lv_iconst (v := (0 : Int32)) hx hb dX9_channel_110 (by decide) ?_
        obtain rfl := Option.some.inj h
        exact k_iret hx hb hr hlk hP hD hS dX9_channel_111
      · have h := ox_f c_13 h
        refine lv_iconst (v := (1 : Int32)) hx hb dX9_channel_106 (by decide) ?_
        refine lv_goto (tgt := 111) hx hb dX9_channel_107 (by decide) ?_
        obtain rfl := Option.some.inj h
        exact k_iret hx hb hr hlk hP hD hS dX9_channel_111
    have h := ox_f c_11 h
    by_cases c_14 : x2 = 5
    · have h := ox_t c_14 h
      refine lv_tableIn (off := 97) (tgt := 112) hx hb dX9_channel_15 (by rw [c_14]; decide) (by rw [c_14]; decide) (by rw [c_14]; rfl) (by decide) ?_
      refine lv_aload_n hx hb dX9_channel_112 rfl (lv_at hl 0 rfl) ?_
      refine va_get (ci := 9) (v := .ref (Q_t 3)) (C := RX9) (T := TX9) (N := 11) hx hb hts (fun w h => .tail _ (u_inX9 w h)) hown hK.1 hP 0 rfl rfl 3 (by decide) (hts _ (.tail _ u_fl_X9_29)) (fun _ h9 => h9) rfl dX9_channel_113 ?_
      refine va_get (ci := 0) (v := .ref (Q_t_flow 3)) (C := RX0) (T := TX0) (N := 7) hx hb hts (fun w h => .tail _ (u_inX0 w h)) hown hK.1 hP 1 rfl rfl 3 (by decide) (hts _ (.tail _ u_fl_X9_172)) (fun _ h9 => h9) rfl dX9_channel_116 ?_
      refine lv_iload_n hx hb dX9_channel_119 rfl (lv_at hl 1 rfl) ?_
      obtain ⟨hi_15, h⟩ := ox_chk h
      refine va_iald hx hb hK.1 hP 3 0 rfl rfl hi_15 dX9_channel_120 ?_
      obtain rfl := Option.some.inj h
      exact k_iret hx hb hr hlk hP hD hS dX9_channel_121
    have h := ox_f c_14 h
    refine lv_tableOut (tgt := 122) hx hb dX9_channel_15 (tsw_out (hi := 5) (lt_s (lt_s (lt_s (lt_s (lt_s (lt_s lt_0 c_3) c_5) c_7) c_9) c_11) c_14)) (by decide) ?_
    refine lv_ldc (v := (-1000000002 : Int32)) hx hb hown (hts _ (.tail _ u_k_X9_75)) dX9_channel_122 ?_
    obtain rfl := Option.some.inj h
    exact k_iret hx hb hr hlk hP hD hS dX9_channel_124
  · have h := ox_t c_2 h
    refine lv_ldc (v := (-1000000001 : Int32)) hx hb hown (hts _ (.tail _ u_k_X9_142)) dX9_channel_11 ?_
    obtain rfl := Option.some.inj h
    exact k_iret hx hb hr hlk hP hD hS dX9_channel_13
set_option maxRecDepth 100000 in
theorem c_X9_channel (l : Launch) (g : gG) (q_t : Nat) (Q_t : Ad) (Q_t_flow : Ad) (Q_t_plan : Ad) (F_t : St) (F_t_flow : St) (F_t_plan : St) (x1 : Int32) (x2 : Int32) (o : Int32) (h : x_X9_channel F_t F_t_flow F_t_plan x1 x2 = some o) (sz : Nat) : MetI l yX9_channel (.code yX9_channel cX9_channel 3 (some .int) :: gW) 1 21 [.ref q_t, .int x1, .int x2] o g [oX9 q_t Q_t (F_t 10 0), oX0 (Q_t 3) Q_t_flow (F_t_flow 0 0) (F_t_flow 1 0), ia g (Q_t_flow 2) 10 (F_t_flow 2), ia g (Q_t_flow 3) 10 (F_t_flow 3), oX4 (Q_t 1) Q_t_plan (F_t_plan 0 0) (F_t_plan 1 0) (F_t_plan 2 0), ia g (Q_t_plan 5) 10 (F_t_plan 5), ia g (Q_t_plan 6) 10 (F_t_plan 6), ia g (Q_t_plan 7) 10 (F_t_plan 7)] [oX9 q_t Q_t (F_t 10 0), oX0 (Q_t 3) Q_t_flow (F_t_flow 0 0) (F_t_flow 1 0), ia g (Q_t_flow 2) 10 (F_t_flow 2), ia g (Q_t_flow 3) 10 (F_t_flow 3), oX4 (Q_t 1) Q_t_plan (F_t_plan 0 0) (F_t_plan 1 0) (F_t_plan 2 0), ia g (Q_t_plan 5) 10 (F_t_plan 5), ia g (Q_t_plan 6) 10 (F_t_plan 6), ia g (Q_t_plan 7) 10 (F_t_plan 7)] sz :=
  mkI (av := [.ref q_t, .int x1, .int x2]) (by decide +kernel) rfl (fun p e s m below meth c A E H locs ls hP hD hS hl => t_X9_channel E q_t Q_t Q_t_flow Q_t_plan F_t F_t_flow F_t_plan x1 x2 o h H locs ls hP hD hS hl) sz
def x_X9_first (F_t : St) (F_t_flow : St) (F_t_plan : St) (x1 : Int32) (x2 : Int32) : Option (Int32) :=
  Option.bind (x_X4_hasPlace F_t_plan x1) (fun v_1 => if v_1 = 0 then (some (-1000000001 : Int32)) else (Option.bind (x_X9_isSaying x2) (fun v_3 => if v_3 = 0 then (some (-1000000001 : Int32)) else (if ((x1 * (8 : Int32)) + x2) < 0 ∨ 64 ≤ ((x1 * (8 : Int32)) + x2).toNatClampNeg then none else some ((F_t_flow 5) ((x1 * (8 : Int32)) + x2).toNatClampNeg)))))
set_option maxHeartbeats 4000000 in
set_option maxRecDepth 100000 in
theorem t_X9_first {p : Program} {l : Launch} {e : Env} {s : State} {m : MethodId} {args : Array Value} {below : List Frame} {meth : Method} {c : Code} {g : gG} {A : Nat → Prop} (E : En p s m args meth c g A cX9_first 3 (.code yX9_first cX9_first 3 (some .int) :: gW) RX9 (some .int)) (q_t : Nat) (Q_t : Ad) (Q_t_flow : Ad) (Q_t_plan : Ad) (F_t : St) (F_t_flow : St) (F_t_plan : St) (x1 : Int32) (x2 : Int32) (o : Int32) (h : x_X9_first F_t F_t_flow F_t_plan x1 x2 = some o) : WA p l e (rM 1 21) s m args below meth c g A (MQ below (QI g A o [oX9 q_t Q_t (F_t 10 0), oX0 (Q_t 3) Q_t_flow (F_t_flow 0 0) (F_t_flow 1 0), ia g (Q_t_flow 5) 64 (F_t_flow 5), oX4 (Q_t 1) Q_t_plan (F_t_plan 0 0) (F_t_plan 1 0) (F_t_plan 2 0)]) args s 0 0 A) 3 0 [oX9 q_t Q_t (F_t 10 0), oX0 (Q_t 3) Q_t_flow (F_t_flow 0 0) (F_t_flow 1 0), ia g (Q_t_flow 5) 64 (F_t_flow 5), oX4 (Q_t 1) Q_t_plan (F_t_plan 0 0) (F_t_plan 1 0) (F_t_plan 2 0)] [(0, .ref q_t), (1, .int x1), (2, .int x2)] [] := by
  obtain ⟨⟨hx, hb, hml, hown, hts⟩, hr, hK, hA, hlk⟩ := id E
  intro H locs ls hP hD hS hl
  refine lv_aload_n hx hb dX9_first_0 rfl (lv_at hl 0 rfl) ?_
  refine va_get (ci := 9) (v := .ref (Q_t 1)) (C := RX9) (T := TX9) (N := 11) hx hb hts (fun w h => .tail _ (u_inX9 w h)) hown hK.1 hP 0 rfl rfl 1 (by decide) (hts _ (.tail _ u_fl_X9_19)) (fun _ h9 => h9) rfl dX9_first_1 ?_
  refine lv_iload_n hx hb dX9_first_4 rfl (lv_at hl 1 rfl) ?_
  obtain ⟨v_1, hv_1, h⟩ := ox_bind h
  refine kVi ⟨hx, hb, hml, hown, hts⟩ (c_X4_hasPlace l g (Q_t 1) Q_t_plan F_t_plan x1 v_1 hv_1 H.size) (gV u_ml_X9_139 u_im_X4_hasPlace u_se_X4_hasPlace u_ini_X4 u_co_X4_hasPlace) hd_X4_hasPlace ⟨rfl, rfl⟩ hK hP hD hS hA 3 4 rfl rfl [3] [1, 2, 3, 0] rfl rfl 1 rfl (w2 := [oX9 q_t Q_t (F_t 10 0), oX0 (Q_t 3) Q_t_flow (F_t_flow 0 0) (F_t_flow 1 0), ia g (Q_t_flow 5) 64 (F_t_flow 5), oX4 (Q_t 1) Q_t_plan (F_t_plan 0 0) (F_t_plan 1 0) (F_t_plan 2 0)]) rfl rfl (As := [.int x1]) (rest := []) rfl hl.1 rfl rfl dX9_first_5 (fun H locs hP hD hS => ?_)
  refine lv_if_eq (tgt := 18) hx hb dX9_first_8 (by decide) (fun c_2 => ?_) (fun c_2 => ?_)
  · have h := ox_t c_2 h
    refine lv_ldc (v := (-1000000001 : Int32)) hx hb hown (hts _ (.tail _ u_k_X9_142)) dX9_first_18 ?_
    obtain rfl := Option.some.inj h
    exact k_iret hx hb hr hlk hP hD hS dX9_first_20
  · have h := ox_f c_2 h
    refine lv_iload_n hx hb dX9_first_11 rfl (lv_at hl 2 rfl) ?_
    obtain ⟨v_3, hv_3, h⟩ := ox_bind h
    refine kSi ⟨hx, hb, hml, hown, hts⟩ (c_X9_isSaying l g x2 v_3 hv_3 H.size) (gS u_ml_X9_175 u_st_X9_isSaying u_ini_X9 u_co_X9_isSaying) hd_X9_isSaying ⟨rfl, rfl⟩ hK hP hD hS hA [] [0, 1, 2, 3] rfl rfl 0 rfl (w2 := [oX9 q_t Q_t (F_t 10 0), oX0 (Q_t 3) Q_t_flow (F_t_flow 0 0) (F_t_flow 1 0), ia g (Q_t_flow 5) 64 (F_t_flow 5), oX4 (Q_t 1) Q_t_plan (F_t_plan 0 0) (F_t_plan 1 0) (F_t_plan 2 0)]) rfl rfl (As := [.int x2]) (rest := []) rfl hl.1 rfl rfl dX9_first_12 (fun H locs hP hD hS => ?_)
    refine lv_if_ne (tgt := 21) hx hb dX9_first_15 (by decide) (fun c_4 => ?_) (fun c_4 => ?_)
    · have h := ox_f c_4 h
      refine lv_aload_n hx hb dX9_first_21 rfl (lv_at hl 0 rfl) ?_
      refine va_get (ci := 9) (v := .ref (Q_t 3)) (C := RX9) (T := TX9) (N := 11) hx hb hts (fun w h => .tail _ (u_inX9 w h)) hown hK.1 hP 0 rfl rfl 3 (by decide) (hts _ (.tail _ u_fl_X9_29)) (fun _ h9 => h9) rfl dX9_first_22 ?_
      refine va_get (ci := 0) (v := .ref (Q_t_flow 5)) (C := RX0) (T := TX0) (N := 7) hx hb hts (fun w h => .tail _ (u_inX0 w h)) hown hK.1 hP 1 rfl rfl 5 (by decide) (hts _ (.tail _ u_fl_X9_178)) (fun _ h9 => h9) rfl dX9_first_25 ?_
      refine lv_iload_n hx hb dX9_first_28 rfl (lv_at hl 1 rfl) ?_
      refine lv_bipush (v := (8 : Int32)) hx hb dX9_first_29 (by decide) ?_
      refine lv_imul hx hb dX9_first_31 ?_
      refine lv_iload_n hx hb dX9_first_32 rfl (lv_at hl 2 rfl) ?_
      refine lv_iadd hx hb dX9_first_33 ?_
      obtain ⟨hi_5, h⟩ := ox_chk h
      refine va_iald hx hb hK.1 hP 2 0 rfl rfl hi_5 dX9_first_34 ?_
      obtain rfl := Option.some.inj h
      exact k_iret hx hb hr hlk hP hD hS dX9_first_35
    · have h := ox_t c_4 h
      refine lv_ldc (v := (-1000000001 : Int32)) hx hb hown (hts _ (.tail _ u_k_X9_142)) dX9_first_18 ?_
      obtain rfl := Option.some.inj h
      exact k_iret hx hb hr hlk hP hD hS dX9_first_20
set_option maxRecDepth 100000 in
theorem c_X9_first (l : Launch) (g : gG) (q_t : Nat) (Q_t : Ad) (Q_t_flow : Ad) (Q_t_plan : Ad) (F_t : St) (F_t_flow : St) (F_t_plan : St) (x1 : Int32) (x2 : Int32) (o : Int32) (h : x_X9_first F_t F_t_flow F_t_plan x1 x2 = some o) (sz : Nat) : MetI l yX9_first (.code yX9_first cX9_first 3 (some .int) :: gW) 1 21 [.ref q_t, .int x1, .int x2] o g [oX9 q_t Q_t (F_t 10 0), oX0 (Q_t 3) Q_t_flow (F_t_flow 0 0) (F_t_flow 1 0), ia g (Q_t_flow 5) 64 (F_t_flow 5), oX4 (Q_t 1) Q_t_plan (F_t_plan 0 0) (F_t_plan 1 0) (F_t_plan 2 0)] [oX9 q_t Q_t (F_t 10 0), oX0 (Q_t 3) Q_t_flow (F_t_flow 0 0) (F_t_flow 1 0), ia g (Q_t_flow 5) 64 (F_t_flow 5), oX4 (Q_t 1) Q_t_plan (F_t_plan 0 0) (F_t_plan 1 0) (F_t_plan 2 0)] sz :=
  mkI (av := [.ref q_t, .int x1, .int x2]) (by decide +kernel) rfl (fun p e s m below meth c A E H locs ls hP hD hS hl => t_X9_first E q_t Q_t Q_t_flow Q_t_plan F_t F_t_flow F_t_plan x1 x2 o h H locs ls hP hD hS hl) sz
def x_X9_refusalOfHours (F_t : St) (F_t_flow : St) (F_t_plan : St) (x1 : Int32) : Option (Int32) :=
  if x1 < (1 : Int32) then (some (-1000000002 : Int32)) else (if x1 ≤ (60 : Int32) then (if (F_t_plan 1 0) = 0 then (some (-1000000003 : Int32)) else (if (F_t_flow 0 0) ≤ (9000 : Int32) then (some (0 : Int32)) else (some (-1000000004 : Int32)))) else (some (-1000000002 : Int32)))
set_option maxHeartbeats 4000000 in
set_option maxRecDepth 100000 in
theorem t_X9_refusalOfHours {p : Program} {l : Launch} {e : Env} {s : State} {m : MethodId} {args : Array Value} {below : List Frame} {meth : Method} {c : Code} {g : gG} {A : Nat → Prop} (E : En p s m args meth c g A cX9_refusalOfHours 2 (.code yX9_refusalOfHours cX9_refusalOfHours 2 (some .int) :: gW) RX9 (some .int)) (q_t : Nat) (Q_t : Ad) (Q_t_flow : Ad) (Q_t_plan : Ad) (F_t : St) (F_t_flow : St) (F_t_plan : St) (x1 : Int32) (o : Int32) (h : x_X9_refusalOfHours F_t F_t_flow F_t_plan x1 = some o) : WA p l e (rM 0 0) s m args below meth c g A (MQ below (QI g A o [oX9 q_t Q_t (F_t 10 0), oX0 (Q_t 3) Q_t_flow (F_t_flow 0 0) (F_t_flow 1 0), oX4 (Q_t 1) Q_t_plan (F_t_plan 0 0) (F_t_plan 1 0) (F_t_plan 2 0)]) args s 0 0 A) 2 0 [oX9 q_t Q_t (F_t 10 0), oX0 (Q_t 3) Q_t_flow (F_t_flow 0 0) (F_t_flow 1 0), oX4 (Q_t 1) Q_t_plan (F_t_plan 0 0) (F_t_plan 1 0) (F_t_plan 2 0)] [(0, .ref q_t), (1, .int x1)] [] := by
  obtain ⟨⟨hx, hb, hml, hown, hts⟩, hr, hK, hA, hlk⟩ := id E
  intro H locs ls hP hD hS hl
  refine lv_iload_n hx hb dX9_refusalOfHours_0 rfl (lv_at hl 1 rfl) ?_
  refine lv_iconst (v := (1 : Int32)) hx hb dX9_refusalOfHours_1 (by decide) ?_
  refine lv_icmp_lt (tgt := 11) hx hb dX9_refusalOfHours_2 (by decide) (fun c_1 => ?_) (fun c_1 => ?_)
  · have h := ox_t c_1 h
    refine lv_ldc (v := (-1000000002 : Int32)) hx hb hown (hts _ (.tail _ u_k_X9_75)) dX9_refusalOfHours_11 ?_
    obtain rfl := Option.some.inj h
    exact k_iret hx hb hr hlk hP hD hS dX9_refusalOfHours_13
  · have h := ox_f c_1 h
    refine lv_iload_n hx hb dX9_refusalOfHours_5 rfl (lv_at hl 1 rfl) ?_
    refine lv_bipush (v := (60 : Int32)) hx hb dX9_refusalOfHours_6 (by decide) ?_
    refine lv_icmp_le (tgt := 14) hx hb dX9_refusalOfHours_8 (by decide) (fun c_2 => ?_) (fun c_2 => ?_)
    · have h := ox_t c_2 h
      refine lv_aload_n hx hb dX9_refusalOfHours_14 rfl (lv_at hl 0 rfl) ?_
      refine va_get (ci := 9) (v := .ref (Q_t 1)) (C := RX9) (T := TX9) (N := 11) hx hb hts (fun w h => .tail _ (u_inX9 w h)) hown hK.1 hP 0 rfl rfl 1 (by decide) (hts _ (.tail _ u_fl_X9_19)) (fun _ h9 => h9) rfl dX9_refusalOfHours_15 ?_
      refine va_get (ci := 4) (v := .int (F_t_plan 1 0)) (C := RX4) (T := TX4) (N := 9) hx hb hts (fun w h => .tail _ (u_inX4 w h)) hown hK.1 hP 2 rfl rfl 1 (by decide) (hts _ (.tail _ u_fl_X9_104)) (fun _ h9 => h9) rfl dX9_refusalOfHours_18 ?_
      refine lv_if_ne (tgt := 27) hx hb dX9_refusalOfHours_21 (by decide) (fun c_3 => ?_) (fun c_3 => ?_)
      · have h := ox_f c_3 h
        refine lv_aload_n hx hb dX9_refusalOfHours_27 rfl (lv_at hl 0 rfl) ?_
        refine va_get (ci := 9) (v := .ref (Q_t 3)) (C := RX9) (T := TX9) (N := 11) hx hb hts (fun w h => .tail _ (u_inX9 w h)) hown hK.1 hP 0 rfl rfl 3 (by decide) (hts _ (.tail _ u_fl_X9_29)) (fun _ h9 => h9) rfl dX9_refusalOfHours_28 ?_
        refine va_get (ci := 0) (v := .int (F_t_flow 0 0)) (C := RX0) (T := TX0) (N := 7) hx hb hts (fun w h => .tail _ (u_inX0 w h)) hown hK.1 hP 1 rfl rfl 0 (by decide) (hts _ (.tail _ u_fl_X9_116)) (fun _ h9 => h9) rfl dX9_refusalOfHours_31 ?_
        refine lv_sipush (v := (9000 : Int32)) hx hb dX9_refusalOfHours_34 (by decide) ?_
        refine lv_icmp_le (tgt := 45) hx hb dX9_refusalOfHours_37 (by decide) (fun c_4 => ?_) (fun c_4 => ?_)
        · have h := ox_t c_4 h
          refine lv_iconst (v := (0 : Int32)) hx hb dX9_refusalOfHours_45 (by decide) ?_
          obtain rfl := Option.some.inj h
          exact k_iret hx hb hr hlk hP hD hS dX9_refusalOfHours_46
        · have h := ox_f c_4 h
          refine lv_ldc (v := (-1000000004 : Int32)) hx hb hown (hts _ (.tail _ u_k_X9_83)) dX9_refusalOfHours_40 ?_
          refine lv_goto (tgt := 46) hx hb dX9_refusalOfHours_42 (by decide) ?_
          obtain rfl := Option.some.inj h
          exact k_iret hx hb hr hlk hP hD hS dX9_refusalOfHours_46
      · have h := ox_t c_3 h
        refine lv_ldc (v := (-1000000003 : Int32)) hx hb hown (hts _ (.tail _ u_k_X9_181)) dX9_refusalOfHours_24 ?_
        obtain rfl := Option.some.inj h
        exact k_iret hx hb hr hlk hP hD hS dX9_refusalOfHours_26
    · have h := ox_f c_2 h
      refine lv_ldc (v := (-1000000002 : Int32)) hx hb hown (hts _ (.tail _ u_k_X9_75)) dX9_refusalOfHours_11 ?_
      obtain rfl := Option.some.inj h
      exact k_iret hx hb hr hlk hP hD hS dX9_refusalOfHours_13
set_option maxRecDepth 100000 in
theorem c_X9_refusalOfHours (l : Launch) (g : gG) (q_t : Nat) (Q_t : Ad) (Q_t_flow : Ad) (Q_t_plan : Ad) (F_t : St) (F_t_flow : St) (F_t_plan : St) (x1 : Int32) (o : Int32) (h : x_X9_refusalOfHours F_t F_t_flow F_t_plan x1 = some o) (sz : Nat) : MetI l yX9_refusalOfHours (.code yX9_refusalOfHours cX9_refusalOfHours 2 (some .int) :: gW) 0 0 [.ref q_t, .int x1] o g [oX9 q_t Q_t (F_t 10 0), oX0 (Q_t 3) Q_t_flow (F_t_flow 0 0) (F_t_flow 1 0), oX4 (Q_t 1) Q_t_plan (F_t_plan 0 0) (F_t_plan 1 0) (F_t_plan 2 0)] [oX9 q_t Q_t (F_t 10 0), oX0 (Q_t 3) Q_t_flow (F_t_flow 0 0) (F_t_flow 1 0), oX4 (Q_t 1) Q_t_plan (F_t_plan 0 0) (F_t_plan 1 0) (F_t_plan 2 0)] sz :=
  mkI (av := [.ref q_t, .int x1]) (by decide +kernel) rfl (fun p e s m below meth c A E H locs ls hP hD hS hl => t_X9_refusalOfHours E q_t Q_t Q_t_flow Q_t_plan F_t F_t_flow F_t_plan x1 o h H locs ls hP hD hS hl) sz
def x_X9_refusalOfTry (F_t : St) (F_t_plan : St) (x1 : Int32) (x2 : Int32) : Option (Int32) :=
  Option.bind (x_X4_hasPlace F_t_plan x2) (fun v_1 => if v_1 = 0 then (some (-1000000001 : Int32)) else (if x1 < 0 then (some (-1000000002 : Int32)) else (if x1 ≤ (255 : Int32) then (some (0 : Int32)) else (some (-1000000002 : Int32)))))
set_option maxHeartbeats 4000000 in
set_option maxRecDepth 100000 in
theorem t_X9_refusalOfTry {p : Program} {l : Launch} {e : Env} {s : State} {m : MethodId} {args : Array Value} {below : List Frame} {meth : Method} {c : Code} {g : gG} {A : Nat → Prop} (E : En p s m args meth c g A cX9_refusalOfTry 3 (.code yX9_refusalOfTry cX9_refusalOfTry 3 (some .int) :: gW) RX9 (some .int)) (q_t : Nat) (Q_t : Ad) (Q_t_plan : Ad) (F_t : St) (F_t_plan : St) (x1 : Int32) (x2 : Int32) (o : Int32) (h : x_X9_refusalOfTry F_t F_t_plan x1 x2 = some o) : WA p l e (rM 1 21) s m args below meth c g A (MQ below (QI g A o [oX9 q_t Q_t (F_t 10 0), oX4 (Q_t 1) Q_t_plan (F_t_plan 0 0) (F_t_plan 1 0) (F_t_plan 2 0)]) args s 0 0 A) 3 0 [oX9 q_t Q_t (F_t 10 0), oX4 (Q_t 1) Q_t_plan (F_t_plan 0 0) (F_t_plan 1 0) (F_t_plan 2 0)] [(0, .ref q_t), (1, .int x1), (2, .int x2)] [] := by
  obtain ⟨⟨hx, hb, hml, hown, hts⟩, hr, hK, hA, hlk⟩ := id E
  intro H locs ls hP hD hS hl
  refine lv_aload_n hx hb dX9_refusalOfTry_0 rfl (lv_at hl 0 rfl) ?_
  refine va_get (ci := 9) (v := .ref (Q_t 1)) (C := RX9) (T := TX9) (N := 11) hx hb hts (fun w h => .tail _ (u_inX9 w h)) hown hK.1 hP 0 rfl rfl 1 (by decide) (hts _ (.tail _ u_fl_X9_19)) (fun _ h9 => h9) rfl dX9_refusalOfTry_1 ?_
  refine lv_iload_n hx hb dX9_refusalOfTry_4 rfl (lv_at hl 2 rfl) ?_
  obtain ⟨v_1, hv_1, h⟩ := ox_bind h
  refine kVi ⟨hx, hb, hml, hown, hts⟩ (c_X4_hasPlace l g (Q_t 1) Q_t_plan F_t_plan x2 v_1 hv_1 H.size) (gV u_ml_X9_139 u_im_X4_hasPlace u_se_X4_hasPlace u_ini_X4 u_co_X4_hasPlace) hd_X4_hasPlace ⟨rfl, rfl⟩ hK hP hD hS hA 1 4 rfl rfl [1] [1, 0] rfl rfl 1 rfl (w2 := [oX9 q_t Q_t (F_t 10 0), oX4 (Q_t 1) Q_t_plan (F_t_plan 0 0) (F_t_plan 1 0) (F_t_plan 2 0)]) rfl rfl (As := [.int x2]) (rest := []) rfl hl.1 rfl rfl dX9_refusalOfTry_5 (fun H locs hP hD hS => ?_)
  refine lv_if_ne (tgt := 14) hx hb dX9_refusalOfTry_8 (by decide) (fun c_2 => ?_) (fun c_2 => ?_)
  · have h := ox_f c_2 h
    refine lv_iload_n hx hb dX9_refusalOfTry_14 rfl (lv_at hl 1 rfl) ?_
    refine lv_if_lt (tgt := 25) hx hb dX9_refusalOfTry_15 (by decide) (fun c_3 => ?_) (fun c_3 => ?_)
    · have h := ox_t c_3 h
      refine lv_ldc (v := (-1000000002 : Int32)) hx hb hown (hts _ (.tail _ u_k_X9_75)) dX9_refusalOfTry_25 ?_
      refine lv_goto (tgt := 31) hx hb dX9_refusalOfTry_27 (by decide) ?_
      obtain rfl := Option.some.inj h
      exact k_iret hx hb hr hlk hP hD hS dX9_refusalOfTry_31
    · have h := ox_f c_3 h
      refine lv_iload_n hx hb dX9_refusalOfTry_18 rfl (lv_at hl 1 rfl) ?_
      refine lv_sipush (v := (255 : Int32)) hx hb dX9_refusalOfTry_19 (by decide) ?_
      refine lv_icmp_le (tgt := 30) hx hb dX9_refusalOfTry_22 (by decide) (fun c_4 => ?_) (fun c_4 => ?_)
      · have h := ox_t c_4 h
        refine lv_iconst (v := (0 : Int32)) hx hb dX9_refusalOfTry_30 (by decide) ?_
        obtain rfl := Option.some.inj h
        exact k_iret hx hb hr hlk hP hD hS dX9_refusalOfTry_31
      · have h := ox_f c_4 h
        refine lv_ldc (v := (-1000000002 : Int32)) hx hb hown (hts _ (.tail _ u_k_X9_75)) dX9_refusalOfTry_25 ?_
        refine lv_goto (tgt := 31) hx hb dX9_refusalOfTry_27 (by decide) ?_
        obtain rfl := Option.some.inj h
        exact k_iret hx hb hr hlk hP hD hS dX9_refusalOfTry_31
  · have h := ox_t c_2 h
    refine lv_ldc (v := (-1000000001 : Int32)) hx hb hown (hts _ (.tail _ u_k_X9_142)) dX9_refusalOfTry_11 ?_
    obtain rfl := Option.some.inj h
    exact k_iret hx hb hr hlk hP hD hS dX9_refusalOfTry_13
set_option maxRecDepth 100000 in
theorem c_X9_refusalOfTry (l : Launch) (g : gG) (q_t : Nat) (Q_t : Ad) (Q_t_plan : Ad) (F_t : St) (F_t_plan : St) (x1 : Int32) (x2 : Int32) (o : Int32) (h : x_X9_refusalOfTry F_t F_t_plan x1 x2 = some o) (sz : Nat) : MetI l yX9_refusalOfTry (.code yX9_refusalOfTry cX9_refusalOfTry 3 (some .int) :: gW) 1 21 [.ref q_t, .int x1, .int x2] o g [oX9 q_t Q_t (F_t 10 0), oX4 (Q_t 1) Q_t_plan (F_t_plan 0 0) (F_t_plan 1 0) (F_t_plan 2 0)] [oX9 q_t Q_t (F_t 10 0), oX4 (Q_t 1) Q_t_plan (F_t_plan 0 0) (F_t_plan 1 0) (F_t_plan 2 0)] sz :=
  mkI (av := [.ref q_t, .int x1, .int x2]) (by decide +kernel) rfl (fun p e s m below meth c A E H locs ls hP hD hS hl => t_X9_refusalOfTry E q_t Q_t Q_t_plan F_t F_t_plan x1 x2 o h H locs ls hP hD hS hl) sz
def x_X9_stepSeed (F_t : St) : Option (Int32) :=
  xl ((((F_t 10 0) * (1103515245 : Int32)) + (12345 : Int32)) &&& (2147483647 : Int32)) (fun y_1 => some y_1)
set_option maxHeartbeats 4000000 in
set_option maxRecDepth 100000 in
theorem t_X9_stepSeed {p : Program} {l : Launch} {e : Env} {s : State} {m : MethodId} {args : Array Value} {below : List Frame} {meth : Method} {c : Code} {g : gG} {A : Nat → Prop} (E : En p s m args meth c g A cX9_stepSeed 1 (.code yX9_stepSeed cX9_stepSeed 1 none :: gW) RX9 none) (q_t : Nat) (Q_t : Ad) (F_t : St) (o : Int32) (h : x_X9_stepSeed F_t = some o) : WA p l e (rM 0 0) s m args below meth c g A (MQ below (QV g A [oX9 q_t Q_t o]) args s 0 0 A) 1 0 [oX9 q_t Q_t (F_t 10 0)] [(0, .ref q_t)] [] := by
  obtain ⟨⟨hx, hb, hml, hown, hts⟩, hr, hK, hA, hlk⟩ := id E
  intro H locs ls hP hD hS hl
  refine lv_aload_n hx hb dX9_stepSeed_0 rfl (lv_at hl 0 rfl) ?_
  refine lv_aload_n hx hb dX9_stepSeed_1 rfl (lv_at hl 0 rfl) ?_
  refine va_get (ci := 9) (v := .int (F_t 10 0)) (C := RX9) (T := TX9) (N := 11) hx hb hts (fun w h => .tail _ (u_inX9 w h)) hown hK.1 hP 0 rfl rfl 10 (by decide) (hts _ (.tail _ u_fl_X9_70)) (fun _ h9 => h9) rfl dX9_stepSeed_2 ?_
  refine lv_ldcw (v := (1103515245 : Int32)) hx hb hown (hts _ (.tail _ u_k_X9_275)) dX9_stepSeed_5 ?_
  refine lv_imul hx hb dX9_stepSeed_8 ?_
  refine lv_sipush (v := (12345 : Int32)) hx hb dX9_stepSeed_9 (by decide) ?_
  refine lv_iadd hx hb dX9_stepSeed_12 ?_
  refine lv_ldcw (v := (2147483647 : Int32)) hx hb hown (hts _ (.tail _ u_k_X9_276)) dX9_stepSeed_13 ?_
  refine lv_iand hx hb dX9_stepSeed_16 ?_
  refine lv_topi (fun y_1 ey_1 => ?_)
  have h := xl_at ey_1 h
  refine va_put (ci := 9) (v := .int y_1) (ty := .int) (C := RX9) (T := TX9) (N := 11) hx hb hts (fun w h => .tail _ (u_inX9 w h)) tyX9 tyX9_ok nmX9 hown hK.1 hP hD hS 0 rfl rfl 10 (by decide) (hts _ (.tail _ u_fl_X9_70)) (fun _ h9 => h9) rfl (tyX9_ok 10 (by decide)) rfl rfl (Nat.le_of_ble_eq_true rfl) dX9_stepSeed_17 (fun H locs hP hD hS => ?_)
  have hP : va_P g.1 vwCl [oX9 q_t Q_t y_1] H := hP
  have hD : va_D A [oX9 q_t Q_t y_1] := hD
  obtain rfl := Option.some.inj h
  exact k_vret hx hb hr hlk hP hD hS dX9_stepSeed_20
set_option maxRecDepth 100000 in
theorem c_X9_stepSeed (l : Launch) (g : gG) (q_t : Nat) (Q_t : Ad) (F_t : St) (o : Int32) (h : x_X9_stepSeed F_t = some o) (sz : Nat) : MetV l yX9_stepSeed (.code yX9_stepSeed cX9_stepSeed 1 none :: gW) 0 0 [.ref q_t] g [oX9 q_t Q_t (F_t 10 0)] [oX9 q_t Q_t o] sz :=
  mkV (av := [.ref q_t]) (by decide +kernel) rfl (fun p e s m below meth c A E H locs ls hP hD hS hl => t_X9_stepSeed E q_t Q_t F_t o h H locs ls hP hD hS hl) sz
def x_X9_drawThird (F_t : St) : Option (Int32 × Int32) :=
  Option.bind (x_X9_stepSeed F_t) (fun v_1 => some (((v_1 / (65536 : Int32)) - (v_1 / (65536 : Int32)) / (3 : Int32) * (3 : Int32)), v_1))
set_option maxHeartbeats 4000000 in
set_option maxRecDepth 100000 in
theorem t_X9_drawThird {p : Program} {l : Launch} {e : Env} {s : State} {m : MethodId} {args : Array Value} {below : List Frame} {meth : Method} {c : Code} {g : gG} {A : Nat → Prop} (E : En p s m args meth c g A cX9_drawThird 1 (.code yX9_drawThird cX9_drawThird 1 (some .int) :: gW) RX9 (some .int)) (q_t : Nat) (Q_t : Ad) (F_t : St) (o : Int32 × Int32) (h : x_X9_drawThird F_t = some o) : WA p l e (rM 1 20) s m args below meth c g A (MQ below (QI g A o.1 [oX9 q_t Q_t o.2]) args s 0 0 A) 1 0 [oX9 q_t Q_t (F_t 10 0)] [(0, .ref q_t)] [] := by
  obtain ⟨⟨hx, hb, hml, hown, hts⟩, hr, hK, hA, hlk⟩ := id E
  intro H locs ls hP hD hS hl
  refine lv_aload_n hx hb dX9_drawThird_0 rfl (lv_at hl 0 rfl) ?_
  obtain ⟨v_1, hv_1, h⟩ := ox_bind h
  refine kVv ⟨hx, hb, hml, hown, hts⟩ (c_X9_stepSeed l g q_t Q_t F_t v_1 hv_1 H.size) (gV u_ml_X9_271 u_im_X9_stepSeed u_se_X9_stepSeed u_ini_X9 u_co_X9_stepSeed) hd_X9_stepSeed ⟨rfl, rfl⟩ hK hP hD hS hA 0 9 rfl rfl [0] [0] rfl rfl 1 rfl (w2 := [oX9 q_t Q_t v_1]) rfl rfl (As := []) (rest := []) rfl hl.1 rfl rfl dX9_drawThird_1 (fun H locs hP hD hS => ?_)
  refine lv_aload_n hx hb dX9_drawThird_4 rfl (lv_at hl 0 rfl) ?_
  refine va_get (ci := 9) (v := .int v_1) (C := RX9) (T := TX9) (N := 11) hx hb hts (fun w h => .tail _ (u_inX9 w h)) hown hK.1 hP 0 rfl rfl 10 (by decide) (hts _ (.tail _ u_fl_X9_70)) (fun _ h9 => h9) rfl dX9_drawThird_5 ?_
  refine lv_ldcw (v := (65536 : Int32)) hx hb hown (hts _ (.tail _ u_k_X9_274)) dX9_drawThird_8 ?_
  refine lv_idiv hx hb dX9_drawThird_11 (by decide) ?_
  refine lv_iconst (v := (3 : Int32)) hx hb dX9_drawThird_12 (by decide) ?_
  refine lv_irem hx hb dX9_drawThird_13 (by decide) ?_
  obtain rfl := Option.some.inj h
  exact k_iret hx hb hr hlk hP hD hS dX9_drawThird_14
set_option maxRecDepth 100000 in
theorem c_X9_drawThird (l : Launch) (g : gG) (q_t : Nat) (Q_t : Ad) (F_t : St) (o : Int32 × Int32) (h : x_X9_drawThird F_t = some o) (sz : Nat) : MetI l yX9_drawThird (.code yX9_drawThird cX9_drawThird 1 (some .int) :: gW) 1 20 [.ref q_t] o.1 g [oX9 q_t Q_t (F_t 10 0)] [oX9 q_t Q_t o.2] sz :=
  mkI (av := [.ref q_t]) (by decide +kernel) rfl (fun p e s m below meth c A E H locs ls hP hD hS hl => t_X9_drawThird E q_t Q_t F_t o h H locs ls hP hD hS hl) sz
def x_X9_drawSaying (F_t : St) : Option (Int32 × Int32) :=
  Option.bind (x_X9_stepSeed F_t) (fun v_1 => some (((v_1 / (65536 : Int32)) - (v_1 / (65536 : Int32)) / (8 : Int32) * (8 : Int32)), v_1))
set_option maxHeartbeats 4000000 in
set_option maxRecDepth 100000 in
theorem t_X9_drawSaying {p : Program} {l : Launch} {e : Env} {s : State} {m : MethodId} {args : Array Value} {below : List Frame} {meth : Method} {c : Code} {g : gG} {A : Nat → Prop} (E : En p s m args meth c g A cX9_drawSaying 1 (.code yX9_drawSaying cX9_drawSaying 1 (some .int) :: gW) RX9 (some .int)) (q_t : Nat) (Q_t : Ad) (F_t : St) (o : Int32 × Int32) (h : x_X9_drawSaying F_t = some o) : WA p l e (rM 1 20) s m args below meth c g A (MQ below (QI g A o.1 [oX9 q_t Q_t o.2]) args s 0 0 A) 1 0 [oX9 q_t Q_t (F_t 10 0)] [(0, .ref q_t)] [] := by
  obtain ⟨⟨hx, hb, hml, hown, hts⟩, hr, hK, hA, hlk⟩ := id E
  intro H locs ls hP hD hS hl
  refine lv_aload_n hx hb dX9_drawSaying_0 rfl (lv_at hl 0 rfl) ?_
  obtain ⟨v_1, hv_1, h⟩ := ox_bind h
  refine kVv ⟨hx, hb, hml, hown, hts⟩ (c_X9_stepSeed l g q_t Q_t F_t v_1 hv_1 H.size) (gV u_ml_X9_271 u_im_X9_stepSeed u_se_X9_stepSeed u_ini_X9 u_co_X9_stepSeed) hd_X9_stepSeed ⟨rfl, rfl⟩ hK hP hD hS hA 0 9 rfl rfl [0] [0] rfl rfl 1 rfl (w2 := [oX9 q_t Q_t v_1]) rfl rfl (As := []) (rest := []) rfl hl.1 rfl rfl dX9_drawSaying_1 (fun H locs hP hD hS => ?_)
  refine lv_aload_n hx hb dX9_drawSaying_4 rfl (lv_at hl 0 rfl) ?_
  refine va_get (ci := 9) (v := .int v_1) (C := RX9) (T := TX9) (N := 11) hx hb hts (fun w h => .tail _ (u_inX9 w h)) hown hK.1 hP 0 rfl rfl 10 (by decide) (hts _ (.tail _ u_fl_X9_70)) (fun _ h9 => h9) rfl dX9_drawSaying_5 ?_
  refine lv_ldcw (v := (65536 : Int32)) hx hb hown (hts _ (.tail _ u_k_X9_274)) dX9_drawSaying_8 ?_
  refine lv_idiv hx hb dX9_drawSaying_11 (by decide) ?_
  refine lv_bipush (v := (8 : Int32)) hx hb dX9_drawSaying_12 (by decide) ?_
  refine lv_irem hx hb dX9_drawSaying_14 (by decide) ?_
  obtain rfl := Option.some.inj h
  exact k_iret hx hb hr hlk hP hD hS dX9_drawSaying_15
set_option maxRecDepth 100000 in
theorem c_X9_drawSaying (l : Launch) (g : gG) (q_t : Nat) (Q_t : Ad) (F_t : St) (o : Int32 × Int32) (h : x_X9_drawSaying F_t = some o) (sz : Nat) : MetI l yX9_drawSaying (.code yX9_drawSaying cX9_drawSaying 1 (some .int) :: gW) 1 20 [.ref q_t] o.1 g [oX9 q_t Q_t (F_t 10 0)] [oX9 q_t Q_t o.2] sz :=
  mkI (av := [.ref q_t]) (by decide +kernel) rfl (fun p e s m below meth c A E H locs ls hP hD hS hl => t_X9_drawSaying E q_t Q_t F_t o h H locs ls hP hD hS hl) sz
def x_X9_tryOut_b37 (N : Nat) (F_t : St) (F_t_flow : St) (F_t_plan : St) (F_t_trial : St) (x2 : Int32) : Option ((Int32 × Int32 × (Nat → Int32) × (Nat → Int32) × (Nat → Int32) × (Nat → Int32)) ⊕ (Int32 × (Nat → Int32) × (Nat → Int32) × (Nat → Int32) × (Nat → Int32))) :=
  if (60 : Int32) < x2 then (some (.inr ((F_t_trial 0 0), (F_t_trial 2), (F_t_trial 4), (F_t_trial 5), (F_t_trial 6)))) else (Option.bind (x_X0_passHour N F_t_trial F_t_plan) (fun v_5 => some (.inl ((x2 + (1 : Int32)), v_5.1, v_5.2.1, v_5.2.2.1, v_5.2.2.2.1, v_5.2.2.2.2))))
set_option maxHeartbeats 4000000 in
set_option maxRecDepth 100000 in
theorem t_X9_tryOut_b37 {p : Program} {l : Launch} {e : Env} {s : State} {m : MethodId} {args : Array Value} {below : List Frame} {meth : Method} {c : Code} {g : gG} {A : Nat → Prop} {Q : State → Prop} (E : En p s m args meth c g A cX9_tryOut 3 (.code yX9_tryOut cX9_tryOut 3 none :: gW) RX9 none) (q_t : Nat) (Q_t : Ad) (Q_t_flow : Ad) (Q_t_plan : Ad) (Q_t_trial : Ad) (N : Nat) (F_t : St) (F_t_flow : St) (F_t_plan : St) (F_t_trial : St) (x2 : Int32) (o : (Int32 × Int32 × (Nat → Int32) × (Nat → Int32) × (Nat → Int32) × (Nat → Int32)) ⊕ (Int32 × (Nat → Int32) × (Nat → Int32) × (Nat → Int32) × (Nat → Int32))) (h : x_X9_tryOut_b37 N F_t F_t_flow F_t_plan F_t_trial x2 = some o) (hc : ∀ z, o = .inl z → WA p l e (rM 4 93) s m args below meth c g A Q 3 37 [oX9 q_t Q_t (F_t 10 0), oX0 (Q_t 3) Q_t_flow (F_t_flow 0 0) (F_t_flow 1 0), ia g (Q_t_flow 2) 10 (F_t_flow 2), ia g (Q_t_flow 3) 10 (F_t_flow 3), ia g (Q_t_flow 4) 8 (F_t_flow 4), ia g (Q_t_flow 5) 64 (F_t_flow 5), ia g (Q_t_flow 6) 80 (F_t_flow 6), oX4 (Q_t 1) Q_t_plan (F_t_plan 0 0) (F_t_plan 1 0) (F_t_plan 2 0), ia g (Q_t_plan 3) 8 (F_t_plan 3), ia g (Q_t_plan 5) 10 (F_t_plan 5), ia g (Q_t_plan 6) 10 (F_t_plan 6), ia g (Q_t_plan 7) 10 (F_t_plan 7), oX0 (Q_t 4) Q_t_trial z.2.1 (F_t_trial 1 0), ia g (Q_t_trial 2) 10 z.2.2.1, ia g (Q_t_trial 3) 10 (F_t_trial 3), ia g (Q_t_trial 4) 8 z.2.2.2.1, ia g (Q_t_trial 5) 64 z.2.2.2.2.1, ia g (Q_t_trial 6) 80 z.2.2.2.2.2] [(0, .ref q_t), (2, .int z.1)] []) (he : ∀ v, o = .inr v → WA p l e (rM 4 93) s m args below meth c g A Q 3 60 [oX9 q_t Q_t (F_t 10 0), oX0 (Q_t 3) Q_t_flow (F_t_flow 0 0) (F_t_flow 1 0), ia g (Q_t_flow 2) 10 (F_t_flow 2), ia g (Q_t_flow 3) 10 (F_t_flow 3), ia g (Q_t_flow 4) 8 (F_t_flow 4), ia g (Q_t_flow 5) 64 (F_t_flow 5), ia g (Q_t_flow 6) 80 (F_t_flow 6), oX4 (Q_t 1) Q_t_plan (F_t_plan 0 0) (F_t_plan 1 0) (F_t_plan 2 0), ia g (Q_t_plan 3) 8 (F_t_plan 3), ia g (Q_t_plan 5) 10 (F_t_plan 5), ia g (Q_t_plan 6) 10 (F_t_plan 6), ia g (Q_t_plan 7) 10 (F_t_plan 7), oX0 (Q_t 4) Q_t_trial v.1 (F_t_trial 1 0), ia g (Q_t_trial 2) 10 v.2.1, ia g (Q_t_trial 3) 10 (F_t_trial 3), ia g (Q_t_trial 4) 8 v.2.2.1, ia g (Q_t_trial 5) 64 v.2.2.2.1, ia g (Q_t_trial 6) 80 v.2.2.2.2] [] []) : WA p l e (rM 4 93) s m args below meth c g A Q 3 37 [oX9 q_t Q_t (F_t 10 0), oX0 (Q_t 3) Q_t_flow (F_t_flow 0 0) (F_t_flow 1 0), ia g (Q_t_flow 2) 10 (F_t_flow 2), ia g (Q_t_flow 3) 10 (F_t_flow 3), ia g (Q_t_flow 4) 8 (F_t_flow 4), ia g (Q_t_flow 5) 64 (F_t_flow 5), ia g (Q_t_flow 6) 80 (F_t_flow 6), oX4 (Q_t 1) Q_t_plan (F_t_plan 0 0) (F_t_plan 1 0) (F_t_plan 2 0), ia g (Q_t_plan 3) 8 (F_t_plan 3), ia g (Q_t_plan 5) 10 (F_t_plan 5), ia g (Q_t_plan 6) 10 (F_t_plan 6), ia g (Q_t_plan 7) 10 (F_t_plan 7), oX0 (Q_t 4) Q_t_trial (F_t_trial 0 0) (F_t_trial 1 0), ia g (Q_t_trial 2) 10 (F_t_trial 2), ia g (Q_t_trial 3) 10 (F_t_trial 3), ia g (Q_t_trial 4) 8 (F_t_trial 4), ia g (Q_t_trial 5) 64 (F_t_trial 5), ia g (Q_t_trial 6) 80 (F_t_trial 6)] [(0, .ref q_t), (2, .int x2)] [] := by
  obtain ⟨⟨hx, hb, hml, hown, hts⟩, hr, hK, hA, hlk⟩ := id E
  intro H locs ls hP hD hS hl
  refine lv_iload_n hx hb dX9_tryOut_37 rfl (lv_at hl 1 rfl) ?_
  refine lv_bipush (v := (60 : Int32)) hx hb dX9_tryOut_38 (by decide) ?_
  refine lv_icmp_gt (tgt := 60) hx hb dX9_tryOut_40 (by decide) (fun c_4 => ?_) (fun c_4 => ?_)
  · have h := ox_t c_4 h
    obtain rfl := Option.some.inj h
    exact he _ rfl H locs ls hP hD hS (lv_sub hl [] rfl)
  · have h := ox_f c_4 h
    refine lv_aload_n hx hb dX9_tryOut_43 rfl (lv_at hl 0 rfl) ?_
    refine va_get (ci := 9) (v := .ref (Q_t 4)) (C := RX9) (T := TX9) (N := 11) hx hb hts (fun w h => .tail _ (u_inX9 w h)) hown hK.1 hP 0 rfl rfl 4 (by decide) (hts _ (.tail _ u_fl_X9_33)) (fun _ h9 => h9) rfl dX9_tryOut_44 ?_
    refine lv_aload_n hx hb dX9_tryOut_47 rfl (lv_at hl 0 rfl) ?_
    refine va_get (ci := 9) (v := .ref (Q_t 1)) (C := RX9) (T := TX9) (N := 11) hx hb hts (fun w h => .tail _ (u_inX9 w h)) hown hK.1 hP 0 rfl rfl 1 (by decide) (hts _ (.tail _ u_fl_X9_19)) (fun _ h9 => h9) rfl dX9_tryOut_48 ?_
    obtain ⟨v_5, hv_5, h⟩ := ox_bind h
    refine kVv ⟨hx, hb, hml, hown, hts⟩ (c_X0_passHour l g (Q_t 4) Q_t_trial (Q_t 1) Q_t_plan N F_t_trial F_t_plan v_5 hv_5 H.size) (gV u_ml_X9_193 u_im_X0_passHour u_se_X0_passHour u_ini_X0 u_co_X0_passHour) hd_X0_passHour ⟨rfl, rfl⟩ hK hP hD hS hA 12 0 rfl rfl [12, 13, 14, 15, 16, 17, 7, 8, 9, 10, 11] [11, 12, 13, 14, 15, 16, 17, 6, 7, 8, 9, 10, 0, 1, 2, 3, 4, 5] rfl rfl 11 rfl (w2 := [oX9 q_t Q_t (F_t 10 0), oX0 (Q_t 3) Q_t_flow (F_t_flow 0 0) (F_t_flow 1 0), ia g (Q_t_flow 2) 10 (F_t_flow 2), ia g (Q_t_flow 3) 10 (F_t_flow 3), ia g (Q_t_flow 4) 8 (F_t_flow 4), ia g (Q_t_flow 5) 64 (F_t_flow 5), ia g (Q_t_flow 6) 80 (F_t_flow 6), oX4 (Q_t 1) Q_t_plan (F_t_plan 0 0) (F_t_plan 1 0) (F_t_plan 2 0), ia g (Q_t_plan 3) 8 (F_t_plan 3), ia g (Q_t_plan 5) 10 (F_t_plan 5), ia g (Q_t_plan 6) 10 (F_t_plan 6), ia g (Q_t_plan 7) 10 (F_t_plan 7), oX0 (Q_t 4) Q_t_trial v_5.1 (F_t_trial 1 0), ia g (Q_t_trial 2) 10 v_5.2.1, ia g (Q_t_trial 3) 10 (F_t_trial 3), ia g (Q_t_trial 4) 8 v_5.2.2.1, ia g (Q_t_trial 5) 64 v_5.2.2.2.1, ia g (Q_t_trial 6) 80 v_5.2.2.2.2]) rfl rfl (As := [.ref (Q_t 1)]) (rest := []) rfl hl.1 rfl rfl dX9_tryOut_51 (fun H locs hP hD hS => ?_)
    refine lv_iinc (v := (x2 + (1 : Int32))) (lv' := [(2, .int (x2 + (1 : Int32))), (0, .ref q_t)]) hx hb dX9_tryOut_54 hl (k := 1) rfl rfl (by decide) rfl (fun ls hl => ?_)
    refine lv_goto (tgt := 37) hx hb dX9_tryOut_57 (by decide) ?_
    obtain rfl := Option.some.inj h
    exact hc _ rfl H locs ls hP hD hS (lv_sub hl [1, 0] rfl)
def x_X9_tryOut (N : Nat) (F_t : St) (F_t_flow : St) (F_t_plan : St) (F_t_trial : St) (x1 : Int32) : Option (Int32 × Int32 × (Nat → Int32) × (Nat → Int32) × (Nat → Int32) × (Nat → Int32) × (Nat → Int32)) :=
  Option.bind (x_X0_copyFrom F_t_trial F_t_flow) (fun v_1 => Option.bind (x_X0_drain N (va_up (va_up (va_up (va_up (va_up (va_up (va_up F_t_trial 0 (fun _ => v_1.1)) 1 (fun _ => v_1.2.1)) 2 v_1.2.2.1) 3 v_1.2.2.2.1) 4 v_1.2.2.2.2.1) 5 v_1.2.2.2.2.2.1) 6 v_1.2.2.2.2.2.2)) (fun v_2 => Option.bind (x_X0_comeToSpring (va_up (va_up (va_up (va_up (va_up (va_up (va_up F_t_trial 0 (fun _ => (0 : Int32))) 1 (fun _ => v_1.2.1)) 2 v_2.1) 3 v_1.2.2.2.1) 4 v_2.2.1) 5 v_2.2.2.1) 6 v_2.2.2.2) x1) (fun v_3 => Option.bind (lpc (fun (z : Int32 × Int32 × (Nat → Int32) × (Nat → Int32) × (Nat → Int32) × (Nat → Int32)) => x_X9_tryOut_b37 N F_t F_t_flow F_t_plan (va_up (va_up (va_up (va_up (va_up (va_up (va_up F_t_trial 0 (fun _ => z.2.1)) 1 (fun _ => v_1.2.1)) 2 z.2.2.1) 3 v_1.2.2.2.1) 4 z.2.2.2.1) 5 z.2.2.2.2.1) 6 z.2.2.2.2.2) z.1) N ((0 : Int32), (0 : Int32), v_2.1, v_2.2.1, v_2.2.2.1, v_3.2)) (fun v_6 => some (v_6.1, v_1.2.1, v_6.2.1, v_1.2.2.2.1, v_6.2.2.1, v_6.2.2.2.1, v_6.2.2.2.2)))))
set_option maxHeartbeats 4000000 in
set_option maxRecDepth 100000 in
theorem t_X9_tryOut {p : Program} {l : Launch} {e : Env} {s : State} {m : MethodId} {args : Array Value} {below : List Frame} {meth : Method} {c : Code} {g : gG} {A : Nat → Prop} (E : En p s m args meth c g A cX9_tryOut 3 (.code yX9_tryOut cX9_tryOut 3 none :: gW) RX9 none) (q_t : Nat) (Q_t : Ad) (Q_t_flow : Ad) (Q_t_plan : Ad) (Q_t_trial : Ad) (N : Nat) (F_t : St) (F_t_flow : St) (F_t_plan : St) (F_t_trial : St) (x1 : Int32) (o : Int32 × Int32 × (Nat → Int32) × (Nat → Int32) × (Nat → Int32) × (Nat → Int32) × (Nat → Int32)) (h : x_X9_tryOut N F_t F_t_flow F_t_plan F_t_trial x1 = some o) : WA p l e (rM 4 93) s m args below meth c g A (MQ below (QV g A [oX9 q_t Q_t (F_t 10 0), oX0 (Q_t 3) Q_t_flow (F_t_flow 0 0) (F_t_flow 1 0), ia g (Q_t_flow 2) 10 (F_t_flow 2), ia g (Q_t_flow 3) 10 (F_t_flow 3), ia g (Q_t_flow 4) 8 (F_t_flow 4), ia g (Q_t_flow 5) 64 (F_t_flow 5), ia g (Q_t_flow 6) 80 (F_t_flow 6), oX4 (Q_t 1) Q_t_plan (F_t_plan 0 0) (F_t_plan 1 0) (F_t_plan 2 0), ia g (Q_t_plan 3) 8 (F_t_plan 3), ia g (Q_t_plan 5) 10 (F_t_plan 5), ia g (Q_t_plan 6) 10 (F_t_plan 6), ia g (Q_t_plan 7) 10 (F_t_plan 7), oX0 (Q_t 4) Q_t_trial o.1 o.2.1, ia g (Q_t_trial 2) 10 o.2.2.1, ia g (Q_t_trial 3) 10 o.2.2.2.1, ia g (Q_t_trial 4) 8 o.2.2.2.2.1, ia g (Q_t_trial 5) 64 o.2.2.2.2.2.1, ia g (Q_t_trial 6) 80 o.2.2.2.2.2.2]) args s 0 0 A) 3 0 [oX9 q_t Q_t (F_t 10 0), oX0 (Q_t 3) Q_t_flow (F_t_flow 0 0) (F_t_flow 1 0), ia g (Q_t_flow 2) 10 (F_t_flow 2), ia g (Q_t_flow 3) 10 (F_t_flow 3), ia g (Q_t_flow 4) 8 (F_t_flow 4), ia g (Q_t_flow 5) 64 (F_t_flow 5), ia g (Q_t_flow 6) 80 (F_t_flow 6), oX4 (Q_t 1) Q_t_plan (F_t_plan 0 0) (F_t_plan 1 0) (F_t_plan 2 0), ia g (Q_t_plan 3) 8 (F_t_plan 3), ia g (Q_t_plan 5) 10 (F_t_plan 5), ia g (Q_t_plan 6) 10 (F_t_plan 6), ia g (Q_t_plan 7) 10 (F_t_plan 7), oX0 (Q_t 4) Q_t_trial (F_t_trial 0 0) (F_t_trial 1 0), ia g (Q_t_trial 2) 10 (F_t_trial 2), ia g (Q_t_trial 3) 10 (F_t_trial 3), ia g (Q_t_trial 4) 8 (F_t_trial 4), ia g (Q_t_trial 5) 64 (F_t_trial 5), ia g (Q_t_trial 6) 80 (F_t_trial 6)] [(0, .ref q_t), (1, .int x1)] [] := by
  obtain ⟨⟨hx, hb, hml, hown, hts⟩, hr, hK, hA, hlk⟩ := id E
  intro H locs ls hP hD hS hl
  refine lv_aload_n hx hb dX9_tryOut_0 rfl (lv_at hl 0 rfl) ?_
  refine va_get (ci := 9) (v := .ref (Q_t 4)) (C := RX9) (T := TX9) (N := 11) hx hb hts (fun w h => .tail _ (u_inX9 w h)) hown hK.1 hP 0 rfl rfl 4 (by decide) (hts _ (.tail _ u_fl_X9_33)) (fun _ h9 => h9) rfl dX9_tryOut_1 ?_
  refine lv_aload_n hx hb dX9_tryOut_4 rfl (lv_at hl 0 rfl) ?_
  refine va_get (ci := 9) (v := .ref (Q_t 3)) (C := RX9) (T := TX9) (N := 11) hx hb hts (fun w h => .tail _ (u_inX9 w h)) hown hK.1 hP 0 rfl rfl 3 (by decide) (hts _ (.tail _ u_fl_X9_29)) (fun _ h9 => h9) rfl dX9_tryOut_5 ?_
  obtain ⟨v_1, hv_1, h⟩ := ox_bind h
  refine kVv ⟨hx, hb, hml, hown, hts⟩ (c_X0_copyFrom l g (Q_t 4) Q_t_trial (Q_t 3) Q_t_flow F_t_trial F_t_flow v_1 hv_1 H.size) (gV u_ml_X9_240 u_im_X0_copyFrom u_se_X0_copyFrom u_ini_X0 u_co_X0_copyFrom) hd_X0_copyFrom ⟨rfl, rfl⟩ hK hP hD hS hA 12 0 rfl rfl [12, 13, 14, 15, 16, 17, 1, 2, 3, 4, 5, 6] [12, 6, 7, 8, 9, 10, 11, 19, 20, 21, 22, 23, 0, 1, 2, 3, 4, 5] rfl rfl 12 rfl (w2 := [oX9 q_t Q_t (F_t 10 0), oX0 (Q_t 3) Q_t_flow (F_t_flow 0 0) (F_t_flow 1 0), ia g (Q_t_flow 2) 10 (F_t_flow 2), ia g (Q_t_flow 3) 10 (F_t_flow 3), ia g (Q_t_flow 4) 8 (F_t_flow 4), ia g (Q_t_flow 5) 64 (F_t_flow 5), ia g (Q_t_flow 6) 80 (F_t_flow 6), oX4 (Q_t 1) Q_t_plan (F_t_plan 0 0) (F_t_plan 1 0) (F_t_plan 2 0), ia g (Q_t_plan 3) 8 (F_t_plan 3), ia g (Q_t_plan 5) 10 (F_t_plan 5), ia g (Q_t_plan 6) 10 (F_t_plan 6), ia g (Q_t_plan 7) 10 (F_t_plan 7), oX0 (Q_t 4) Q_t_trial v_1.1 v_1.2.1, ia g (Q_t_trial 2) 10 v_1.2.2.1, ia g (Q_t_trial 3) 10 v_1.2.2.2.1, ia g (Q_t_trial 4) 8 v_1.2.2.2.2.1, ia g (Q_t_trial 5) 64 v_1.2.2.2.2.2.1, ia g (Q_t_trial 6) 80 v_1.2.2.2.2.2.2]) rfl rfl (As := [.ref (Q_t 3)]) (rest := []) rfl hl.1 rfl rfl dX9_tryOut_8 (fun H locs hP hD hS => ?_)
  refine lv_aload_n hx hb dX9_tryOut_11 rfl (lv_at hl 0 rfl) ?_
  refine va_get (ci := 9) (v := .ref (Q_t 4)) (C := RX9) (T := TX9) (N := 11) hx hb hts (fun w h => .tail _ (u_inX9 w h)) hown hK.1 hP 0 rfl rfl 4 (by decide) (hts _ (.tail _ u_fl_X9_33)) (fun _ h9 => h9) rfl dX9_tryOut_12 ?_
  obtain ⟨v_2, hv_2, h⟩ := ox_bind h
  refine kVv ⟨hx, hb, hml, hown, hts⟩ (c_X0_drain l g (Q_t 4) Q_t_trial N (va_up (va_up (va_up (va_up (va_up (va_up (va_up F_t_trial 0 (fun _ => v_1.1)) 1 (fun _ => v_1.2.1)) 2 v_1.2.2.1) 3 v_1.2.2.2.1) 4 v_1.2.2.2.2.1) 5 v_1.2.2.2.2.2.1) 6 v_1.2.2.2.2.2.2) v_2 hv_2 H.size) (gV u_ml_X9_196 u_im_X0_drain u_se_X0_drain u_ini_X0 u_co_X0_drain) hd_X0_drain ⟨rfl, rfl⟩ hK hP hD hS hA 12 0 rfl rfl [12, 13, 15, 16, 17] [5, 6, 7, 8, 9, 10, 11, 12, 13, 14, 15, 16, 0, 1, 19, 2, 3, 4] rfl rfl 5 rfl (w2 := [oX9 q_t Q_t (F_t 10 0), oX0 (Q_t 3) Q_t_flow (F_t_flow 0 0) (F_t_flow 1 0), ia g (Q_t_flow 2) 10 (F_t_flow 2), ia g (Q_t_flow 3) 10 (F_t_flow 3), ia g (Q_t_flow 4) 8 (F_t_flow 4), ia g (Q_t_flow 5) 64 (F_t_flow 5), ia g (Q_t_flow 6) 80 (F_t_flow 6), oX4 (Q_t 1) Q_t_plan (F_t_plan 0 0) (F_t_plan 1 0) (F_t_plan 2 0), ia g (Q_t_plan 3) 8 (F_t_plan 3), ia g (Q_t_plan 5) 10 (F_t_plan 5), ia g (Q_t_plan 6) 10 (F_t_plan 6), ia g (Q_t_plan 7) 10 (F_t_plan 7), oX0 (Q_t 4) Q_t_trial v_1.1 v_1.2.1, ia g (Q_t_trial 2) 10 v_2.1, ia g (Q_t_trial 3) 10 v_1.2.2.2.1, ia g (Q_t_trial 4) 8 v_2.2.1, ia g (Q_t_trial 5) 64 v_2.2.2.1, ia g (Q_t_trial 6) 80 v_2.2.2.2]) rfl rfl (As := []) (rest := []) rfl hl.1 rfl rfl dX9_tryOut_15 (fun H locs hP hD hS => ?_)
  refine lv_aload_n hx hb dX9_tryOut_18 rfl (lv_at hl 0 rfl) ?_
  refine va_get (ci := 9) (v := .ref (Q_t 4)) (C := RX9) (T := TX9) (N := 11) hx hb hts (fun w h => .tail _ (u_inX9 w h)) hown hK.1 hP 0 rfl rfl 4 (by decide) (hts _ (.tail _ u_fl_X9_33)) (fun _ h9 => h9) rfl dX9_tryOut_19 ?_
  refine lv_iconst (v := (0 : Int32)) hx hb dX9_tryOut_22 (by decide) ?_
  refine va_put (ci := 0) (v := .int (0 : Int32)) (ty := .int) (C := RX0) (T := TX0) (N := 7) hx hb hts (fun w h => .tail _ (u_inX0 w h)) tyX0 tyX0_ok nmX0 hown hK.1 hP hD hS 12 rfl rfl 0 (by decide) (hts _ (.tail _ u_fl_X9_116)) (fun _ h9 => h9) rfl (tyX0_ok 0 (by decide)) rfl rfl (Nat.le_of_ble_eq_true rfl) dX9_tryOut_23 (fun H locs hP hD hS => ?_)
  have hP : va_P g.1 vwCl [oX9 q_t Q_t (F_t 10 0), oX0 (Q_t 3) Q_t_flow (F_t_flow 0 0) (F_t_flow 1 0), ia g (Q_t_flow 2) 10 (F_t_flow 2), ia g (Q_t_flow 3) 10 (F_t_flow 3), ia g (Q_t_flow 4) 8 (F_t_flow 4), ia g (Q_t_flow 5) 64 (F_t_flow 5), ia g (Q_t_flow 6) 80 (F_t_flow 6), oX4 (Q_t 1) Q_t_plan (F_t_plan 0 0) (F_t_plan 1 0) (F_t_plan 2 0), ia g (Q_t_plan 3) 8 (F_t_plan 3), ia g (Q_t_plan 5) 10 (F_t_plan 5), ia g (Q_t_plan 6) 10 (F_t_plan 6), ia g (Q_t_plan 7) 10 (F_t_plan 7), oX0 (Q_t 4) Q_t_trial (0 : Int32) v_1.2.1, ia g (Q_t_trial 2) 10 v_2.1, ia g (Q_t_trial 3) 10 v_1.2.2.2.1, ia g (Q_t_trial 4) 8 v_2.2.1, ia g (Q_t_trial 5) 64 v_2.2.2.1, ia g (Q_t_trial 6) 80 v_2.2.2.2] H := hP
  have hD : va_D A [oX9 q_t Q_t (F_t 10 0), oX0 (Q_t 3) Q_t_flow (F_t_flow 0 0) (F_t_flow 1 0), ia g (Q_t_flow 2) 10 (F_t_flow 2), ia g (Q_t_flow 3) 10 (F_t_flow 3), ia g (Q_t_flow 4) 8 (F_t_flow 4), ia g (Q_t_flow 5) 64 (F_t_flow 5), ia g (Q_t_flow 6) 80 (F_t_flow 6), oX4 (Q_t 1) Q_t_plan (F_t_plan 0 0) (F_t_plan 1 0) (F_t_plan 2 0), ia g (Q_t_plan 3) 8 (F_t_plan 3), ia g (Q_t_plan 5) 10 (F_t_plan 5), ia g (Q_t_plan 6) 10 (F_t_plan 6), ia g (Q_t_plan 7) 10 (F_t_plan 7), oX0 (Q_t 4) Q_t_trial (0 : Int32) v_1.2.1, ia g (Q_t_trial 2) 10 v_2.1, ia g (Q_t_trial 3) 10 v_1.2.2.2.1, ia g (Q_t_trial 4) 8 v_2.2.1, ia g (Q_t_trial 5) 64 v_2.2.2.1, ia g (Q_t_trial 6) 80 v_2.2.2.2] := hD
  refine lv_aload_n hx hb dX9_tryOut_26 rfl (lv_at hl 0 rfl) ?_
  refine va_get (ci := 9) (v := .ref (Q_t 4)) (C := RX9) (T := TX9) (N := 11) hx hb hts (fun w h => .tail _ (u_inX9 w h)) hown hK.1 hP 0 rfl rfl 4 (by decide) (hts _ (.tail _ u_fl_X9_33)) (fun _ h9 => h9) rfl dX9_tryOut_27 ?_
  refine lv_iload_n hx hb dX9_tryOut_30 rfl (lv_at hl 1 rfl) ?_
  obtain ⟨v_3, hv_3, h⟩ := ox_bind h
  refine kVi ⟨hx, hb, hml, hown, hts⟩ (c_X0_comeToSpring l g (Q_t 4) Q_t_trial (va_up (va_up (va_up (va_up (va_up (va_up (va_up F_t_trial 0 (fun _ => (0 : Int32))) 1 (fun _ => v_1.2.1)) 2 v_2.1) 3 v_1.2.2.2.1) 4 v_2.2.1) 5 v_2.2.2.1) 6 v_2.2.2.2) x1 v_3 hv_3 H.size) (gV u_ml_X9_186 u_im_X0_comeToSpring u_se_X0_comeToSpring u_ini_X0 u_co_X0_comeToSpring) hd_X0_comeToSpring ⟨rfl, rfl⟩ hK hP hD hS hA 12 0 rfl rfl [12, 17] [2, 3, 4, 5, 6, 7, 8, 9, 10, 11, 12, 13, 0, 15, 16, 17, 18, 1] rfl rfl 2 rfl (w2 := [oX9 q_t Q_t (F_t 10 0), oX0 (Q_t 3) Q_t_flow (F_t_flow 0 0) (F_t_flow 1 0), ia g (Q_t_flow 2) 10 (F_t_flow 2), ia g (Q_t_flow 3) 10 (F_t_flow 3), ia g (Q_t_flow 4) 8 (F_t_flow 4), ia g (Q_t_flow 5) 64 (F_t_flow 5), ia g (Q_t_flow 6) 80 (F_t_flow 6), oX4 (Q_t 1) Q_t_plan (F_t_plan 0 0) (F_t_plan 1 0) (F_t_plan 2 0), ia g (Q_t_plan 3) 8 (F_t_plan 3), ia g (Q_t_plan 5) 10 (F_t_plan 5), ia g (Q_t_plan 6) 10 (F_t_plan 6), ia g (Q_t_plan 7) 10 (F_t_plan 7), oX0 (Q_t 4) Q_t_trial (0 : Int32) v_1.2.1, ia g (Q_t_trial 2) 10 v_2.1, ia g (Q_t_trial 3) 10 v_1.2.2.2.1, ia g (Q_t_trial 4) 8 v_2.2.1, ia g (Q_t_trial 5) 64 v_2.2.2.1, ia g (Q_t_trial 6) 80 v_3.2]) rfl rfl (As := [.int x1]) (rest := []) rfl hl.1 rfl rfl dX9_tryOut_31 (fun H locs hP hD hS => ?_)
  refine lv_pop hx hb dX9_tryOut_34 rfl ?_
  refine lv_iconst (v := (0 : Int32)) hx hb dX9_tryOut_35 (by decide) ?_
  refine lv_istore_n (lv' := [(2, .int (0 : Int32)), (0, .ref q_t), (1, .int x1)]) hx hb dX9_tryOut_36 rfl hl (by decide) rfl (fun ls hl => ?_)
  obtain ⟨v_6, hv_6, h⟩ := ox_bind h
  refine lpc_W (Wh := fun (z : Int32 × Int32 × (Nat → Int32) × (Nat → Int32) × (Nat → Int32) × (Nat → Int32)) => WA p l e (rM 4 93) s m args below meth c g A (MQ below (QV g A [oX9 q_t Q_t (F_t 10 0), oX0 (Q_t 3) Q_t_flow (F_t_flow 0 0) (F_t_flow 1 0), ia g (Q_t_flow 2) 10 (F_t_flow 2), ia g (Q_t_flow 3) 10 (F_t_flow 3), ia g (Q_t_flow 4) 8 (F_t_flow 4), ia g (Q_t_flow 5) 64 (F_t_flow 5), ia g (Q_t_flow 6) 80 (F_t_flow 6), oX4 (Q_t 1) Q_t_plan (F_t_plan 0 0) (F_t_plan 1 0) (F_t_plan 2 0), ia g (Q_t_plan 3) 8 (F_t_plan 3), ia g (Q_t_plan 5) 10 (F_t_plan 5), ia g (Q_t_plan 6) 10 (F_t_plan 6), ia g (Q_t_plan 7) 10 (F_t_plan 7), oX0 (Q_t 4) Q_t_trial o.1 o.2.1, ia g (Q_t_trial 2) 10 o.2.2.1, ia g (Q_t_trial 3) 10 o.2.2.2.1, ia g (Q_t_trial 4) 8 o.2.2.2.2.1, ia g (Q_t_trial 5) 64 o.2.2.2.2.2.1, ia g (Q_t_trial 6) 80 o.2.2.2.2.2.2]) args s 0 0 A) 3 37 [oX9 q_t Q_t (F_t 10 0), oX0 (Q_t 3) Q_t_flow (F_t_flow 0 0) (F_t_flow 1 0), ia g (Q_t_flow 2) 10 (F_t_flow 2), ia g (Q_t_flow 3) 10 (F_t_flow 3), ia g (Q_t_flow 4) 8 (F_t_flow 4), ia g (Q_t_flow 5) 64 (F_t_flow 5), ia g (Q_t_flow 6) 80 (F_t_flow 6), oX4 (Q_t 1) Q_t_plan (F_t_plan 0 0) (F_t_plan 1 0) (F_t_plan 2 0), ia g (Q_t_plan 3) 8 (F_t_plan 3), ia g (Q_t_plan 5) 10 (F_t_plan 5), ia g (Q_t_plan 6) 10 (F_t_plan 6), ia g (Q_t_plan 7) 10 (F_t_plan 7), oX0 (Q_t 4) Q_t_trial z.2.1 v_1.2.1, ia g (Q_t_trial 2) 10 z.2.2.1, ia g (Q_t_trial 3) 10 v_1.2.2.2.1, ia g (Q_t_trial 4) 8 z.2.2.2.1, ia g (Q_t_trial 5) 64 z.2.2.2.2.1, ia g (Q_t_trial 6) 80 z.2.2.2.2.2] [(0, .ref q_t), (2, .int z.1)] []) (We := fun (v : Int32 × (Nat → Int32) × (Nat → Int32) × (Nat → Int32) × (Nat → Int32)) => WA p l e (rM 4 93) s m args below meth c g A (MQ below (QV g A [oX9 q_t Q_t (F_t 10 0), oX0 (Q_t 3) Q_t_flow (F_t_flow 0 0) (F_t_flow 1 0), ia g (Q_t_flow 2) 10 (F_t_flow 2), ia g (Q_t_flow 3) 10 (F_t_flow 3), ia g (Q_t_flow 4) 8 (F_t_flow 4), ia g (Q_t_flow 5) 64 (F_t_flow 5), ia g (Q_t_flow 6) 80 (F_t_flow 6), oX4 (Q_t 1) Q_t_plan (F_t_plan 0 0) (F_t_plan 1 0) (F_t_plan 2 0), ia g (Q_t_plan 3) 8 (F_t_plan 3), ia g (Q_t_plan 5) 10 (F_t_plan 5), ia g (Q_t_plan 6) 10 (F_t_plan 6), ia g (Q_t_plan 7) 10 (F_t_plan 7), oX0 (Q_t 4) Q_t_trial o.1 o.2.1, ia g (Q_t_trial 2) 10 o.2.2.1, ia g (Q_t_trial 3) 10 o.2.2.2.1, ia g (Q_t_trial 4) 8 o.2.2.2.2.1, ia g (Q_t_trial 5) 64 o.2.2.2.2.2.1, ia g (Q_t_trial 6) 80 o.2.2.2.2.2.2]) args s 0 0 A) 3 60 [oX9 q_t Q_t (F_t 10 0), oX0 (Q_t 3) Q_t_flow (F_t_flow 0 0) (F_t_flow 1 0), ia g (Q_t_flow 2) 10 (F_t_flow 2), ia g (Q_t_flow 3) 10 (F_t_flow 3), ia g (Q_t_flow 4) 8 (F_t_flow 4), ia g (Q_t_flow 5) 64 (F_t_flow 5), ia g (Q_t_flow 6) 80 (F_t_flow 6), oX4 (Q_t 1) Q_t_plan (F_t_plan 0 0) (F_t_plan 1 0) (F_t_plan 2 0), ia g (Q_t_plan 3) 8 (F_t_plan 3), ia g (Q_t_plan 5) 10 (F_t_plan 5), ia g (Q_t_plan 6) 10 (F_t_plan 6), ia g (Q_t_plan 7) 10 (F_t_plan 7), oX0 (Q_t 4) Q_t_trial v.1 v_1.2.1, ia g (Q_t_trial 2) 10 v.2.1, ia g (Q_t_trial 3) 10 v_1.2.2.2.1, ia g (Q_t_trial 4) 8 v.2.2.1, ia g (Q_t_trial 5) 64 v.2.2.2.1, ia g (Q_t_trial 6) 80 v.2.2.2.2] [] []) (fun z r hb hc he => t_X9_tryOut_b37 E q_t Q_t Q_t_flow Q_t_plan Q_t_trial N F_t F_t_flow F_t_plan (va_up (va_up (va_up (va_up (va_up (va_up (va_up F_t_trial 0 (fun _ => z.2.1)) 1 (fun _ => v_1.2.1)) 2 z.2.2.1) 3 v_1.2.2.2.1) 4 z.2.2.2.1) 5 z.2.2.2.2.1) 6 z.2.2.2.2.2) z.1 r hb hc he) N ((0 : Int32), (0 : Int32), v_2.1, v_2.2.1, v_2.2.2.1, v_3.2) v_6 hv_6 ?_ H locs ls hP hD hS (lv_sub hl [1, 0] rfl)
  intro H locs ls hP hD hS hl
  obtain rfl := Option.some.inj h
  exact k_vret hx hb hr hlk hP hD hS dX9_tryOut_60
set_option maxRecDepth 100000 in
theorem c_X9_tryOut (l : Launch) (g : gG) (q_t : Nat) (Q_t : Ad) (Q_t_flow : Ad) (Q_t_plan : Ad) (Q_t_trial : Ad) (N : Nat) (F_t : St) (F_t_flow : St) (F_t_plan : St) (F_t_trial : St) (x1 : Int32) (o : Int32 × Int32 × (Nat → Int32) × (Nat → Int32) × (Nat → Int32) × (Nat → Int32) × (Nat → Int32)) (h : x_X9_tryOut N F_t F_t_flow F_t_plan F_t_trial x1 = some o) (sz : Nat) : MetV l yX9_tryOut (.code yX9_tryOut cX9_tryOut 3 none :: gW) 4 93 [.ref q_t, .int x1] g [oX9 q_t Q_t (F_t 10 0), oX0 (Q_t 3) Q_t_flow (F_t_flow 0 0) (F_t_flow 1 0), ia g (Q_t_flow 2) 10 (F_t_flow 2), ia g (Q_t_flow 3) 10 (F_t_flow 3), ia g (Q_t_flow 4) 8 (F_t_flow 4), ia g (Q_t_flow 5) 64 (F_t_flow 5), ia g (Q_t_flow 6) 80 (F_t_flow 6), oX4 (Q_t 1) Q_t_plan (F_t_plan 0 0) (F_t_plan 1 0) (F_t_plan 2 0), ia g (Q_t_plan 3) 8 (F_t_plan 3), ia g (Q_t_plan 5) 10 (F_t_plan 5), ia g (Q_t_plan 6) 10 (F_t_plan 6), ia g (Q_t_plan 7) 10 (F_t_plan 7), oX0 (Q_t 4) Q_t_trial (F_t_trial 0 0) (F_t_trial 1 0), ia g (Q_t_trial 2) 10 (F_t_trial 2), ia g (Q_t_trial 3) 10 (F_t_trial 3), ia g (Q_t_trial 4) 8 (F_t_trial 4), ia g (Q_t_trial 5) 64 (F_t_trial 5), ia g (Q_t_trial 6) 80 (F_t_trial 6)] [oX9 q_t Q_t (F_t 10 0), oX0 (Q_t 3) Q_t_flow (F_t_flow 0 0) (F_t_flow 1 0), ia g (Q_t_flow 2) 10 (F_t_flow 2), ia g (Q_t_flow 3) 10 (F_t_flow 3), ia g (Q_t_flow 4) 8 (F_t_flow 4), ia g (Q_t_flow 5) 64 (F_t_flow 5), ia g (Q_t_flow 6) 80 (F_t_flow 6), oX4 (Q_t 1) Q_t_plan (F_t_plan 0 0) (F_t_plan 1 0) (F_t_plan 2 0), ia g (Q_t_plan 3) 8 (F_t_plan 3), ia g (Q_t_plan 5) 10 (F_t_plan 5), ia g (Q_t_plan 6) 10 (F_t_plan 6), ia g (Q_t_plan 7) 10 (F_t_plan 7), oX0 (Q_t 4) Q_t_trial o.1 o.2.1, ia g (Q_t_trial 2) 10 o.2.2.1, ia g (Q_t_trial 3) 10 o.2.2.2.1, ia g (Q_t_trial 4) 8 o.2.2.2.2.1, ia g (Q_t_trial 5) 64 o.2.2.2.2.2.1, ia g (Q_t_trial 6) 80 o.2.2.2.2.2.2] sz :=
  mkV (av := [.ref q_t, .int x1]) (by decide +kernel) rfl (fun p e s m below meth c A E H locs ls hP hD hS hl => t_X9_tryOut E q_t Q_t Q_t_flow Q_t_plan Q_t_trial N F_t F_t_flow F_t_plan F_t_trial x1 o h H locs ls hP hD hS hl) sz
def x_X9_hears (N : Nat) (F_t : St) (F_t_flow : St) (F_t_plan : St) (F_t_trial : St) (x1 : Int32) (x2 : Int32) : Option (Int32 × Int32 × Int32 × (Nat → Int32) × (Nat → Int32) × (Nat → Int32) × (Nat → Int32) × (Nat → Int32)) :=
  Option.bind (x_X9_refusalOfTry F_t F_t_plan x1 x2) (fun v_1 => if v_1 = 0 then (Option.bind (x_X9_tryOut N F_t F_t_flow F_t_plan F_t_trial x1) (fun v_3 => if x2 < 0 ∨ 8 ≤ x2.toNatClampNeg then none else some ((v_3.2.2.2.2.1 x2.toNatClampNeg), v_3.1, v_3.2.1, v_3.2.2.1, v_3.2.2.2.1, v_3.2.2.2.2.1, v_3.2.2.2.2.2.1, v_3.2.2.2.2.2.2))) else (some (v_1, (F_t_trial 0 0), (F_t_trial 1 0), (F_t_trial 2), (F_t_trial 3), (F_t_trial 4), (F_t_trial 5), (F_t_trial 6))))
set_option maxHeartbeats 4000000 in
set_option maxRecDepth 100000 in
theorem t_X9_hears {p : Program} {l : Launch} {e : Env} {s : State} {m : MethodId} {args : Array Value} {below : List Frame} {meth : Method} {c : Code} {g : gG} {A : Nat → Prop} (E : En p s m args meth c g A cX9_hears 4 (.code yX9_hears cX9_hears 4 (some .int) :: gW) RX9 (some .int)) (q_t : Nat) (Q_t : Ad) (Q_t_flow : Ad) (Q_t_plan : Ad) (Q_t_trial : Ad) (N : Nat) (F_t : St) (F_t_flow : St) (F_t_plan : St) (F_t_trial : St) (x1 : Int32) (x2 : Int32) (o : Int32 × Int32 × Int32 × (Nat → Int32) × (Nat → Int32) × (Nat → Int32) × (Nat → Int32) × (Nat → Int32)) (h : x_X9_hears N F_t F_t_flow F_t_plan F_t_trial x1 x2 = some o) : WA p l e (rM 5 115) s m args below meth c g A (MQ below (QI g A o.1 [oX9 q_t Q_t (F_t 10 0), oX0 (Q_t 3) Q_t_flow (F_t_flow 0 0) (F_t_flow 1 0), ia g (Q_t_flow 2) 10 (F_t_flow 2), ia g (Q_t_flow 3) 10 (F_t_flow 3), ia g (Q_t_flow 4) 8 (F_t_flow 4), ia g (Q_t_flow 5) 64 (F_t_flow 5), ia g (Q_t_flow 6) 80 (F_t_flow 6), oX4 (Q_t 1) Q_t_plan (F_t_plan 0 0) (F_t_plan 1 0) (F_t_plan 2 0), ia g (Q_t_plan 3) 8 (F_t_plan 3), ia g (Q_t_plan 5) 10 (F_t_plan 5), ia g (Q_t_plan 6) 10 (F_t_plan 6), ia g (Q_t_plan 7) 10 (F_t_plan 7), oX0 (Q_t 4) Q_t_trial o.2.1 o.2.2.1, ia g (Q_t_trial 2) 10 o.2.2.2.1, ia g (Q_t_trial 3) 10 o.2.2.2.2.1, ia g (Q_t_trial 4) 8 o.2.2.2.2.2.1, ia g (Q_t_trial 5) 64 o.2.2.2.2.2.2.1, ia g (Q_t_trial 6) 80 o.2.2.2.2.2.2.2]) args s 0 0 A) 4 0 [oX9 q_t Q_t (F_t 10 0), oX0 (Q_t 3) Q_t_flow (F_t_flow 0 0) (F_t_flow 1 0), ia g (Q_t_flow 2) 10 (F_t_flow 2), ia g (Q_t_flow 3) 10 (F_t_flow 3), ia g (Q_t_flow 4) 8 (F_t_flow 4), ia g (Q_t_flow 5) 64 (F_t_flow 5), ia g (Q_t_flow 6) 80 (F_t_flow 6), oX4 (Q_t 1) Q_t_plan (F_t_plan 0 0) (F_t_plan 1 0) (F_t_plan 2 0), ia g (Q_t_plan 3) 8 (F_t_plan 3), ia g (Q_t_plan 5) 10 (F_t_plan 5), ia g (Q_t_plan 6) 10 (F_t_plan 6), ia g (Q_t_plan 7) 10 (F_t_plan 7), oX0 (Q_t 4) Q_t_trial (F_t_trial 0 0) (F_t_trial 1 0), ia g (Q_t_trial 2) 10 (F_t_trial 2), ia g (Q_t_trial 3) 10 (F_t_trial 3), ia g (Q_t_trial 4) 8 (F_t_trial 4), ia g (Q_t_trial 5) 64 (F_t_trial 5), ia g (Q_t_trial 6) 80 (F_t_trial 6)] [(0, .ref q_t), (1, .int x1), (2, .int x2)] [] := by
  obtain ⟨⟨hx, hb, hml, hown, hts⟩, hr, hK, hA, hlk⟩ := id E
  intro H locs ls hP hD hS hl
  refine lv_aload_n hx hb dX9_hears_0 rfl (lv_at hl 0 rfl) ?_
  refine lv_iload_n hx hb dX9_hears_1 rfl (lv_at hl 1 rfl) ?_
  refine lv_iload_n hx hb dX9_hears_2 rfl (lv_at hl 2 rfl) ?_
  obtain ⟨v_1, hv_1, h⟩ := ox_bind h
  refine kVi ⟨hx, hb, hml, hown, hts⟩ (c_X9_refusalOfTry l g q_t Q_t Q_t_plan F_t F_t_plan x1 x2 v_1 hv_1 H.size) (gV u_ml_X9_209 u_im_X9_refusalOfTry u_se_X9_refusalOfTry u_ini_X9 u_co_X9_refusalOfTry) hd_X9_refusalOfTry ⟨rfl, rfl⟩ hK hP hD hS hA 0 9 rfl rfl [0, 7] [0, 3, 4, 5, 6, 7, 8, 1, 10, 11, 12, 13, 14, 15, 16, 17, 18, 19] rfl rfl 2 rfl (w2 := [oX9 q_t Q_t (F_t 10 0), oX0 (Q_t 3) Q_t_flow (F_t_flow 0 0) (F_t_flow 1 0), ia g (Q_t_flow 2) 10 (F_t_flow 2), ia g (Q_t_flow 3) 10 (F_t_flow 3), ia g (Q_t_flow 4) 8 (F_t_flow 4), ia g (Q_t_flow 5) 64 (F_t_flow 5), ia g (Q_t_flow 6) 80 (F_t_flow 6), oX4 (Q_t 1) Q_t_plan (F_t_plan 0 0) (F_t_plan 1 0) (F_t_plan 2 0), ia g (Q_t_plan 3) 8 (F_t_plan 3), ia g (Q_t_plan 5) 10 (F_t_plan 5), ia g (Q_t_plan 6) 10 (F_t_plan 6), ia g (Q_t_plan 7) 10 (F_t_plan 7), oX0 (Q_t 4) Q_t_trial (F_t_trial 0 0) (F_t_trial 1 0), ia g (Q_t_trial 2) 10 (F_t_trial 2), ia g (Q_t_trial 3) 10 (F_t_trial 3), ia g (Q_t_trial 4) 8 (F_t_trial 4), ia g (Q_t_trial 5) 64 (F_t_trial 5), ia g (Q_t_trial 6) 80 (F_t_trial 6)]) rfl rfl (As := [.int x1, .int x2]) (rest := []) rfl hl.1 rfl rfl dX9_hears_3 (fun H locs hP hD hS => ?_)
  refine lv_istore_n (lv' := [(3, .int v_1), (0, .ref q_t), (1, .int x1), (2, .int x2)]) hx hb dX9_hears_6 rfl hl (by decide) rfl (fun ls hl => ?_)
  refine lv_iload_n hx hb dX9_hears_7 rfl (lv_at hl 0 rfl) ?_
  refine lv_if_eq (tgt := 13) hx hb dX9_hears_8 (by decide) (fun c_2 => ?_) (fun c_2 => ?_)
  · have h := ox_t c_2 h
    refine lv_aload_n hx hb dX9_hears_13 rfl (lv_at hl 1 rfl) ?_
    refine lv_iload_n hx hb dX9_hears_14 rfl (lv_at hl 2 rfl) ?_
    obtain ⟨v_3, hv_3, h⟩ := ox_bind h
    refine kVv ⟨hx, hb, hml, hown, hts⟩ (c_X9_tryOut l g q_t Q_t Q_t_flow Q_t_plan Q_t_trial N F_t F_t_flow F_t_plan F_t_trial x1 v_3 hv_3 H.size) (gV u_ml_X9_213 u_im_X9_tryOut u_se_X9_tryOut u_ini_X9 u_co_X9_tryOut) hd_X9_tryOut ⟨rfl, rfl⟩ hK hP hD hS hA 0 9 rfl rfl [0, 1, 2, 3, 4, 5, 6, 7, 8, 9, 10, 11, 12, 13, 14, 15, 16, 17] [0, 1, 2, 3, 4, 5, 6, 7, 8, 9, 10, 11, 12, 13, 14, 15, 16, 17] rfl rfl 18 rfl (w2 := [oX9 q_t Q_t (F_t 10 0), oX0 (Q_t 3) Q_t_flow (F_t_flow 0 0) (F_t_flow 1 0), ia g (Q_t_flow 2) 10 (F_t_flow 2), ia g (Q_t_flow 3) 10 (F_t_flow 3), ia g (Q_t_flow 4) 8 (F_t_flow 4), ia g (Q_t_flow 5) 64 (F_t_flow 5), ia g (Q_t_flow 6) 80 (F_t_flow 6), oX4 (Q_t 1) Q_t_plan (F_t_plan 0 0) (F_t_plan 1 0) (F_t_plan 2 0), ia g (Q_t_plan 3) 8 (F_t_plan 3), ia g (Q_t_plan 5) 10 (F_t_plan 5), ia g (Q_t_plan 6) 10 (F_t_plan 6), ia g (Q_t_plan 7) 10 (F_t_plan 7), oX0 (Q_t 4) Q_t_trial v_3.1 v_3.2.1, ia g (Q_t_trial 2) 10 v_3.2.2.1, ia g (Q_t_trial 3) 10 v_3.2.2.2.1, ia g (Q_t_trial 4) 8 v_3.2.2.2.2.1, ia g (Q_t_trial 5) 64 v_3.2.2.2.2.2.1, ia g (Q_t_trial 6) 80 v_3.2.2.2.2.2.2]) rfl rfl (As := [.int x1]) (rest := []) rfl hl.1 rfl rfl dX9_hears_15 (fun H locs hP hD hS => ?_)
    refine lv_aload_n hx hb dX9_hears_18 rfl (lv_at hl 1 rfl) ?_
    refine va_get (ci := 9) (v := .ref (Q_t 4)) (C := RX9) (T := TX9) (N := 11) hx hb hts (fun w h => .tail _ (u_inX9 w h)) hown hK.1 hP 0 rfl rfl 4 (by decide) (hts _ (.tail _ u_fl_X9_33)) (fun _ h9 => h9) rfl dX9_hears_19 ?_
    refine va_get (ci := 0) (v := .ref (Q_t_trial 4)) (C := RX0) (T := TX0) (N := 7) hx hb hts (fun w h => .tail _ (u_inX0 w h)) hown hK.1 hP 12 rfl rfl 4 (by decide) (hts _ (.tail _ u_fl_X9_150)) (fun _ h9 => h9) rfl dX9_hears_22 ?_
    refine lv_iload_n hx hb dX9_hears_25 rfl (lv_at hl 3 rfl) ?_
    obtain ⟨hi_4, h⟩ := ox_chk h
    refine va_iald hx hb hK.1 hP 15 0 rfl rfl hi_4 dX9_hears_26 ?_
    obtain rfl := Option.some.inj h
    exact k_iret hx hb hr hlk hP hD hS dX9_hears_27
  · have h := ox_f c_2 h
    refine lv_iload_n hx hb dX9_hears_11 rfl (lv_at hl 0 rfl) ?_
    obtain rfl := Option.some.inj h
    exact k_iret hx hb hr hlk hP hD hS dX9_hears_12
set_option maxRecDepth 100000 in
theorem c_X9_hears (l : Launch) (g : gG) (q_t : Nat) (Q_t : Ad) (Q_t_flow : Ad) (Q_t_plan : Ad) (Q_t_trial : Ad) (N : Nat) (F_t : St) (F_t_flow : St) (F_t_plan : St) (F_t_trial : St) (x1 : Int32) (x2 : Int32) (o : Int32 × Int32 × Int32 × (Nat → Int32) × (Nat → Int32) × (Nat → Int32) × (Nat → Int32) × (Nat → Int32)) (h : x_X9_hears N F_t F_t_flow F_t_plan F_t_trial x1 x2 = some o) (sz : Nat) : MetI l yX9_hears (.code yX9_hears cX9_hears 4 (some .int) :: gW) 5 115 [.ref q_t, .int x1, .int x2] o.1 g [oX9 q_t Q_t (F_t 10 0), oX0 (Q_t 3) Q_t_flow (F_t_flow 0 0) (F_t_flow 1 0), ia g (Q_t_flow 2) 10 (F_t_flow 2), ia g (Q_t_flow 3) 10 (F_t_flow 3), ia g (Q_t_flow 4) 8 (F_t_flow 4), ia g (Q_t_flow 5) 64 (F_t_flow 5), ia g (Q_t_flow 6) 80 (F_t_flow 6), oX4 (Q_t 1) Q_t_plan (F_t_plan 0 0) (F_t_plan 1 0) (F_t_plan 2 0), ia g (Q_t_plan 3) 8 (F_t_plan 3), ia g (Q_t_plan 5) 10 (F_t_plan 5), ia g (Q_t_plan 6) 10 (F_t_plan 6), ia g (Q_t_plan 7) 10 (F_t_plan 7), oX0 (Q_t 4) Q_t_trial (F_t_trial 0 0) (F_t_trial 1 0), ia g (Q_t_trial 2) 10 (F_t_trial 2), ia g (Q_t_trial 3) 10 (F_t_trial 3), ia g (Q_t_trial 4) 8 (F_t_trial 4), ia g (Q_t_trial 5) 64 (F_t_trial 5), ia g (Q_t_trial 6) 80 (F_t_trial 6)] [oX9 q_t Q_t (F_t 10 0), oX0 (Q_t 3) Q_t_flow (F_t_flow 0 0) (F_t_flow 1 0), ia g (Q_t_flow 2) 10 (F_t_flow 2), ia g (Q_t_flow 3) 10 (F_t_flow 3), ia g (Q_t_flow 4) 8 (F_t_flow 4), ia g (Q_t_flow 5) 64 (F_t_flow 5), ia g (Q_t_flow 6) 80 (F_t_flow 6), oX4 (Q_t 1) Q_t_plan (F_t_plan 0 0) (F_t_plan 1 0) (F_t_plan 2 0), ia g (Q_t_plan 3) 8 (F_t_plan 3), ia g (Q_t_plan 5) 10 (F_t_plan 5), ia g (Q_t_plan 6) 10 (F_t_plan 6), ia g (Q_t_plan 7) 10 (F_t_plan 7), oX0 (Q_t 4) Q_t_trial o.2.1 o.2.2.1, ia g (Q_t_trial 2) 10 o.2.2.2.1, ia g (Q_t_trial 3) 10 o.2.2.2.2.1, ia g (Q_t_trial 4) 8 o.2.2.2.2.2.1, ia g (Q_t_trial 5) 64 o.2.2.2.2.2.2.1, ia g (Q_t_trial 6) 80 o.2.2.2.2.2.2.2] sz :=
  mkI (av := [.ref q_t, .int x1, .int x2]) (by decide +kernel) rfl (fun p e s m below meth c A E H locs ls hP hD hS hl => t_X9_hears E q_t Q_t Q_t_flow Q_t_plan Q_t_trial N F_t F_t_flow F_t_plan F_t_trial x1 x2 o h H locs ls hP hD hS hl) sz
def x_X9_soonest (N : Nat) (F_t : St) (F_t_flow : St) (F_t_plan : St) (F_t_trial : St) (x1 : Int32) (x2 : Int32) : Option (Int32 × Int32 × Int32 × (Nat → Int32) × (Nat → Int32) × (Nat → Int32) × (Nat → Int32) × (Nat → Int32)) :=
  Option.bind (x_X9_refusalOfTry F_t F_t_plan x1 x2) (fun v_1 => if v_1 = 0 then (Option.bind (x_X9_tryOut N F_t F_t_flow F_t_plan F_t_trial x1) (fun v_3 => Option.bind (x_X0_soonestAt N (va_up (va_up (va_up (va_up (va_up (va_up (va_up F_t_trial 0 (fun _ => v_3.1)) 1 (fun _ => v_3.2.1)) 2 v_3.2.2.1) 3 v_3.2.2.2.1) 4 v_3.2.2.2.2.1) 5 v_3.2.2.2.2.2.1) 6 v_3.2.2.2.2.2.2) x2) (fun v_4 => some (v_4, v_3.1, v_3.2.1, v_3.2.2.1, v_3.2.2.2.1, v_3.2.2.2.2.1, v_3.2.2.2.2.2.1, v_3.2.2.2.2.2.2)))) else (some (v_1, (F_t_trial 0 0), (F_t_trial 1 0), (F_t_trial 2), (F_t_trial 3), (F_t_trial 4), (F_t_trial 5), (F_t_trial 6))))
set_option maxHeartbeats 4000000 in
set_option maxRecDepth 100000 in
theorem t_X9_soonest {p : Program} {l : Launch} {e : Env} {s : State} {m : MethodId} {args : Array Value} {below : List Frame} {meth : Method} {c : Code} {g : gG} {A : Nat → Prop} (E : En p s m args meth c g A cX9_soonest 4 (.code yX9_soonest cX9_soonest 4 (some .int) :: gW) RX9 (some .int)) (q_t : Nat) (Q_t : Ad) (Q_t_flow : Ad) (Q_t_plan : Ad) (Q_t_trial : Ad) (N : Nat) (F_t : St) (F_t_flow : St) (F_t_plan : St) (F_t_trial : St) (x1 : Int32) (x2 : Int32) (o : Int32 × Int32 × Int32 × (Nat → Int32) × (Nat → Int32) × (Nat → Int32) × (Nat → Int32) × (Nat → Int32)) (h : x_X9_soonest N F_t F_t_flow F_t_plan F_t_trial x1 x2 = some o) : WA p l e (rM 5 115) s m args below meth c g A (MQ below (QI g A o.1 [oX9 q_t Q_t (F_t 10 0), oX0 (Q_t 3) Q_t_flow (F_t_flow 0 0) (F_t_flow 1 0), ia g (Q_t_flow 2) 10 (F_t_flow 2), ia g (Q_t_flow 3) 10 (F_t_flow 3), ia g (Q_t_flow 4) 8 (F_t_flow 4), ia g (Q_t_flow 5) 64 (F_t_flow 5), ia g (Q_t_flow 6) 80 (F_t_flow 6), oX4 (Q_t 1) Q_t_plan (F_t_plan 0 0) (F_t_plan 1 0) (F_t_plan 2 0), ia g (Q_t_plan 3) 8 (F_t_plan 3), ia g (Q_t_plan 5) 10 (F_t_plan 5), ia g (Q_t_plan 6) 10 (F_t_plan 6), ia g (Q_t_plan 7) 10 (F_t_plan 7), oX0 (Q_t 4) Q_t_trial o.2.1 o.2.2.1, ia g (Q_t_trial 2) 10 o.2.2.2.1, ia g (Q_t_trial 3) 10 o.2.2.2.2.1, ia g (Q_t_trial 4) 8 o.2.2.2.2.2.1, ia g (Q_t_trial 5) 64 o.2.2.2.2.2.2.1, ia g (Q_t_trial 6) 80 o.2.2.2.2.2.2.2]) args s 0 0 A) 4 0 [oX9 q_t Q_t (F_t 10 0), oX0 (Q_t 3) Q_t_flow (F_t_flow 0 0) (F_t_flow 1 0), ia g (Q_t_flow 2) 10 (F_t_flow 2), ia g (Q_t_flow 3) 10 (F_t_flow 3), ia g (Q_t_flow 4) 8 (F_t_flow 4), ia g (Q_t_flow 5) 64 (F_t_flow 5), ia g (Q_t_flow 6) 80 (F_t_flow 6), oX4 (Q_t 1) Q_t_plan (F_t_plan 0 0) (F_t_plan 1 0) (F_t_plan 2 0), ia g (Q_t_plan 3) 8 (F_t_plan 3), ia g (Q_t_plan 5) 10 (F_t_plan 5), ia g (Q_t_plan 6) 10 (F_t_plan 6), ia g (Q_t_plan 7) 10 (F_t_plan 7), oX0 (Q_t 4) Q_t_trial (F_t_trial 0 0) (F_t_trial 1 0), ia g (Q_t_trial 2) 10 (F_t_trial 2), ia g (Q_t_trial 3) 10 (F_t_trial 3), ia g (Q_t_trial 4) 8 (F_t_trial 4), ia g (Q_t_trial 5) 64 (F_t_trial 5), ia g (Q_t_trial 6) 80 (F_t_trial 6)] [(0, .ref q_t), (1, .int x1), (2, .int x2)] [] := by
  obtain ⟨⟨hx, hb, hml, hown, hts⟩, hr, hK, hA, hlk⟩ := id E
  intro H locs ls hP hD hS hl
  refine lv_aload_n hx hb dX9_soonest_0 rfl (lv_at hl 0 rfl) ?_
  refine lv_iload_n hx hb dX9_soonest_1 rfl (lv_at hl 1 rfl) ?_
  refine lv_iload_n hx hb dX9_soonest_2 rfl (lv_at hl 2 rfl) ?_
  obtain ⟨v_1, hv_1, h⟩ := ox_bind h
  refine kVi ⟨hx, hb, hml, hown, hts⟩ (c_X9_refusalOfTry l g q_t Q_t Q_t_plan F_t F_t_plan x1 x2 v_1 hv_1 H.size) (gV u_ml_X9_209 u_im_X9_refusalOfTry u_se_X9_refusalOfTry u_ini_X9 u_co_X9_refusalOfTry) hd_X9_refusalOfTry ⟨rfl, rfl⟩ hK hP hD hS hA 0 9 rfl rfl [0, 7] [0, 3, 4, 5, 6, 7, 8, 1, 10, 11, 12, 13, 14, 15, 16, 17, 18, 19] rfl rfl 2 rfl (w2 := [oX9 q_t Q_t (F_t 10 0), oX0 (Q_t 3) Q_t_flow (F_t_flow 0 0) (F_t_flow 1 0), ia g (Q_t_flow 2) 10 (F_t_flow 2), ia g (Q_t_flow 3) 10 (F_t_flow 3), ia g (Q_t_flow 4) 8 (F_t_flow 4), ia g (Q_t_flow 5) 64 (F_t_flow 5), ia g (Q_t_flow 6) 80 (F_t_flow 6), oX4 (Q_t 1) Q_t_plan (F_t_plan 0 0) (F_t_plan 1 0) (F_t_plan 2 0), ia g (Q_t_plan 3) 8 (F_t_plan 3), ia g (Q_t_plan 5) 10 (F_t_plan 5), ia g (Q_t_plan 6) 10 (F_t_plan 6), ia g (Q_t_plan 7) 10 (F_t_plan 7), oX0 (Q_t 4) Q_t_trial (F_t_trial 0 0) (F_t_trial 1 0), ia g (Q_t_trial 2) 10 (F_t_trial 2), ia g (Q_t_trial 3) 10 (F_t_trial 3), ia g (Q_t_trial 4) 8 (F_t_trial 4), ia g (Q_t_trial 5) 64 (F_t_trial 5), ia g (Q_t_trial 6) 80 (F_t_trial 6)]) rfl rfl (As := [.int x1, .int x2]) (rest := []) rfl hl.1 rfl rfl dX9_soonest_3 (fun H locs hP hD hS => ?_)
  refine lv_istore_n (lv' := [(3, .int v_1), (0, .ref q_t), (1, .int x1), (2, .int x2)]) hx hb dX9_soonest_6 rfl hl (by decide) rfl (fun ls hl => ?_)
  refine lv_iload_n hx hb dX9_soonest_7 rfl (lv_at hl 0 rfl) ?_
  refine lv_if_eq (tgt := 13) hx hb dX9_soonest_8 (by decide) (fun c_2 => ?_) (fun c_2 => ?_)
  · have h := ox_t c_2 h
    refine lv_aload_n hx hb dX9_soonest_13 rfl (lv_at hl 1 rfl) ?_
    refine lv_iload_n hx hb dX9_soonest_14 rfl (lv_at hl 2 rfl) ?_
    obtain ⟨v_3, hv_3, h⟩ := ox_bind h
    refine kVv ⟨hx, hb, hml, hown, hts⟩ (c_X9_tryOut l g q_t Q_t Q_t_flow Q_t_plan Q_t_trial N F_t F_t_flow F_t_plan F_t_trial x1 v_3 hv_3 H.size) (gV u_ml_X9_213 u_im_X9_tryOut u_se_X9_tryOut u_ini_X9 u_co_X9_tryOut) hd_X9_tryOut ⟨rfl, rfl⟩ hK hP hD hS hA 0 9 rfl rfl [0, 1, 2, 3, 4, 5, 6, 7, 8, 9, 10, 11, 12, 13, 14, 15, 16, 17] [0, 1, 2, 3, 4, 5, 6, 7, 8, 9, 10, 11, 12, 13, 14, 15, 16, 17] rfl rfl 18 rfl (w2 := [oX9 q_t Q_t (F_t 10 0), oX0 (Q_t 3) Q_t_flow (F_t_flow 0 0) (F_t_flow 1 0), ia g (Q_t_flow 2) 10 (F_t_flow 2), ia g (Q_t_flow 3) 10 (F_t_flow 3), ia g (Q_t_flow 4) 8 (F_t_flow 4), ia g (Q_t_flow 5) 64 (F_t_flow 5), ia g (Q_t_flow 6) 80 (F_t_flow 6), oX4 (Q_t 1) Q_t_plan (F_t_plan 0 0) (F_t_plan 1 0) (F_t_plan 2 0), ia g (Q_t_plan 3) 8 (F_t_plan 3), ia g (Q_t_plan 5) 10 (F_t_plan 5), ia g (Q_t_plan 6) 10 (F_t_plan 6), ia g (Q_t_plan 7) 10 (F_t_plan 7), oX0 (Q_t 4) Q_t_trial v_3.1 v_3.2.1, ia g (Q_t_trial 2) 10 v_3.2.2.1, ia g (Q_t_trial 3) 10 v_3.2.2.2.1, ia g (Q_t_trial 4) 8 v_3.2.2.2.2.1, ia g (Q_t_trial 5) 64 v_3.2.2.2.2.2.1, ia g (Q_t_trial 6) 80 v_3.2.2.2.2.2.2]) rfl rfl (As := [.int x1]) (rest := []) rfl hl.1 rfl rfl dX9_soonest_15 (fun H locs hP hD hS => ?_)
    refine lv_aload_n hx hb dX9_soonest_18 rfl (lv_at hl 1 rfl) ?_
    refine va_get (ci := 9) (v := .ref (Q_t 4)) (C := RX9) (T := TX9) (N := 11) hx hb hts (fun w h => .tail _ (u_inX9 w h)) hown hK.1 hP 0 rfl rfl 4 (by decide) (hts _ (.tail _ u_fl_X9_33)) (fun _ h9 => h9) rfl dX9_soonest_19 ?_
    refine lv_iload_n hx hb dX9_soonest_22 rfl (lv_at hl 3 rfl) ?_
    obtain ⟨v_4, hv_4, h⟩ := ox_bind h
    refine kVi ⟨hx, hb, hml, hown, hts⟩ (c_X0_soonestAt l g (Q_t 4) Q_t_trial N (va_up (va_up (va_up (va_up (va_up (va_up (va_up F_t_trial 0 (fun _ => v_3.1)) 1 (fun _ => v_3.2.1)) 2 v_3.2.2.1) 3 v_3.2.2.2.1) 4 v_3.2.2.2.2.1) 5 v_3.2.2.2.2.2.1) 6 v_3.2.2.2.2.2.2) x2 v_4 hv_4 H.size) (gV u_ml_X9_217 u_im_X0_soonestAt u_se_X0_soonestAt u_ini_X0 u_co_X0_soonestAt) hd_X0_soonestAt ⟨rfl, rfl⟩ hK hP hD hS hA 12 0 rfl rfl [12, 16] [2, 3, 4, 5, 6, 7, 8, 9, 10, 11, 12, 13, 0, 15, 16, 17, 1, 19] rfl rfl 2 rfl (w2 := [oX9 q_t Q_t (F_t 10 0), oX0 (Q_t 3) Q_t_flow (F_t_flow 0 0) (F_t_flow 1 0), ia g (Q_t_flow 2) 10 (F_t_flow 2), ia g (Q_t_flow 3) 10 (F_t_flow 3), ia g (Q_t_flow 4) 8 (F_t_flow 4), ia g (Q_t_flow 5) 64 (F_t_flow 5), ia g (Q_t_flow 6) 80 (F_t_flow 6), oX4 (Q_t 1) Q_t_plan (F_t_plan 0 0) (F_t_plan 1 0) (F_t_plan 2 0), ia g (Q_t_plan 3) 8 (F_t_plan 3), ia g (Q_t_plan 5) 10 (F_t_plan 5), ia g (Q_t_plan 6) 10 (F_t_plan 6), ia g (Q_t_plan 7) 10 (F_t_plan 7), oX0 (Q_t 4) Q_t_trial v_3.1 v_3.2.1, ia g (Q_t_trial 2) 10 v_3.2.2.1, ia g (Q_t_trial 3) 10 v_3.2.2.2.1, ia g (Q_t_trial 4) 8 v_3.2.2.2.2.1, ia g (Q_t_trial 5) 64 v_3.2.2.2.2.2.1, ia g (Q_t_trial 6) 80 v_3.2.2.2.2.2.2]) rfl rfl (As := [.int x2]) (rest := []) rfl hl.1 rfl rfl dX9_soonest_23 (fun H locs hP hD hS => ?_)
    obtain rfl := Option.some.inj h
    exact k_iret hx hb hr hlk hP hD hS dX9_soonest_26
  · have h := ox_f c_2 h
    refine lv_iload_n hx hb dX9_soonest_11 rfl (lv_at hl 0 rfl) ?_
    obtain rfl := Option.some.inj h
    exact k_iret hx hb hr hlk hP hD hS dX9_soonest_12
set_option maxRecDepth 100000 in
theorem c_X9_soonest (l : Launch) (g : gG) (q_t : Nat) (Q_t : Ad) (Q_t_flow : Ad) (Q_t_plan : Ad) (Q_t_trial : Ad) (N : Nat) (F_t : St) (F_t_flow : St) (F_t_plan : St) (F_t_trial : St) (x1 : Int32) (x2 : Int32) (o : Int32 × Int32 × Int32 × (Nat → Int32) × (Nat → Int32) × (Nat → Int32) × (Nat → Int32) × (Nat → Int32)) (h : x_X9_soonest N F_t F_t_flow F_t_plan F_t_trial x1 x2 = some o) (sz : Nat) : MetI l yX9_soonest (.code yX9_soonest cX9_soonest 4 (some .int) :: gW) 5 115 [.ref q_t, .int x1, .int x2] o.1 g [oX9 q_t Q_t (F_t 10 0), oX0 (Q_t 3) Q_t_flow (F_t_flow 0 0) (F_t_flow 1 0), ia g (Q_t_flow 2) 10 (F_t_flow 2), ia g (Q_t_flow 3) 10 (F_t_flow 3), ia g (Q_t_flow 4) 8 (F_t_flow 4), ia g (Q_t_flow 5) 64 (F_t_flow 5), ia g (Q_t_flow 6) 80 (F_t_flow 6), oX4 (Q_t 1) Q_t_plan (F_t_plan 0 0) (F_t_plan 1 0) (F_t_plan 2 0), ia g (Q_t_plan 3) 8 (F_t_plan 3), ia g (Q_t_plan 5) 10 (F_t_plan 5), ia g (Q_t_plan 6) 10 (F_t_plan 6), ia g (Q_t_plan 7) 10 (F_t_plan 7), oX0 (Q_t 4) Q_t_trial (F_t_trial 0 0) (F_t_trial 1 0), ia g (Q_t_trial 2) 10 (F_t_trial 2), ia g (Q_t_trial 3) 10 (F_t_trial 3), ia g (Q_t_trial 4) 8 (F_t_trial 4), ia g (Q_t_trial 5) 64 (F_t_trial 5), ia g (Q_t_trial 6) 80 (F_t_trial 6)] [oX9 q_t Q_t (F_t 10 0), oX0 (Q_t 3) Q_t_flow (F_t_flow 0 0) (F_t_flow 1 0), ia g (Q_t_flow 2) 10 (F_t_flow 2), ia g (Q_t_flow 3) 10 (F_t_flow 3), ia g (Q_t_flow 4) 8 (F_t_flow 4), ia g (Q_t_flow 5) 64 (F_t_flow 5), ia g (Q_t_flow 6) 80 (F_t_flow 6), oX4 (Q_t 1) Q_t_plan (F_t_plan 0 0) (F_t_plan 1 0) (F_t_plan 2 0), ia g (Q_t_plan 3) 8 (F_t_plan 3), ia g (Q_t_plan 5) 10 (F_t_plan 5), ia g (Q_t_plan 6) 10 (F_t_plan 6), ia g (Q_t_plan 7) 10 (F_t_plan 7), oX0 (Q_t 4) Q_t_trial o.2.1 o.2.2.1, ia g (Q_t_trial 2) 10 o.2.2.2.1, ia g (Q_t_trial 3) 10 o.2.2.2.2.1, ia g (Q_t_trial 4) 8 o.2.2.2.2.2.1, ia g (Q_t_trial 5) 64 o.2.2.2.2.2.2.1, ia g (Q_t_trial 6) 80 o.2.2.2.2.2.2.2] sz :=
  mkI (av := [.ref q_t, .int x1, .int x2]) (by decide +kernel) rfl (fun p e s m below meth c A E H locs ls hP hD hS hl => t_X9_soonest E q_t Q_t Q_t_flow Q_t_plan Q_t_trial N F_t F_t_flow F_t_plan F_t_trial x1 x2 o h H locs ls hP hD hS hl) sz
def x_X9_gates (N : Nat) (F_t : St) (F_t_flow : St) (F_t_plan : St) (L_t_search_one : SL) (x1 : Int32) (x2 : Int32) (x3 : Int32) : Option (Int32 × (Nat → Int64) × (Nat → Int64)) :=
  Option.bind (x_X4_hasPlace F_t_plan x1) (fun v_1 => if v_1 = 0 then (some ((-1000000001 : Int32), (L_t_search_one 0), (L_t_search_one 1))) else (Option.bind (x_X9_isSaying x2) (fun v_3 => if v_3 = 0 then (some ((-1000000001 : Int32), (L_t_search_one 0), (L_t_search_one 1))) else (if ((x3.toUInt32 >>> ((F_t_plan 1 0).toUInt32 &&& Int32.toUInt32 31)).toInt32) = 0 then (Option.bind (x_X7_fewestGates N L_t_search_one F_t_plan F_t_flow x1 x2 x3) (fun v_6 => some (v_6.1, v_6.2.1, v_6.2.2))) else (some ((-1000000001 : Int32), (L_t_search_one 0), (L_t_search_one 1)))))))
set_option maxHeartbeats 4000000 in
set_option maxRecDepth 100000 in
theorem t_X9_gates {p : Program} {l : Launch} {e : Env} {s : State} {m : MethodId} {args : Array Value} {below : List Frame} {meth : Method} {c : Code} {g : gG} {A : Nat → Prop} (E : En p s m args meth c g A cX9_gates 4 (.code yX9_gates cX9_gates 4 (some .int) :: gW) RX9 (some .int)) (q_t : Nat) (Q_t : Ad) (Q_t_flow : Ad) (Q_t_plan : Ad) (Q_t_search : Ad) (Q_t_search_one : Ad) (N : Nat) (F_t : St) (F_t_flow : St) (F_t_plan : St) (L_t_search_one : SL) (x1 : Int32) (x2 : Int32) (x3 : Int32) (o : Int32 × (Nat → Int64) × (Nat → Int64)) (h : x_X9_gates N F_t F_t_flow F_t_plan L_t_search_one x1 x2 x3 = some o) : WA p l e (rM 4 100) s m args below meth c g A (MQ below (QI g A o.1 [oX9 q_t Q_t (F_t 10 0), oX0 (Q_t 3) Q_t_flow (F_t_flow 0 0) (F_t_flow 1 0), ia g (Q_t_flow 3) 10 (F_t_flow 3), oX4 (Q_t 1) Q_t_plan (F_t_plan 0 0) (F_t_plan 1 0) (F_t_plan 2 0), ia g (Q_t_plan 3) 8 (F_t_plan 3), ia g (Q_t_plan 5) 10 (F_t_plan 5), ia g (Q_t_plan 6) 10 (F_t_plan 6), ia g (Q_t_plan 7) 10 (F_t_plan 7), ia g (Q_t_plan 8) 10 (F_t_plan 8), oX7 (Q_t 8) Q_t_search, oX8 (Q_t_search 0) Q_t_search_one, la g (Q_t_search_one 0) 8 o.2.1, la g (Q_t_search_one 1) 8 o.2.2]) args s 0 0 A) 4 0 [oX9 q_t Q_t (F_t 10 0), oX0 (Q_t 3) Q_t_flow (F_t_flow 0 0) (F_t_flow 1 0), ia g (Q_t_flow 3) 10 (F_t_flow 3), oX4 (Q_t 1) Q_t_plan (F_t_plan 0 0) (F_t_plan 1 0) (F_t_plan 2 0), ia g (Q_t_plan 3) 8 (F_t_plan 3), ia g (Q_t_plan 5) 10 (F_t_plan 5), ia g (Q_t_plan 6) 10 (F_t_plan 6), ia g (Q_t_plan 7) 10 (F_t_plan 7), ia g (Q_t_plan 8) 10 (F_t_plan 8), oX7 (Q_t 8) Q_t_search, oX8 (Q_t_search 0) Q_t_search_one, la g (Q_t_search_one 0) 8 (L_t_search_one 0), la g (Q_t_search_one 1) 8 (L_t_search_one 1)] [(0, .ref q_t), (1, .int x1), (2, .int x2), (3, .int x3)] [] := by
  obtain ⟨⟨hx, hb, hml, hown, hts⟩, hr, hK, hA, hlk⟩ := id E
  intro H locs ls hP hD hS hl
  refine lv_aload_n hx hb dX9_gates_0 rfl (lv_at hl 0 rfl) ?_
  refine va_get (ci := 9) (v := .ref (Q_t 1)) (C := RX9) (T := TX9) (N := 11) hx hb hts (fun w h => .tail _ (u_inX9 w h)) hown hK.1 hP 0 rfl rfl 1 (by decide) (hts _ (.tail _ u_fl_X9_19)) (fun _ h9 => h9) rfl dX9_gates_1 ?_
  refine lv_iload_n hx hb dX9_gates_4 rfl (lv_at hl 1 rfl) ?_
  obtain ⟨v_1, hv_1, h⟩ := ox_bind h
  refine kVi ⟨hx, hb, hml, hown, hts⟩ (c_X4_hasPlace l g (Q_t 1) Q_t_plan F_t_plan x1 v_1 hv_1 H.size) (gV u_ml_X9_139 u_im_X4_hasPlace u_se_X4_hasPlace u_ini_X4 u_co_X4_hasPlace) hd_X4_hasPlace ⟨rfl, rfl⟩ hK hP hD hS hA 3 4 rfl rfl [3] [1, 2, 3, 0, 5, 6, 7, 8, 9, 10, 11, 12, 13] rfl rfl 1 rfl (w2 := [oX9 q_t Q_t (F_t 10 0), oX0 (Q_t 3) Q_t_flow (F_t_flow 0 0) (F_t_flow 1 0), ia g (Q_t_flow 3) 10 (F_t_flow 3), oX4 (Q_t 1) Q_t_plan (F_t_plan 0 0) (F_t_plan 1 0) (F_t_plan 2 0), ia g (Q_t_plan 3) 8 (F_t_plan 3), ia g (Q_t_plan 5) 10 (F_t_plan 5), ia g (Q_t_plan 6) 10 (F_t_plan 6), ia g (Q_t_plan 7) 10 (F_t_plan 7), ia g (Q_t_plan 8) 10 (F_t_plan 8), oX7 (Q_t 8) Q_t_search, oX8 (Q_t_search 0) Q_t_search_one, la g (Q_t_search_one 0) 8 (L_t_search_one 0), la g (Q_t_search_one 1) 8 (L_t_search_one 1)]) rfl rfl (As := [.int x1]) (rest := []) rfl hl.1 rfl rfl dX9_gates_5 (fun H locs hP hD hS => ?_)
  refine lv_if_eq (tgt := 30) hx hb dX9_gates_8 (by decide) (fun c_2 => ?_) (fun c_2 => ?_)
  · have h := ox_t c_2 h
    refine lv_ldc (v := (-1000000001 : Int32)) hx hb hown (hts _ (.tail _ u_k_X9_142)) dX9_gates_30 ?_
    obtain rfl := Option.some.inj h
    exact k_iret hx hb hr hlk hP hD hS dX9_gates_32
  · have h := ox_f c_2 h
    refine lv_iload_n hx hb dX9_gates_11 rfl (lv_at hl 2 rfl) ?_
    obtain ⟨v_3, hv_3, h⟩ := ox_bind h
    refine kSi ⟨hx, hb, hml, hown, hts⟩ (c_X9_isSaying l g x2 v_3 hv_3 H.size) (gS u_ml_X9_175 u_st_X9_isSaying u_ini_X9 u_co_X9_isSaying) hd_X9_isSaying ⟨rfl, rfl⟩ hK hP hD hS hA [] [0, 1, 2, 3, 4, 5, 6, 7, 8, 9, 10, 11, 12] rfl rfl 0 rfl (w2 := [oX9 q_t Q_t (F_t 10 0), oX0 (Q_t 3) Q_t_flow (F_t_flow 0 0) (F_t_flow 1 0), ia g (Q_t_flow 3) 10 (F_t_flow 3), oX4 (Q_t 1) Q_t_plan (F_t_plan 0 0) (F_t_plan 1 0) (F_t_plan 2 0), ia g (Q_t_plan 3) 8 (F_t_plan 3), ia g (Q_t_plan 5) 10 (F_t_plan 5), ia g (Q_t_plan 6) 10 (F_t_plan 6), ia g (Q_t_plan 7) 10 (F_t_plan 7), ia g (Q_t_plan 8) 10 (F_t_plan 8), oX7 (Q_t 8) Q_t_search, oX8 (Q_t_search 0) Q_t_search_one, la g (Q_t_search_one 0) 8 (L_t_search_one 0), la g (Q_t_search_one 1) 8 (L_t_search_one 1)]) rfl rfl (As := [.int x2]) (rest := []) rfl hl.1 rfl rfl dX9_gates_12 (fun H locs hP hD hS => ?_)
    refine lv_if_eq (tgt := 30) hx hb dX9_gates_15 (by decide) (fun c_4 => ?_) (fun c_4 => ?_)
    · have h := ox_t c_4 h
      refine lv_ldc (v := (-1000000001 : Int32)) hx hb hown (hts _ (.tail _ u_k_X9_142)) dX9_gates_30 ?_
      obtain rfl := Option.some.inj h
      exact k_iret hx hb hr hlk hP hD hS dX9_gates_32
    · have h := ox_f c_4 h
      refine lv_iload_n hx hb dX9_gates_18 rfl (lv_at hl 3 rfl) ?_
      refine lv_aload_n hx hb dX9_gates_19 rfl (lv_at hl 0 rfl) ?_
      refine va_get (ci := 9) (v := .ref (Q_t 1)) (C := RX9) (T := TX9) (N := 11) hx hb hts (fun w h => .tail _ (u_inX9 w h)) hown hK.1 hP 0 rfl rfl 1 (by decide) (hts _ (.tail _ u_fl_X9_19)) (fun _ h9 => h9) rfl dX9_gates_20 ?_
      refine va_get (ci := 4) (v := .int (F_t_plan 1 0)) (C := RX4) (T := TX4) (N := 9) hx hb hts (fun w h => .tail _ (u_inX4 w h)) hown hK.1 hP 3 rfl rfl 1 (by decide) (hts _ (.tail _ u_fl_X9_104)) (fun _ h9 => h9) rfl dX9_gates_23 ?_
      refine lv_iushr (v := ((x3.toUInt32 >>> ((F_t_plan 1 0).toUInt32 &&& Int32.toUInt32 31)).toInt32)) hx hb dX9_gates_26 rfl ?_
      refine lv_if_eq (tgt := 33) hx hb dX9_gates_27 (by decide) (fun c_5 => ?_) (fun c_5 => ?_)
      · have h := ox_t c_5 h
        refine lv_aload_n hx hb dX9_gates_33 rfl (lv_at hl 0 rfl) ?_
        refine va_get (ci := 9) (v := .ref (Q_t 8)) (C := RX9) (T := TX9) (N := 11) hx hb hts (fun w h => .tail _ (u_inX9 w h)) hown hK.1 hP 0 rfl rfl 8 (by decide) (hts _ (.tail _ u_fl_X9_59)) (fun _ h9 => h9) rfl dX9_gates_34 ?_
        refine lv_aload_n hx hb dX9_gates_37 rfl (lv_at hl 0 rfl) ?_
        refine va_get (ci := 9) (v := .ref (Q_t 1)) (C := RX9) (T := TX9) (N := 11) hx hb hts (fun w h => .tail _ (u_inX9 w h)) hown hK.1 hP 0 rfl rfl 1 (by decide) (hts _ (.tail _ u_fl_X9_19)) (fun _ h9 => h9) rfl dX9_gates_38 ?_
        refine lv_aload_n hx hb dX9_gates_41 rfl (lv_at hl 0 rfl) ?_
        refine va_get (ci := 9) (v := .ref (Q_t 3)) (C := RX9) (T := TX9) (N := 11) hx hb hts (fun w h => .tail _ (u_inX9 w h)) hown hK.1 hP 0 rfl rfl 3 (by decide) (hts _ (.tail _ u_fl_X9_29)) (fun _ h9 => h9) rfl dX9_gates_42 ?_
        refine lv_iload_n hx hb dX9_gates_45 rfl (lv_at hl 1 rfl) ?_
        refine lv_iload_n hx hb dX9_gates_46 rfl (lv_at hl 2 rfl) ?_
        refine lv_iload_n hx hb dX9_gates_47 rfl (lv_at hl 3 rfl) ?_
        obtain ⟨v_6, hv_6, h⟩ := ox_bind h
        refine kVi ⟨hx, hb, hml, hown, hts⟩ (c_X7_fewestGates l g (Q_t 8) Q_t_search Q_t_search_one (Q_t 1) Q_t_plan (Q_t 3) Q_t_flow N L_t_search_one F_t_plan F_t_flow x1 x2 x3 v_6 hv_6 H.size) (gV u_ml_X9_220 u_im_X7_fewestGates u_se_X7_fewestGates u_ini_X7 u_co_X7_fewestGates) hd_X7_fewestGates ⟨rfl, rfl⟩ hK hP hD hS hA 9 7 rfl rfl [9, 10, 11, 12, 3, 4, 5, 6, 7, 8, 1, 2] [12, 10, 11, 4, 5, 6, 7, 8, 9, 0, 1, 2, 3] rfl rfl 12 rfl (w2 := [oX9 q_t Q_t (F_t 10 0), oX0 (Q_t 3) Q_t_flow (F_t_flow 0 0) (F_t_flow 1 0), ia g (Q_t_flow 3) 10 (F_t_flow 3), oX4 (Q_t 1) Q_t_plan (F_t_plan 0 0) (F_t_plan 1 0) (F_t_plan 2 0), ia g (Q_t_plan 3) 8 (F_t_plan 3), ia g (Q_t_plan 5) 10 (F_t_plan 5), ia g (Q_t_plan 6) 10 (F_t_plan 6), ia g (Q_t_plan 7) 10 (F_t_plan 7), ia g (Q_t_plan 8) 10 (F_t_plan 8), oX7 (Q_t 8) Q_t_search, oX8 (Q_t_search 0) Q_t_search_one, la g (Q_t_search_one 0) 8 v_6.2.1, la g (Q_t_search_one 1) 8 v_6.2.2]) rfl rfl (As := [.ref (Q_t 1), .ref (Q_t 3), .int x1, .int x2, .int x3]) (rest := []) rfl hl.1 rfl rfl dX9_gates_48 (fun H locs hP hD hS => ?_)
        obtain rfl := Option.some.inj h
        exact k_iret hx hb hr hlk hP hD hS dX9_gates_51
      · have h := ox_f c_5 h
        refine lv_ldc (v := (-1000000001 : Int32)) hx hb hown (hts _ (.tail _ u_k_X9_142)) dX9_gates_30 ?_
        obtain rfl := Option.some.inj h
        exact k_iret hx hb hr hlk hP hD hS dX9_gates_32
set_option maxRecDepth 100000 in
theorem c_X9_gates (l : Launch) (g : gG) (q_t : Nat) (Q_t : Ad) (Q_t_flow : Ad) (Q_t_plan : Ad) (Q_t_search : Ad) (Q_t_search_one : Ad) (N : Nat) (F_t : St) (F_t_flow : St) (F_t_plan : St) (L_t_search_one : SL) (x1 : Int32) (x2 : Int32) (x3 : Int32) (o : Int32 × (Nat → Int64) × (Nat → Int64)) (h : x_X9_gates N F_t F_t_flow F_t_plan L_t_search_one x1 x2 x3 = some o) (sz : Nat) : MetI l yX9_gates (.code yX9_gates cX9_gates 4 (some .int) :: gW) 4 100 [.ref q_t, .int x1, .int x2, .int x3] o.1 g [oX9 q_t Q_t (F_t 10 0), oX0 (Q_t 3) Q_t_flow (F_t_flow 0 0) (F_t_flow 1 0), ia g (Q_t_flow 3) 10 (F_t_flow 3), oX4 (Q_t 1) Q_t_plan (F_t_plan 0 0) (F_t_plan 1 0) (F_t_plan 2 0), ia g (Q_t_plan 3) 8 (F_t_plan 3), ia g (Q_t_plan 5) 10 (F_t_plan 5), ia g (Q_t_plan 6) 10 (F_t_plan 6), ia g (Q_t_plan 7) 10 (F_t_plan 7), ia g (Q_t_plan 8) 10 (F_t_plan 8), oX7 (Q_t 8) Q_t_search, oX8 (Q_t_search 0) Q_t_search_one, la g (Q_t_search_one 0) 8 (L_t_search_one 0), la g (Q_t_search_one 1) 8 (L_t_search_one 1)] [oX9 q_t Q_t (F_t 10 0), oX0 (Q_t 3) Q_t_flow (F_t_flow 0 0) (F_t_flow 1 0), ia g (Q_t_flow 3) 10 (F_t_flow 3), oX4 (Q_t 1) Q_t_plan (F_t_plan 0 0) (F_t_plan 1 0) (F_t_plan 2 0), ia g (Q_t_plan 3) 8 (F_t_plan 3), ia g (Q_t_plan 5) 10 (F_t_plan 5), ia g (Q_t_plan 6) 10 (F_t_plan 6), ia g (Q_t_plan 7) 10 (F_t_plan 7), ia g (Q_t_plan 8) 10 (F_t_plan 8), oX7 (Q_t 8) Q_t_search, oX8 (Q_t_search 0) Q_t_search_one, la g (Q_t_search_one 0) 8 o.2.1, la g (Q_t_search_one 1) 8 o.2.2] sz :=
  mkI (av := [.ref q_t, .int x1, .int x2, .int x3]) (by decide +kernel) rfl (fun p e s m below meth c A E H locs ls hP hD hS hl => t_X9_gates E q_t Q_t Q_t_flow Q_t_plan Q_t_search Q_t_search_one N F_t F_t_flow F_t_plan L_t_search_one x1 x2 x3 o h H locs ls hP hD hS hl) sz
def x_X9_cut (N : Nat) (F_t : St) (F_t_flow : St) (F_t_plan : St) (L_t_search_one : SL) (x1 : Int32) (x2 : Int32) (x3 : Int32) : Option (Int32 × (Nat → Int64) × (Nat → Int64)) :=
  Option.bind (x_X4_hasPlace F_t_plan x1) (fun v_1 => if v_1 = 0 then (some ((-1000000001 : Int32), (L_t_search_one 0), (L_t_search_one 1))) else (Option.bind (x_X9_isSaying x2) (fun v_3 => if v_3 = 0 then (some ((-1000000001 : Int32), (L_t_search_one 0), (L_t_search_one 1))) else (if x3 < 0 then (some ((-1000000002 : Int32), (L_t_search_one 0), (L_t_search_one 1))) else (if x3 ≤ (1 : Int32) then (Option.bind (x_X7_fewestGates N L_t_search_one F_t_plan F_t_flow (-1 : Int32) x2 ((1 : Int32) <<< (x1 &&& 31))) (fun v_7 => if v_7.1 = (-1 : Int32) then (some (v_7.1, v_7.2.1, v_7.2.2)) else (if x3 = (1 : Int32) then (some (v_7.1, v_7.2.1, v_7.2.2)) else (Option.bind (x_J6_bitCount_0f7a4 v_7.1) (fun v_10 => some (v_10, v_7.2.1, v_7.2.2)))))) else (some ((-1000000002 : Int32), (L_t_search_one 0), (L_t_search_one 1))))))))
set_option maxHeartbeats 4000000 in
set_option maxRecDepth 100000 in
theorem t_X9_cut {p : Program} {l : Launch} {e : Env} {s : State} {m : MethodId} {args : Array Value} {below : List Frame} {meth : Method} {c : Code} {g : gG} {A : Nat → Prop} (E : En p s m args meth c g A cX9_cut 5 (.code yX9_cut cX9_cut 5 (some .int) :: gW) RX9 (some .int)) (q_t : Nat) (Q_t : Ad) (Q_t_flow : Ad) (Q_t_plan : Ad) (Q_t_search : Ad) (Q_t_search_one : Ad) (N : Nat) (F_t : St) (F_t_flow : St) (F_t_plan : St) (L_t_search_one : SL) (x1 : Int32) (x2 : Int32) (x3 : Int32) (o : Int32 × (Nat → Int64) × (Nat → Int64)) (h : x_X9_cut N F_t F_t_flow F_t_plan L_t_search_one x1 x2 x3 = some o) : WA p l e (rM 4 100) s m args below meth c g A (MQ below (QI g A o.1 [oX9 q_t Q_t (F_t 10 0), oX0 (Q_t 3) Q_t_flow (F_t_flow 0 0) (F_t_flow 1 0), ia g (Q_t_flow 3) 10 (F_t_flow 3), oX4 (Q_t 1) Q_t_plan (F_t_plan 0 0) (F_t_plan 1 0) (F_t_plan 2 0), ia g (Q_t_plan 3) 8 (F_t_plan 3), ia g (Q_t_plan 5) 10 (F_t_plan 5), ia g (Q_t_plan 6) 10 (F_t_plan 6), ia g (Q_t_plan 7) 10 (F_t_plan 7), ia g (Q_t_plan 8) 10 (F_t_plan 8), oX7 (Q_t 8) Q_t_search, oX8 (Q_t_search 0) Q_t_search_one, la g (Q_t_search_one 0) 8 o.2.1, la g (Q_t_search_one 1) 8 o.2.2]) args s 0 0 A) 5 0 [oX9 q_t Q_t (F_t 10 0), oX0 (Q_t 3) Q_t_flow (F_t_flow 0 0) (F_t_flow 1 0), ia g (Q_t_flow 3) 10 (F_t_flow 3), oX4 (Q_t 1) Q_t_plan (F_t_plan 0 0) (F_t_plan 1 0) (F_t_plan 2 0), ia g (Q_t_plan 3) 8 (F_t_plan 3), ia g (Q_t_plan 5) 10 (F_t_plan 5), ia g (Q_t_plan 6) 10 (F_t_plan 6), ia g (Q_t_plan 7) 10 (F_t_plan 7), ia g (Q_t_plan 8) 10 (F_t_plan 8), oX7 (Q_t 8) Q_t_search, oX8 (Q_t_search 0) Q_t_search_one, la g (Q_t_search_one 0) 8 (L_t_search_one 0), la g (Q_t_search_one 1) 8 (L_t_search_one 1)] [(0, .ref q_t), (1, .int x1), (2, .int x2), (3, .int x3)] [] := by
  obtain ⟨⟨hx, hb, hml, hown, hts⟩, hr, hK, hA, hlk⟩ := id E
  intro H locs ls hP hD hS hl
  refine lv_aload_n hx hb dX9_cut_0 rfl (lv_at hl 0 rfl) ?_
  refine va_get (ci := 9) (v := .ref (Q_t 1)) (C := RX9) (T := TX9) (N := 11) hx hb hts (fun w h => .tail _ (u_inX9 w h)) hown hK.1 hP 0 rfl rfl 1 (by decide) (hts _ (.tail _ u_fl_X9_19)) (fun _ h9 => h9) rfl dX9_cut_1 ?_
  refine lv_iload_n hx hb dX9_cut_4 rfl (lv_at hl 1 rfl) ?_
  obtain ⟨v_1, hv_1, h⟩ := ox_bind h
  refine kVi ⟨hx, hb, hml, hown, hts⟩ (c_X4_hasPlace l g (Q_t 1) Q_t_plan F_t_plan x1 v_1 hv_1 H.size) (gV u_ml_X9_139 u_im_X4_hasPlace u_se_X4_hasPlace u_ini_X4 u_co_X4_hasPlace) hd_X4_hasPlace ⟨rfl, rfl⟩ hK hP hD hS hA 3 4 rfl rfl [3] [1, 2, 3, 0, 5, 6, 7, 8, 9, 10, 11, 12, 13] rfl rfl 1 rfl (w2 := [oX9 q_t Q_t (F_t 10 0), oX0 (Q_t 3) Q_t_flow (F_t_flow 0 0) (F_t_flow 1 0), ia g (Q_t_flow 3) 10 (F_t_flow 3), oX4 (Q_t 1) Q_t_plan (F_t_plan 0 0) (F_t_plan 1 0) (F_t_plan 2 0), ia g (Q_t_plan 3) 8 (F_t_plan 3), ia g (Q_t_plan 5) 10 (F_t_plan 5), ia g (Q_t_plan 6) 10 (F_t_plan 6), ia g (Q_t_plan 7) 10 (F_t_plan 7), ia g (Q_t_plan 8) 10 (F_t_plan 8), oX7 (Q_t 8) Q_t_search, oX8 (Q_t_search 0) Q_t_search_one, la g (Q_t_search_one 0) 8 (L_t_search_one 0), la g (Q_t_search_one 1) 8 (L_t_search_one 1)]) rfl rfl (As := [.int x1]) (rest := []) rfl hl.1 rfl rfl dX9_cut_5 (fun H locs hP hD hS => ?_)
  refine lv_if_eq (tgt := 18) hx hb dX9_cut_8 (by decide) (fun c_2 => ?_) (fun c_2 => ?_)
  · have h := ox_t c_2 h
    refine lv_ldc (v := (-1000000001 : Int32)) hx hb hown (hts _ (.tail _ u_k_X9_142)) dX9_cut_18 ?_
    obtain rfl := Option.some.inj h
    exact k_iret hx hb hr hlk hP hD hS dX9_cut_20
  · have h := ox_f c_2 h
    refine lv_iload_n hx hb dX9_cut_11 rfl (lv_at hl 2 rfl) ?_
    obtain ⟨v_3, hv_3, h⟩ := ox_bind h
    refine kSi ⟨hx, hb, hml, hown, hts⟩ (c_X9_isSaying l g x2 v_3 hv_3 H.size) (gS u_ml_X9_175 u_st_X9_isSaying u_ini_X9 u_co_X9_isSaying) hd_X9_isSaying ⟨rfl, rfl⟩ hK hP hD hS hA [] [0, 1, 2, 3, 4, 5, 6, 7, 8, 9, 10, 11, 12] rfl rfl 0 rfl (w2 := [oX9 q_t Q_t (F_t 10 0), oX0 (Q_t 3) Q_t_flow (F_t_flow 0 0) (F_t_flow 1 0), ia g (Q_t_flow 3) 10 (F_t_flow 3), oX4 (Q_t 1) Q_t_plan (F_t_plan 0 0) (F_t_plan 1 0) (F_t_plan 2 0), ia g (Q_t_plan 3) 8 (F_t_plan 3), ia g (Q_t_plan 5) 10 (F_t_plan 5), ia g (Q_t_plan 6) 10 (F_t_plan 6), ia g (Q_t_plan 7) 10 (F_t_plan 7), ia g (Q_t_plan 8) 10 (F_t_plan 8), oX7 (Q_t 8) Q_t_search, oX8 (Q_t_search 0) Q_t_search_one, la g (Q_t_search_one 0) 8 (L_t_search_one 0), la g (Q_t_search_one 1) 8 (L_t_search_one 1)]) rfl rfl (As := [.int x2]) (rest := []) rfl hl.1 rfl rfl dX9_cut_12 (fun H locs hP hD hS => ?_)
    refine lv_if_ne (tgt := 21) hx hb dX9_cut_15 (by decide) (fun c_4 => ?_) (fun c_4 => ?_)
    · have h := ox_f c_4 h
      refine lv_iload_n hx hb dX9_cut_21 rfl (lv_at hl 3 rfl) ?_
      refine lv_if_lt (tgt := 30) hx hb dX9_cut_22 (by decide) (fun c_5 => ?_) (fun c_5 => ?_)
      · have h := ox_t c_5 h
        refine lv_ldc (v := (-1000000002 : Int32)) hx hb hown (hts _ (.tail _ u_k_X9_75)) dX9_cut_30 ?_
        obtain rfl := Option.some.inj h
        exact k_iret hx hb hr hlk hP hD hS dX9_cut_32
      · have h := ox_f c_5 h
        refine lv_iload_n hx hb dX9_cut_25 rfl (lv_at hl 3 rfl) ?_
        refine lv_iconst (v := (1 : Int32)) hx hb dX9_cut_26 (by decide) ?_
        refine lv_icmp_le (tgt := 33) hx hb dX9_cut_27 (by decide) (fun c_6 => ?_) (fun c_6 => ?_)
        · have h := ox_t c_6 h
          refine lv_aload_n hx hb dX9_cut_33 rfl (lv_at hl 0 rfl) ?_
          refine va_get (ci := 9) (v := .ref (Q_t 8)) (C := RX9) (T := TX9) (N := 11) hx hb hts (fun w h => .tail _ (u_inX9 w h)) hown hK.1 hP 0 rfl rfl 8 (by decide) (hts _ (.tail _ u_fl_X9_59)) (fun _ h9 => h9) rfl dX9_cut_34 ?_
          refine lv_aload_n hx hb dX9_cut_37 rfl (lv_at hl 0 rfl) ?_
          refine va_get (ci := 9) (v := .ref (Q_t 1)) (C := RX9) (T := TX9) (N := 11) hx hb hts (fun w h => .tail _ (u_inX9 w h)) hown hK.1 hP 0 rfl rfl 1 (by decide) (hts _ (.tail _ u_fl_X9_19)) (fun _ h9 => h9) rfl dX9_cut_38 ?_
          refine lv_aload_n hx hb dX9_cut_41 rfl (lv_at hl 0 rfl) ?_
          refine va_get (ci := 9) (v := .ref (Q_t 3)) (C := RX9) (T := TX9) (N := 11) hx hb hts (fun w h => .tail _ (u_inX9 w h)) hown hK.1 hP 0 rfl rfl 3 (by decide) (hts _ (.tail _ u_fl_X9_29)) (fun _ h9 => h9) rfl dX9_cut_42 ?_
          refine lv_iconst (v := (-1 : Int32)) hx hb dX9_cut_45 (by decide) ?_
          refine lv_iload_n hx hb dX9_cut_46 rfl (lv_at hl 2 rfl) ?_
          refine lv_iconst (v := (1 : Int32)) hx hb dX9_cut_47 (by decide) ?_
          refine lv_iload_n hx hb dX9_cut_48 rfl (lv_at hl 1 rfl) ?_
          refine lv_ishl hx hb dX9_cut_49 ?_
          obtain ⟨v_7, hv_7, h⟩ := ox_bind h
          refine kVi ⟨hx, hb, hml, hown, hts⟩ (c_X7_fewestGates l g (Q_t 8) Q_t_search Q_t_search_one (Q_t 1) Q_t_plan (Q_t 3) Q_t_flow N L_t_search_one F_t_plan F_t_flow (-1 : Int32) x2 ((1 : Int32) <<< (x1 &&& 31)) v_7 hv_7 H.size) (gV u_ml_X9_220 u_im_X7_fewestGates u_se_X7_fewestGates u_ini_X7 u_co_X7_fewestGates) hd_X7_fewestGates ⟨rfl, rfl⟩ hK hP hD hS hA 9 7 rfl rfl [9, 10, 11, 12, 3, 4, 5, 6, 7, 8, 1, 2] [12, 10, 11, 4, 5, 6, 7, 8, 9, 0, 1, 2, 3] rfl rfl 12 rfl (w2 := [oX9 q_t Q_t (F_t 10 0), oX0 (Q_t 3) Q_t_flow (F_t_flow 0 0) (F_t_flow 1 0), ia g (Q_t_flow 3) 10 (F_t_flow 3), oX4 (Q_t 1) Q_t_plan (F_t_plan 0 0) (F_t_plan 1 0) (F_t_plan 2 0), ia g (Q_t_plan 3) 8 (F_t_plan 3), ia g (Q_t_plan 5) 10 (F_t_plan 5), ia g (Q_t_plan 6) 10 (F_t_plan 6), ia g (Q_t_plan 7) 10 (F_t_plan 7), ia g (Q_t_plan 8) 10 (F_t_plan 8), oX7 (Q_t 8) Q_t_search, oX8 (Q_t_search 0) Q_t_search_one, la g (Q_t_search_one 0) 8 v_7.2.1, la g (Q_t_search_one 1) 8 v_7.2.2]) rfl rfl (As := [.ref (Q_t 1), .ref (Q_t 3), .int (-1 : Int32), .int x2, .int ((1 : Int32) <<< (x1 &&& 31))]) (rest := []) rfl hl.1 rfl rfl dX9_cut_50 (fun H locs hP hD hS => ?_)
          refine lv_istore (lv' := [(4, .int v_7.1), (0, .ref q_t), (1, .int x1), (2, .int x2), (3, .int x3)]) hx hb dX9_cut_53 hl (by decide) rfl (fun ls hl => ?_)
          refine lv_iload hx hb dX9_cut_55 (lv_at hl 0 rfl) ?_
          refine lv_iconst (v := (-1 : Int32)) hx hb dX9_cut_57 (by decide) ?_
          refine lv_icmp_eq (tgt := 66) hx hb dX9_cut_58 (by decide) (fun c_8 => ?_) (fun c_8 => ?_)
          · have h := ox_t c_8 h
            refine lv_iload hx hb dX9_cut_66 (lv_at hl 0 rfl) ?_
            refine lv_goto (tgt := 76) hx hb dX9_cut_68 (by decide) ?_
            obtain rfl := Option.some.inj h
            exact k_iret hx hb hr hlk hP hD hS dX9_cut_76
          · have h := ox_f c_8 h
            refine lv_iload_n hx hb dX9_cut_61 rfl (lv_at hl 4 rfl) ?_
            refine lv_iconst (v := (1 : Int32)) hx hb dX9_cut_62 (by decide) ?_
            refine lv_icmp_ne (tgt := 71) hx hb dX9_cut_63 (by decide) (fun c_9 => ?_) (fun c_9 => ?_)
            · have h := ox_f c_9 h
              refine lv_iload hx hb dX9_cut_71 (lv_at hl 0 rfl) ?_
              obtain ⟨v_10, hv_10, h⟩ := ox_bind h
              refine kSi ⟨hx, hb, hml, hown, hts⟩ (c_J6_bitCount_0f7a4 l g v_7.1 v_10 hv_10 H.size) (gS u_ml_X9_224 u_st_J6_bitCount_0f7a4 u_ini_J6 u_co_J6_bitCount_0f7a4) hd_J6_bitCount_0f7a4 ⟨rfl, rfl⟩ hK hP hD hS hA [] [0, 1, 2, 3, 4, 5, 6, 7, 8, 9, 10, 11, 12] rfl rfl 0 rfl (w2 := [oX9 q_t Q_t (F_t 10 0), oX0 (Q_t 3) Q_t_flow (F_t_flow 0 0) (F_t_flow 1 0), ia g (Q_t_flow 3) 10 (F_t_flow 3), oX4 (Q_t 1) Q_t_plan (F_t_plan 0 0) (F_t_plan 1 0) (F_t_plan 2 0), ia g (Q_t_plan 3) 8 (F_t_plan 3), ia g (Q_t_plan 5) 10 (F_t_plan 5), ia g (Q_t_plan 6) 10 (F_t_plan 6), ia g (Q_t_plan 7) 10 (F_t_plan 7), ia g (Q_t_plan 8) 10 (F_t_plan 8), oX7 (Q_t 8) Q_t_search, oX8 (Q_t_search 0) Q_t_search_one, la g (Q_t_search_one 0) 8 v_7.2.1, la g (Q_t_search_one 1) 8 v_7.2.2]) rfl rfl (As := [.int v_7.1]) (rest := []) rfl hl.1 rfl rfl dX9_cut_73 (fun H locs hP hD hS => ?_)
              obtain rfl := Option.some.inj h
              exact k_iret hx hb hr hlk hP hD hS dX9_cut_76
            · have h := ox_t c_9 h
              refine lv_iload hx hb dX9_cut_66 (lv_at hl 0 rfl) ?_
              refine lv_goto (tgt := 76) hx hb dX9_cut_68 (by decide) ?_
              obtain rfl := Option.some.inj h
              exact k_iret hx hb hr hlk hP hD hS dX9_cut_76
        · have h := ox_f c_6 h
          refine lv_ldc (v := (-1000000002 : Int32)) hx hb hown (hts _ (.tail _ u_k_X9_75)) dX9_cut_30 ?_
          obtain rfl := Option.some.inj h
          exact k_iret hx hb hr hlk hP hD hS dX9_cut_32
    · have h := ox_t c_4 h
      refine lv_ldc (v := (-1000000001 : Int32)) hx hb hown (hts _ (.tail _ u_k_X9_142)) dX9_cut_18 ?_
      obtain rfl := Option.some.inj h
      exact k_iret hx hb hr hlk hP hD hS dX9_cut_20
set_option maxRecDepth 100000 in
theorem c_X9_cut (l : Launch) (g : gG) (q_t : Nat) (Q_t : Ad) (Q_t_flow : Ad) (Q_t_plan : Ad) (Q_t_search : Ad) (Q_t_search_one : Ad) (N : Nat) (F_t : St) (F_t_flow : St) (F_t_plan : St) (L_t_search_one : SL) (x1 : Int32) (x2 : Int32) (x3 : Int32) (o : Int32 × (Nat → Int64) × (Nat → Int64)) (h : x_X9_cut N F_t F_t_flow F_t_plan L_t_search_one x1 x2 x3 = some o) (sz : Nat) : MetI l yX9_cut (.code yX9_cut cX9_cut 5 (some .int) :: gW) 4 100 [.ref q_t, .int x1, .int x2, .int x3] o.1 g [oX9 q_t Q_t (F_t 10 0), oX0 (Q_t 3) Q_t_flow (F_t_flow 0 0) (F_t_flow 1 0), ia g (Q_t_flow 3) 10 (F_t_flow 3), oX4 (Q_t 1) Q_t_plan (F_t_plan 0 0) (F_t_plan 1 0) (F_t_plan 2 0), ia g (Q_t_plan 3) 8 (F_t_plan 3), ia g (Q_t_plan 5) 10 (F_t_plan 5), ia g (Q_t_plan 6) 10 (F_t_plan 6), ia g (Q_t_plan 7) 10 (F_t_plan 7), ia g (Q_t_plan 8) 10 (F_t_plan 8), oX7 (Q_t 8) Q_t_search, oX8 (Q_t_search 0) Q_t_search_one, la g (Q_t_search_one 0) 8 (L_t_search_one 0), la g (Q_t_search_one 1) 8 (L_t_search_one 1)] [oX9 q_t Q_t (F_t 10 0), oX0 (Q_t 3) Q_t_flow (F_t_flow 0 0) (F_t_flow 1 0), ia g (Q_t_flow 3) 10 (F_t_flow 3), oX4 (Q_t 1) Q_t_plan (F_t_plan 0 0) (F_t_plan 1 0) (F_t_plan 2 0), ia g (Q_t_plan 3) 8 (F_t_plan 3), ia g (Q_t_plan 5) 10 (F_t_plan 5), ia g (Q_t_plan 6) 10 (F_t_plan 6), ia g (Q_t_plan 7) 10 (F_t_plan 7), ia g (Q_t_plan 8) 10 (F_t_plan 8), oX7 (Q_t 8) Q_t_search, oX8 (Q_t_search 0) Q_t_search_one, la g (Q_t_search_one 0) 8 o.2.1, la g (Q_t_search_one 1) 8 o.2.2] sz :=
  mkI (av := [.ref q_t, .int x1, .int x2, .int x3]) (by decide +kernel) rfl (fun p e s m below meth c A E H locs ls hP hD hS hl => t_X9_cut E q_t Q_t Q_t_flow Q_t_plan Q_t_search Q_t_search_one N F_t F_t_flow F_t_plan L_t_search_one x1 x2 x3 o h H locs ls hP hD hS hl) sz
def x_X9_meet (N : Nat) (F_t : St) (F_t_flow : St) (F_t_plan : St) (L_t_search_one : SL) (L_t_search_other : SL) (x1 : Int32) (x2 : Int32) (x3 : Int32) : Option (Int32 × (Nat → Int64) × (Nat → Int64) × (Nat → Int64) × (Nat → Int64)) :=
  Option.bind (x_X9_isSaying x1) (fun v_1 => if v_1 = 0 then (some ((-1000000001 : Int32), (L_t_search_one 0), (L_t_search_one 1), (L_t_search_other 0), (L_t_search_other 1))) else (Option.bind (x_X9_isSaying x2) (fun v_3 => if v_3 = 0 then (some ((-1000000001 : Int32), (L_t_search_one 0), (L_t_search_one 1), (L_t_search_other 0), (L_t_search_other 1))) else (if x1 = x2 then (some ((-1000000001 : Int32), (L_t_search_one 0), (L_t_search_one 1), (L_t_search_other 0), (L_t_search_other 1))) else (if x3 < 0 then (some ((-1000000002 : Int32), (L_t_search_one 0), (L_t_search_one 1), (L_t_search_other 0), (L_t_search_other 1))) else (if x3 ≤ (30 : Int32) then (Option.bind (x_X7_meetingHour N L_t_search_one L_t_search_other F_t_plan F_t_flow x1 x2 x3) (fun v_8 => some (v_8.1, v_8.2.1, v_8.2.2.1, v_8.2.2.2.1, v_8.2.2.2.2))) else (some ((-1000000002 : Int32), (L_t_search_one 0), (L_t_search_one 1), (L_t_search_other 0), (L_t_search_other 1)))))))))
set_option maxHeartbeats 4000000 in
set_option maxRecDepth 100000 in
theorem t_X9_meet {p : Program} {l : Launch} {e : Env} {s : State} {m : MethodId} {args : Array Value} {below : List Frame} {meth : Method} {c : Code} {g : gG} {A : Nat → Prop} (E : En p s m args meth c g A cX9_meet 4 (.code yX9_meet cX9_meet 4 (some .int) :: gW) RX9 (some .int)) (q_t : Nat) (Q_t : Ad) (Q_t_flow : Ad) (Q_t_plan : Ad) (Q_t_search : Ad) (Q_t_search_one : Ad) (Q_t_search_other : Ad) (N : Nat) (F_t : St) (F_t_flow : St) (F_t_plan : St) (L_t_search_one : SL) (L_t_search_other : SL) (x1 : Int32) (x2 : Int32) (x3 : Int32) (o : Int32 × (Nat → Int64) × (Nat → Int64) × (Nat → Int64) × (Nat → Int64)) (h : x_X9_meet N F_t F_t_flow F_t_plan L_t_search_one L_t_search_other x1 x2 x3 = some o) : WA p l e (rM 4 98) s m args below meth c g A (MQ below (QI g A o.1 [oX9 q_t Q_t (F_t 10 0), oX0 (Q_t 3) Q_t_flow (F_t_flow 0 0) (F_t_flow 1 0), ia g (Q_t_flow 3) 10 (F_t_flow 3), oX4 (Q_t 1) Q_t_plan (F_t_plan 0 0) (F_t_plan 1 0) (F_t_plan 2 0), ia g (Q_t_plan 3) 8 (F_t_plan 3), ia g (Q_t_plan 5) 10 (F_t_plan 5), ia g (Q_t_plan 6) 10 (F_t_plan 6), ia g (Q_t_plan 7) 10 (F_t_plan 7), ia g (Q_t_plan 8) 10 (F_t_plan 8), oX7 (Q_t 8) Q_t_search, oX8 (Q_t_search 0) Q_t_search_one, la g (Q_t_search_one 0) 8 o.2.1, la g (Q_t_search_one 1) 8 o.2.2.1, oX8 (Q_t_search 1) Q_t_search_other, la g (Q_t_search_other 0) 8 o.2.2.2.1, la g (Q_t_search_other 1) 8 o.2.2.2.2]) args s 0 0 A) 4 0 [oX9 q_t Q_t (F_t 10 0), oX0 (Q_t 3) Q_t_flow (F_t_flow 0 0) (F_t_flow 1 0), ia g (Q_t_flow 3) 10 (F_t_flow 3), oX4 (Q_t 1) Q_t_plan (F_t_plan 0 0) (F_t_plan 1 0) (F_t_plan 2 0), ia g (Q_t_plan 3) 8 (F_t_plan 3), ia g (Q_t_plan 5) 10 (F_t_plan 5), ia g (Q_t_plan 6) 10 (F_t_plan 6), ia g (Q_t_plan 7) 10 (F_t_plan 7), ia g (Q_t_plan 8) 10 (F_t_plan 8), oX7 (Q_t 8) Q_t_search, oX8 (Q_t_search 0) Q_t_search_one, la g (Q_t_search_one 0) 8 (L_t_search_one 0), la g (Q_t_search_one 1) 8 (L_t_search_one 1), oX8 (Q_t_search 1) Q_t_search_other, la g (Q_t_search_other 0) 8 (L_t_search_other 0), la g (Q_t_search_other 1) 8 (L_t_search_other 1)] [(0, .ref q_t), (1, .int x1), (2, .int x2), (3, .int x3)] [] := by
  obtain ⟨⟨hx, hb, hml, hown, hts⟩, hr, hK, hA, hlk⟩ := id E
  intro H locs ls hP hD hS hl
  refine lv_iload_n hx hb dX9_meet_0 rfl (lv_at hl 1 rfl) ?_
  obtain ⟨v_1, hv_1, h⟩ := ox_bind h
  refine kSi ⟨hx, hb, hml, hown, hts⟩ (c_X9_isSaying l g x1 v_1 hv_1 H.size) (gS u_ml_X9_175 u_st_X9_isSaying u_ini_X9 u_co_X9_isSaying) hd_X9_isSaying ⟨rfl, rfl⟩ hK hP hD hS hA [] [0, 1, 2, 3, 4, 5, 6, 7, 8, 9, 10, 11, 12, 13, 14, 15] rfl rfl 0 rfl (w2 := [oX9 q_t Q_t (F_t 10 0), oX0 (Q_t 3) Q_t_flow (F_t_flow 0 0) (F_t_flow 1 0), ia g (Q_t_flow 3) 10 (F_t_flow 3), oX4 (Q_t 1) Q_t_plan (F_t_plan 0 0) (F_t_plan 1 0) (F_t_plan 2 0), ia g (Q_t_plan 3) 8 (F_t_plan 3), ia g (Q_t_plan 5) 10 (F_t_plan 5), ia g (Q_t_plan 6) 10 (F_t_plan 6), ia g (Q_t_plan 7) 10 (F_t_plan 7), ia g (Q_t_plan 8) 10 (F_t_plan 8), oX7 (Q_t 8) Q_t_search, oX8 (Q_t_search 0) Q_t_search_one, la g (Q_t_search_one 0) 8 (L_t_search_one 0), la g (Q_t_search_one 1) 8 (L_t_search_one 1), oX8 (Q_t_search 1) Q_t_search_other, la g (Q_t_search_other 0) 8 (L_t_search_other 0), la g (Q_t_search_other 1) 8 (L_t_search_other 1)]) rfl rfl (As := [.int x1]) (rest := []) rfl hl.1 rfl rfl dX9_meet_1 (fun H locs hP hD hS => ?_)
  refine lv_if_eq (tgt := 19) hx hb dX9_meet_4 (by decide) (fun c_2 => ?_) (fun c_2 => ?_)
  · have h := ox_t c_2 h
    refine lv_ldc (v := (-1000000001 : Int32)) hx hb hown (hts _ (.tail _ u_k_X9_142)) dX9_meet_19 ?_
    obtain rfl := Option.some.inj h
    exact k_iret hx hb hr hlk hP hD hS dX9_meet_21
  · have h := ox_f c_2 h
    refine lv_iload_n hx hb dX9_meet_7 rfl (lv_at hl 2 rfl) ?_
    obtain ⟨v_3, hv_3, h⟩ := ox_bind h
    refine kSi ⟨hx, hb, hml, hown, hts⟩ (c_X9_isSaying l g x2 v_3 hv_3 H.size) (gS u_ml_X9_175 u_st_X9_isSaying u_ini_X9 u_co_X9_isSaying) hd_X9_isSaying ⟨rfl, rfl⟩ hK hP hD hS hA [] [0, 1, 2, 3, 4, 5, 6, 7, 8, 9, 10, 11, 12, 13, 14, 15] rfl rfl 0 rfl (w2 := [oX9 q_t Q_t (F_t 10 0), oX0 (Q_t 3) Q_t_flow (F_t_flow 0 0) (F_t_flow 1 0), ia g (Q_t_flow 3) 10 (F_t_flow 3), oX4 (Q_t 1) Q_t_plan (F_t_plan 0 0) (F_t_plan 1 0) (F_t_plan 2 0), ia g (Q_t_plan 3) 8 (F_t_plan 3), ia g (Q_t_plan 5) 10 (F_t_plan 5), ia g (Q_t_plan 6) 10 (F_t_plan 6), ia g (Q_t_plan 7) 10 (F_t_plan 7), ia g (Q_t_plan 8) 10 (F_t_plan 8), oX7 (Q_t 8) Q_t_search, oX8 (Q_t_search 0) Q_t_search_one, la g (Q_t_search_one 0) 8 (L_t_search_one 0), la g (Q_t_search_one 1) 8 (L_t_search_one 1), oX8 (Q_t_search 1) Q_t_search_other, la g (Q_t_search_other 0) 8 (L_t_search_other 0), la g (Q_t_search_other 1) 8 (L_t_search_other 1)]) rfl rfl (As := [.int x2]) (rest := []) rfl hl.1 rfl rfl dX9_meet_8 (fun H locs hP hD hS => ?_)
    refine lv_if_eq (tgt := 19) hx hb dX9_meet_11 (by decide) (fun c_4 => ?_) (fun c_4 => ?_)
    · have h := ox_t c_4 h
      refine lv_ldc (v := (-1000000001 : Int32)) hx hb hown (hts _ (.tail _ u_k_X9_142)) dX9_meet_19 ?_
      obtain rfl := Option.some.inj h
      exact k_iret hx hb hr hlk hP hD hS dX9_meet_21
    · have h := ox_f c_4 h
      refine lv_iload_n hx hb dX9_meet_14 rfl (lv_at hl 1 rfl) ?_
      refine lv_iload_n hx hb dX9_meet_15 rfl (lv_at hl 2 rfl) ?_
      refine lv_icmp_ne (tgt := 22) hx hb dX9_meet_16 (by decide) (fun c_5 => ?_) (fun c_5 => ?_)
      · have h := ox_f c_5 h
        refine lv_iload_n hx hb dX9_meet_22 rfl (lv_at hl 3 rfl) ?_
        refine lv_if_lt (tgt := 32) hx hb dX9_meet_23 (by decide) (fun c_6 => ?_) (fun c_6 => ?_)
        · have h := ox_t c_6 h
          refine lv_ldc (v := (-1000000002 : Int32)) hx hb hown (hts _ (.tail _ u_k_X9_75)) dX9_meet_32 ?_
          obtain rfl := Option.some.inj h
          exact k_iret hx hb hr hlk hP hD hS dX9_meet_34
        · have h := ox_f c_6 h
          refine lv_iload_n hx hb dX9_meet_26 rfl (lv_at hl 3 rfl) ?_
          refine lv_bipush (v := (30 : Int32)) hx hb dX9_meet_27 (by decide) ?_
          refine lv_icmp_le (tgt := 35) hx hb dX9_meet_29 (by decide) (fun c_7 => ?_) (fun c_7 => ?_)
          · have h := ox_t c_7 h
            refine lv_aload_n hx hb dX9_meet_35 rfl (lv_at hl 0 rfl) ?_
            refine va_get (ci := 9) (v := .ref (Q_t 8)) (C := RX9) (T := TX9) (N := 11) hx hb hts (fun w h => .tail _ (u_inX9 w h)) hown hK.1 hP 0 rfl rfl 8 (by decide) (hts _ (.tail _ u_fl_X9_59)) (fun _ h9 => h9) rfl dX9_meet_36 ?_
            refine lv_aload_n hx hb dX9_meet_39 rfl (lv_at hl 0 rfl) ?_
            refine va_get (ci := 9) (v := .ref (Q_t 1)) (C := RX9) (T := TX9) (N := 11) hx hb hts (fun w h => .tail _ (u_inX9 w h)) hown hK.1 hP 0 rfl rfl 1 (by decide) (hts _ (.tail _ u_fl_X9_19)) (fun _ h9 => h9) rfl dX9_meet_40 ?_
            refine lv_aload_n hx hb dX9_meet_43 rfl (lv_at hl 0 rfl) ?_
            refine va_get (ci := 9) (v := .ref (Q_t 3)) (C := RX9) (T := TX9) (N := 11) hx hb hts (fun w h => .tail _ (u_inX9 w h)) hown hK.1 hP 0 rfl rfl 3 (by decide) (hts _ (.tail _ u_fl_X9_29)) (fun _ h9 => h9) rfl dX9_meet_44 ?_
            refine lv_iload_n hx hb dX9_meet_47 rfl (lv_at hl 1 rfl) ?_
            refine lv_iload_n hx hb dX9_meet_48 rfl (lv_at hl 2 rfl) ?_
            refine lv_iload_n hx hb dX9_meet_49 rfl (lv_at hl 3 rfl) ?_
            obtain ⟨v_8, hv_8, h⟩ := ox_bind h
            refine kVi ⟨hx, hb, hml, hown, hts⟩ (c_X7_meetingHour l g (Q_t 8) Q_t_search Q_t_search_one Q_t_search_other (Q_t 1) Q_t_plan (Q_t 3) Q_t_flow N L_t_search_one L_t_search_other F_t_plan F_t_flow x1 x2 x3 v_8 hv_8 H.size) (gV u_ml_X9_229 u_im_X7_meetingHour u_se_X7_meetingHour u_ini_X7 u_co_X7_meetingHour) hd_X7_meetingHour ⟨rfl, rfl⟩ hK hP hD hS hA 9 7 rfl rfl [9, 10, 11, 12, 13, 14, 15, 3, 4, 5, 6, 7, 8, 1, 2] [15, 13, 14, 7, 8, 9, 10, 11, 12, 0, 1, 2, 3, 4, 5, 6] rfl rfl 15 rfl (w2 := [oX9 q_t Q_t (F_t 10 0), oX0 (Q_t 3) Q_t_flow (F_t_flow 0 0) (F_t_flow 1 0), ia g (Q_t_flow 3) 10 (F_t_flow 3), oX4 (Q_t 1) Q_t_plan (F_t_plan 0 0) (F_t_plan 1 0) (F_t_plan 2 0), ia g (Q_t_plan 3) 8 (F_t_plan 3), ia g (Q_t_plan 5) 10 (F_t_plan 5), ia g (Q_t_plan 6) 10 (F_t_plan 6), ia g (Q_t_plan 7) 10 (F_t_plan 7), ia g (Q_t_plan 8) 10 (F_t_plan 8), oX7 (Q_t 8) Q_t_search, oX8 (Q_t_search 0) Q_t_search_one, la g (Q_t_search_one 0) 8 v_8.2.1, la g (Q_t_search_one 1) 8 v_8.2.2.1, oX8 (Q_t_search 1) Q_t_search_other, la g (Q_t_search_other 0) 8 v_8.2.2.2.1, la g (Q_t_search_other 1) 8 v_8.2.2.2.2]) rfl rfl (As := [.ref (Q_t 1), .ref (Q_t 3), .int x1, .int x2, .int x3]) (rest := []) rfl hl.1 rfl rfl dX9_meet_50 (fun H locs hP hD hS => ?_)
            obtain rfl := Option.some.inj h
            exact k_iret hx hb hr hlk hP hD hS dX9_meet_53
          · have h := ox_f c_7 h
            refine lv_ldc (v := (-1000000002 : Int32)) hx hb hown (hts _ (.tail _ u_k_X9_75)) dX9_meet_32 ?_
            obtain rfl := Option.some.inj h
            exact k_iret hx hb hr hlk hP hD hS dX9_meet_34
      · have h := ox_t c_5 h
        refine lv_ldc (v := (-1000000001 : Int32)) hx hb hown (hts _ (.tail _ u_k_X9_142)) dX9_meet_19 ?_
        obtain rfl := Option.some.inj h
        exact k_iret hx hb hr hlk hP hD hS dX9_meet_21
set_option maxRecDepth 100000 in
theorem c_X9_meet (l : Launch) (g : gG) (q_t : Nat) (Q_t : Ad) (Q_t_flow : Ad) (Q_t_plan : Ad) (Q_t_search : Ad) (Q_t_search_one : Ad) (Q_t_search_other : Ad) (N : Nat) (F_t : St) (F_t_flow : St) (F_t_plan : St) (L_t_search_one : SL) (L_t_search_other : SL) (x1 : Int32) (x2 : Int32) (x3 : Int32) (o : Int32 × (Nat → Int64) × (Nat → Int64) × (Nat → Int64) × (Nat → Int64)) (h : x_X9_meet N F_t F_t_flow F_t_plan L_t_search_one L_t_search_other x1 x2 x3 = some o) (sz : Nat) : MetI l yX9_meet (.code yX9_meet cX9_meet 4 (some .int) :: gW) 4 98 [.ref q_t, .int x1, .int x2, .int x3] o.1 g [oX9 q_t Q_t (F_t 10 0), oX0 (Q_t 3) Q_t_flow (F_t_flow 0 0) (F_t_flow 1 0), ia g (Q_t_flow 3) 10 (F_t_flow 3), oX4 (Q_t 1) Q_t_plan (F_t_plan 0 0) (F_t_plan 1 0) (F_t_plan 2 0), ia g (Q_t_plan 3) 8 (F_t_plan 3), ia g (Q_t_plan 5) 10 (F_t_plan 5), ia g (Q_t_plan 6) 10 (F_t_plan 6), ia g (Q_t_plan 7) 10 (F_t_plan 7), ia g (Q_t_plan 8) 10 (F_t_plan 8), oX7 (Q_t 8) Q_t_search, oX8 (Q_t_search 0) Q_t_search_one, la g (Q_t_search_one 0) 8 (L_t_search_one 0), la g (Q_t_search_one 1) 8 (L_t_search_one 1), oX8 (Q_t_search 1) Q_t_search_other, la g (Q_t_search_other 0) 8 (L_t_search_other 0), la g (Q_t_search_other 1) 8 (L_t_search_other 1)] [oX9 q_t Q_t (F_t 10 0), oX0 (Q_t 3) Q_t_flow (F_t_flow 0 0) (F_t_flow 1 0), ia g (Q_t_flow 3) 10 (F_t_flow 3), oX4 (Q_t 1) Q_t_plan (F_t_plan 0 0) (F_t_plan 1 0) (F_t_plan 2 0), ia g (Q_t_plan 3) 8 (F_t_plan 3), ia g (Q_t_plan 5) 10 (F_t_plan 5), ia g (Q_t_plan 6) 10 (F_t_plan 6), ia g (Q_t_plan 7) 10 (F_t_plan 7), ia g (Q_t_plan 8) 10 (F_t_plan 8), oX7 (Q_t 8) Q_t_search, oX8 (Q_t_search 0) Q_t_search_one, la g (Q_t_search_one 0) 8 o.2.1, la g (Q_t_search_one 1) 8 o.2.2.1, oX8 (Q_t_search 1) Q_t_search_other, la g (Q_t_search_other 0) 8 o.2.2.2.1, la g (Q_t_search_other 1) 8 o.2.2.2.2] sz :=
  mkI (av := [.ref q_t, .int x1, .int x2, .int x3]) (by decide +kernel) rfl (fun p e s m below meth c A E H locs ls hP hD hS hl => t_X9_meet E q_t Q_t Q_t_flow Q_t_plan Q_t_search Q_t_search_one Q_t_search_other N F_t F_t_flow F_t_plan L_t_search_one L_t_search_other x1 x2 x3 o h H locs ls hP hD hS hl) sz
def x_X9_longest (N : Nat) (F_t : St) (F_t_flow : St) (F_t_plan : St) (F_t_routes : St) (x1 : Int32) : Option (Int32 × (Nat → Int32) × (Nat → Int32)) :=
  Option.bind (x_X4_hasPlace F_t_plan x1) (fun v_1 => if v_1 = 0 then (some ((-1000000001 : Int32), (F_t_routes 0), (F_t_routes 1))) else (Option.bind (x_X6_follow N F_t_routes F_t_plan (F_t_flow 1 0)) (fun v_3 => if x1 < 0 ∨ 8 ≤ x1.toNatClampNeg then none else some ((v_3.1 x1.toNatClampNeg), v_3.1, v_3.2))))
set_option maxHeartbeats 4000000 in
set_option maxRecDepth 100000 in
theorem t_X9_longest {p : Program} {l : Launch} {e : Env} {s : State} {m : MethodId} {args : Array Value} {below : List Frame} {meth : Method} {c : Code} {g : gG} {A : Nat → Prop} (E : En p s m args meth c g A cX9_longest 2 (.code yX9_longest cX9_longest 2 (some .int) :: gW) RX9 (some .int)) (q_t : Nat) (Q_t : Ad) (Q_t_flow : Ad) (Q_t_plan : Ad) (Q_t_routes : Ad) (N : Nat) (F_t : St) (F_t_flow : St) (F_t_plan : St) (F_t_routes : St) (x1 : Int32) (o : Int32 × (Nat → Int32) × (Nat → Int32)) (h : x_X9_longest N F_t F_t_flow F_t_plan F_t_routes x1 = some o) : WA p l e (rM 2 49) s m args below meth c g A (MQ below (QI g A o.1 [oX9 q_t Q_t (F_t 10 0), oX0 (Q_t 3) Q_t_flow (F_t_flow 0 0) (F_t_flow 1 0), oX4 (Q_t 1) Q_t_plan (F_t_plan 0 0) (F_t_plan 1 0) (F_t_plan 2 0), ia g (Q_t_plan 5) 10 (F_t_plan 5), ia g (Q_t_plan 6) 10 (F_t_plan 6), ia g (Q_t_plan 7) 10 (F_t_plan 7), ia g (Q_t_plan 8) 10 (F_t_plan 8), oX6 (Q_t 9) Q_t_routes, ia g (Q_t_routes 0) 8 o.2.1, ia g (Q_t_routes 1) 8 o.2.2]) args s 0 0 A) 2 0 [oX9 q_t Q_t (F_t 10 0), oX0 (Q_t 3) Q_t_flow (F_t_flow 0 0) (F_t_flow 1 0), oX4 (Q_t 1) Q_t_plan (F_t_plan 0 0) (F_t_plan 1 0) (F_t_plan 2 0), ia g (Q_t_plan 5) 10 (F_t_plan 5), ia g (Q_t_plan 6) 10 (F_t_plan 6), ia g (Q_t_plan 7) 10 (F_t_plan 7), ia g (Q_t_plan 8) 10 (F_t_plan 8), oX6 (Q_t 9) Q_t_routes, ia g (Q_t_routes 0) 8 (F_t_routes 0), ia g (Q_t_routes 1) 8 (F_t_routes 1)] [(0, .ref q_t), (1, .int x1)] [] := by
  obtain ⟨⟨hx, hb, hml, hown, hts⟩, hr, hK, hA, hlk⟩ := id E
  intro H locs ls hP hD hS hl
  refine lv_aload_n hx hb dX9_longest_0 rfl (lv_at hl 0 rfl) ?_
  refine va_get (ci := 9) (v := .ref (Q_t 1)) (C := RX9) (T := TX9) (N := 11) hx hb hts (fun w h => .tail _ (u_inX9 w h)) hown hK.1 hP 0 rfl rfl 1 (by decide) (hts _ (.tail _ u_fl_X9_19)) (fun _ h9 => h9) rfl dX9_longest_1 ?_
  refine lv_iload_n hx hb dX9_longest_4 rfl (lv_at hl 1 rfl) ?_
  obtain ⟨v_1, hv_1, h⟩ := ox_bind h
  refine kVi ⟨hx, hb, hml, hown, hts⟩ (c_X4_hasPlace l g (Q_t 1) Q_t_plan F_t_plan x1 v_1 hv_1 H.size) (gV u_ml_X9_139 u_im_X4_hasPlace u_se_X4_hasPlace u_ini_X4 u_co_X4_hasPlace) hd_X4_hasPlace ⟨rfl, rfl⟩ hK hP hD hS hA 2 4 rfl rfl [2] [1, 2, 0, 4, 5, 6, 7, 8, 9, 10] rfl rfl 1 rfl (w2 := [oX9 q_t Q_t (F_t 10 0), oX0 (Q_t 3) Q_t_flow (F_t_flow 0 0) (F_t_flow 1 0), oX4 (Q_t 1) Q_t_plan (F_t_plan 0 0) (F_t_plan 1 0) (F_t_plan 2 0), ia g (Q_t_plan 5) 10 (F_t_plan 5), ia g (Q_t_plan 6) 10 (F_t_plan 6), ia g (Q_t_plan 7) 10 (F_t_plan 7), ia g (Q_t_plan 8) 10 (F_t_plan 8), oX6 (Q_t 9) Q_t_routes, ia g (Q_t_routes 0) 8 (F_t_routes 0), ia g (Q_t_routes 1) 8 (F_t_routes 1)]) rfl rfl (As := [.int x1]) (rest := []) rfl hl.1 rfl rfl dX9_longest_5 (fun H locs hP hD hS => ?_)
  refine lv_if_ne (tgt := 14) hx hb dX9_longest_8 (by decide) (fun c_2 => ?_) (fun c_2 => ?_)
  · have h := ox_f c_2 h
    refine lv_aload_n hx hb dX9_longest_14 rfl (lv_at hl 0 rfl) ?_
    refine va_get (ci := 9) (v := .ref (Q_t 9)) (C := RX9) (T := TX9) (N := 11) hx hb hts (fun w h => .tail _ (u_inX9 w h)) hown hK.1 hP 0 rfl rfl 9 (by decide) (hts _ (.tail _ u_fl_X9_66)) (fun _ h9 => h9) rfl dX9_longest_15 ?_
    refine lv_aload_n hx hb dX9_longest_18 rfl (lv_at hl 0 rfl) ?_
    refine va_get (ci := 9) (v := .ref (Q_t 1)) (C := RX9) (T := TX9) (N := 11) hx hb hts (fun w h => .tail _ (u_inX9 w h)) hown hK.1 hP 0 rfl rfl 1 (by decide) (hts _ (.tail _ u_fl_X9_19)) (fun _ h9 => h9) rfl dX9_longest_19 ?_
    refine lv_aload_n hx hb dX9_longest_22 rfl (lv_at hl 0 rfl) ?_
    refine va_get (ci := 9) (v := .ref (Q_t 3)) (C := RX9) (T := TX9) (N := 11) hx hb hts (fun w h => .tail _ (u_inX9 w h)) hown hK.1 hP 0 rfl rfl 3 (by decide) (hts _ (.tail _ u_fl_X9_29)) (fun _ h9 => h9) rfl dX9_longest_23 ?_
    refine va_get (ci := 0) (v := .int (F_t_flow 1 0)) (C := RX0) (T := TX0) (N := 7) hx hb hts (fun w h => .tail _ (u_inX0 w h)) hown hK.1 hP 1 rfl rfl 1 (by decide) (hts _ (.tail _ u_fl_X9_119)) (fun _ h9 => h9) rfl dX9_longest_26 ?_
    obtain ⟨v_3, hv_3, h⟩ := ox_bind h
    refine kVv ⟨hx, hb, hml, hown, hts⟩ (c_X6_follow l g (Q_t 9) Q_t_routes (Q_t 1) Q_t_plan N F_t_routes F_t_plan (F_t_flow 1 0) v_3 hv_3 H.size) (gV u_ml_X9_232 u_im_X6_follow u_se_X6_follow u_ini_X6 u_co_X6_follow) hd_X6_follow ⟨rfl, rfl⟩ hK hP hD hS hA 7 6 rfl rfl [7, 8, 9, 2, 3, 4, 5, 6] [8, 9, 3, 4, 5, 6, 7, 0, 1, 2] rfl rfl 8 rfl (w2 := [oX9 q_t Q_t (F_t 10 0), oX0 (Q_t 3) Q_t_flow (F_t_flow 0 0) (F_t_flow 1 0), oX4 (Q_t 1) Q_t_plan (F_t_plan 0 0) (F_t_plan 1 0) (F_t_plan 2 0), ia g (Q_t_plan 5) 10 (F_t_plan 5), ia g (Q_t_plan 6) 10 (F_t_plan 6), ia g (Q_t_plan 7) 10 (F_t_plan 7), ia g (Q_t_plan 8) 10 (F_t_plan 8), oX6 (Q_t 9) Q_t_routes, ia g (Q_t_routes 0) 8 v_3.1, ia g (Q_t_routes 1) 8 v_3.2]) rfl rfl (As := [.ref (Q_t 1), .int (F_t_flow 1 0)]) (rest := []) rfl hl.1 rfl rfl dX9_longest_29 (fun H locs hP hD hS => ?_)
    refine lv_aload_n hx hb dX9_longest_32 rfl (lv_at hl 0 rfl) ?_
    refine va_get (ci := 9) (v := .ref (Q_t 9)) (C := RX9) (T := TX9) (N := 11) hx hb hts (fun w h => .tail _ (u_inX9 w h)) hown hK.1 hP 0 rfl rfl 9 (by decide) (hts _ (.tail _ u_fl_X9_66)) (fun _ h9 => h9) rfl dX9_longest_33 ?_
    refine va_get (ci := 6) (v := .ref (Q_t_routes 0)) (C := RX6) (T := TX6) (N := 2) hx hb hts (fun w h => .tail _ (u_inX6 w h)) hown hK.1 hP 7 rfl rfl 0 (by decide) (hts _ (.tail _ u_fl_X9_236)) (fun _ h9 => h9) rfl dX9_longest_36 ?_
    refine lv_iload_n hx hb dX9_longest_39 rfl (lv_at hl 1 rfl) ?_
    obtain ⟨hi_4, h⟩ := ox_chk h
    refine va_iald hx hb hK.1 hP 8 0 rfl rfl hi_4 dX9_longest_40 ?_
    obtain rfl := Option.some.inj h
    exact k_iret hx hb hr hlk hP hD hS dX9_longest_41
  · have h := ox_t c_2 h
    refine lv_ldc (v := (-1000000001 : Int32)) hx hb hown (hts _ (.tail _ u_k_X9_142)) dX9_longest_11 ?_
    obtain rfl := Option.some.inj h
    exact k_iret hx hb hr hlk hP hD hS dX9_longest_13
set_option maxRecDepth 100000 in
theorem c_X9_longest (l : Launch) (g : gG) (q_t : Nat) (Q_t : Ad) (Q_t_flow : Ad) (Q_t_plan : Ad) (Q_t_routes : Ad) (N : Nat) (F_t : St) (F_t_flow : St) (F_t_plan : St) (F_t_routes : St) (x1 : Int32) (o : Int32 × (Nat → Int32) × (Nat → Int32)) (h : x_X9_longest N F_t F_t_flow F_t_plan F_t_routes x1 = some o) (sz : Nat) : MetI l yX9_longest (.code yX9_longest cX9_longest 2 (some .int) :: gW) 2 49 [.ref q_t, .int x1] o.1 g [oX9 q_t Q_t (F_t 10 0), oX0 (Q_t 3) Q_t_flow (F_t_flow 0 0) (F_t_flow 1 0), oX4 (Q_t 1) Q_t_plan (F_t_plan 0 0) (F_t_plan 1 0) (F_t_plan 2 0), ia g (Q_t_plan 5) 10 (F_t_plan 5), ia g (Q_t_plan 6) 10 (F_t_plan 6), ia g (Q_t_plan 7) 10 (F_t_plan 7), ia g (Q_t_plan 8) 10 (F_t_plan 8), oX6 (Q_t 9) Q_t_routes, ia g (Q_t_routes 0) 8 (F_t_routes 0), ia g (Q_t_routes 1) 8 (F_t_routes 1)] [oX9 q_t Q_t (F_t 10 0), oX0 (Q_t 3) Q_t_flow (F_t_flow 0 0) (F_t_flow 1 0), oX4 (Q_t 1) Q_t_plan (F_t_plan 0 0) (F_t_plan 1 0) (F_t_plan 2 0), ia g (Q_t_plan 5) 10 (F_t_plan 5), ia g (Q_t_plan 6) 10 (F_t_plan 6), ia g (Q_t_plan 7) 10 (F_t_plan 7), ia g (Q_t_plan 8) 10 (F_t_plan 8), oX6 (Q_t 9) Q_t_routes, ia g (Q_t_routes 0) 8 o.2.1, ia g (Q_t_routes 1) 8 o.2.2] sz :=
  mkI (av := [.ref q_t, .int x1]) (by decide +kernel) rfl (fun p e s m below meth c A E H locs ls hP hD hS hl => t_X9_longest E q_t Q_t Q_t_flow Q_t_plan Q_t_routes N F_t F_t_flow F_t_plan F_t_routes x1 o h H locs ls hP hD hS hl) sz
def x_X9_ways (N : Nat) (F_t : St) (F_t_flow : St) (F_t_plan : St) (F_t_routes : St) (x1 : Int32) : Option (Int32 × (Nat → Int32) × (Nat → Int32)) :=
  Option.bind (x_X4_hasPlace F_t_plan x1) (fun v_1 => if v_1 = 0 then (some ((-1000000001 : Int32), (F_t_routes 0), (F_t_routes 1))) else (Option.bind (x_X6_follow N F_t_routes F_t_plan (F_t_flow 1 0)) (fun v_3 => if x1 < 0 ∨ 8 ≤ x1.toNatClampNeg then none else some ((v_3.2 x1.toNatClampNeg), v_3.1, v_3.2))))
set_option maxHeartbeats 4000000 in
set_option maxRecDepth 100000 in
theorem t_X9_ways {p : Program} {l : Launch} {e : Env} {s : State} {m : MethodId} {args : Array Value} {below : List Frame} {meth : Method} {c : Code} {g : gG} {A : Nat → Prop} (E : En p s m args meth c g A cX9_ways 2 (.code yX9_ways cX9_ways 2 (some .int) :: gW) RX9 (some .int)) (q_t : Nat) (Q_t : Ad) (Q_t_flow : Ad) (Q_t_plan : Ad) (Q_t_routes : Ad) (N : Nat) (F_t : St) (F_t_flow : St) (F_t_plan : St) (F_t_routes : St) (x1 : Int32) (o : Int32 × (Nat → Int32) × (Nat → Int32)) (h : x_X9_ways N F_t F_t_flow F_t_plan F_t_routes x1 = some o) : WA p l e (rM 2 49) s m args below meth c g A (MQ below (QI g A o.1 [oX9 q_t Q_t (F_t 10 0), oX0 (Q_t 3) Q_t_flow (F_t_flow 0 0) (F_t_flow 1 0), oX4 (Q_t 1) Q_t_plan (F_t_plan 0 0) (F_t_plan 1 0) (F_t_plan 2 0), ia g (Q_t_plan 5) 10 (F_t_plan 5), ia g (Q_t_plan 6) 10 (F_t_plan 6), ia g (Q_t_plan 7) 10 (F_t_plan 7), ia g (Q_t_plan 8) 10 (F_t_plan 8), oX6 (Q_t 9) Q_t_routes, ia g (Q_t_routes 0) 8 o.2.1, ia g (Q_t_routes 1) 8 o.2.2]) args s 0 0 A) 2 0 [oX9 q_t Q_t (F_t 10 0), oX0 (Q_t 3) Q_t_flow (F_t_flow 0 0) (F_t_flow 1 0), oX4 (Q_t 1) Q_t_plan (F_t_plan 0 0) (F_t_plan 1 0) (F_t_plan 2 0), ia g (Q_t_plan 5) 10 (F_t_plan 5), ia g (Q_t_plan 6) 10 (F_t_plan 6), ia g (Q_t_plan 7) 10 (F_t_plan 7), ia g (Q_t_plan 8) 10 (F_t_plan 8), oX6 (Q_t 9) Q_t_routes, ia g (Q_t_routes 0) 8 (F_t_routes 0), ia g (Q_t_routes 1) 8 (F_t_routes 1)] [(0, .ref q_t), (1, .int x1)] [] := by
  obtain ⟨⟨hx, hb, hml, hown, hts⟩, hr, hK, hA, hlk⟩ := id E
  intro H locs ls hP hD hS hl
  refine lv_aload_n hx hb dX9_ways_0 rfl (lv_at hl 0 rfl) ?_
  refine va_get (ci := 9) (v := .ref (Q_t 1)) (C := RX9) (T := TX9) (N := 11) hx hb hts (fun w h => .tail _ (u_inX9 w h)) hown hK.1 hP 0 rfl rfl 1 (by decide) (hts _ (.tail _ u_fl_X9_19)) (fun _ h9 => h9) rfl dX9_ways_1 ?_
  refine lv_iload_n hx hb dX9_ways_4 rfl (lv_at hl 1 rfl) ?_
  obtain ⟨v_1, hv_1, h⟩ := ox_bind h
  refine kVi ⟨hx, hb, hml, hown, hts⟩ (c_X4_hasPlace l g (Q_t 1) Q_t_plan F_t_plan x1 v_1 hv_1 H.size) (gV u_ml_X9_139 u_im_X4_hasPlace u_se_X4_hasPlace u_ini_X4 u_co_X4_hasPlace) hd_X4_hasPlace ⟨rfl, rfl⟩ hK hP hD hS hA 2 4 rfl rfl [2] [1, 2, 0, 4, 5, 6, 7, 8, 9, 10] rfl rfl 1 rfl (w2 := [oX9 q_t Q_t (F_t 10 0), oX0 (Q_t 3) Q_t_flow (F_t_flow 0 0) (F_t_flow 1 0), oX4 (Q_t 1) Q_t_plan (F_t_plan 0 0) (F_t_plan 1 0) (F_t_plan 2 0), ia g (Q_t_plan 5) 10 (F_t_plan 5), ia g (Q_t_plan 6) 10 (F_t_plan 6), ia g (Q_t_plan 7) 10 (F_t_plan 7), ia g (Q_t_plan 8) 10 (F_t_plan 8), oX6 (Q_t 9) Q_t_routes, ia g (Q_t_routes 0) 8 (F_t_routes 0), ia g (Q_t_routes 1) 8 (F_t_routes 1)]) rfl rfl (As := [.int x1]) (rest := []) rfl hl.1 rfl rfl dX9_ways_5 (fun H locs hP hD hS => ?_)
  refine lv_if_ne (tgt := 14) hx hb dX9_ways_8 (by decide) (fun c_2 => ?_) (fun c_2 => ?_)
  · have h := ox_f c_2 h
    refine lv_aload_n hx hb dX9_ways_14 rfl (lv_at hl 0 rfl) ?_
    refine va_get (ci := 9) (v := .ref (Q_t 9)) (C := RX9) (T := TX9) (N := 11) hx hb hts (fun w h => .tail _ (u_inX9 w h)) hown hK.1 hP 0 rfl rfl 9 (by decide) (hts _ (.tail _ u_fl_X9_66)) (fun _ h9 => h9) rfl dX9_ways_15 ?_
    refine lv_aload_n hx hb dX9_ways_18 rfl (lv_at hl 0 rfl) ?_
    refine va_get (ci := 9) (v := .ref (Q_t 1)) (C := RX9) (T := TX9) (N := 11) hx hb hts (fun w h => .tail _ (u_inX9 w h)) hown hK.1 hP 0 rfl rfl 1 (by decide) (hts _ (.tail _ u_fl_X9_19)) (fun _ h9 => h9) rfl dX9_ways_19 ?_
    refine lv_aload_n hx hb dX9_ways_22 rfl (lv_at hl 0 rfl) ?_
    refine va_get (ci := 9) (v := .ref (Q_t 3)) (C := RX9) (T := TX9) (N := 11) hx hb hts (fun w h => .tail _ (u_inX9 w h)) hown hK.1 hP 0 rfl rfl 3 (by decide) (hts _ (.tail _ u_fl_X9_29)) (fun _ h9 => h9) rfl dX9_ways_23 ?_
    refine va_get (ci := 0) (v := .int (F_t_flow 1 0)) (C := RX0) (T := TX0) (N := 7) hx hb hts (fun w h => .tail _ (u_inX0 w h)) hown hK.1 hP 1 rfl rfl 1 (by decide) (hts _ (.tail _ u_fl_X9_119)) (fun _ h9 => h9) rfl dX9_ways_26 ?_
    obtain ⟨v_3, hv_3, h⟩ := ox_bind h
    refine kVv ⟨hx, hb, hml, hown, hts⟩ (c_X6_follow l g (Q_t 9) Q_t_routes (Q_t 1) Q_t_plan N F_t_routes F_t_plan (F_t_flow 1 0) v_3 hv_3 H.size) (gV u_ml_X9_232 u_im_X6_follow u_se_X6_follow u_ini_X6 u_co_X6_follow) hd_X6_follow ⟨rfl, rfl⟩ hK hP hD hS hA 7 6 rfl rfl [7, 8, 9, 2, 3, 4, 5, 6] [8, 9, 3, 4, 5, 6, 7, 0, 1, 2] rfl rfl 8 rfl (w2 := [oX9 q_t Q_t (F_t 10 0), oX0 (Q_t 3) Q_t_flow (F_t_flow 0 0) (F_t_flow 1 0), oX4 (Q_t 1) Q_t_plan (F_t_plan 0 0) (F_t_plan 1 0) (F_t_plan 2 0), ia g (Q_t_plan 5) 10 (F_t_plan 5), ia g (Q_t_plan 6) 10 (F_t_plan 6), ia g (Q_t_plan 7) 10 (F_t_plan 7), ia g (Q_t_plan 8) 10 (F_t_plan 8), oX6 (Q_t 9) Q_t_routes, ia g (Q_t_routes 0) 8 v_3.1, ia g (Q_t_routes 1) 8 v_3.2]) rfl rfl (As := [.ref (Q_t 1), .int (F_t_flow 1 0)]) (rest := []) rfl hl.1 rfl rfl dX9_ways_29 (fun H locs hP hD hS => ?_)
    refine lv_aload_n hx hb dX9_ways_32 rfl (lv_at hl 0 rfl) ?_
    refine va_get (ci := 9) (v := .ref (Q_t 9)) (C := RX9) (T := TX9) (N := 11) hx hb hts (fun w h => .tail _ (u_inX9 w h)) hown hK.1 hP 0 rfl rfl 9 (by decide) (hts _ (.tail _ u_fl_X9_66)) (fun _ h9 => h9) rfl dX9_ways_33 ?_
    refine va_get (ci := 6) (v := .ref (Q_t_routes 1)) (C := RX6) (T := TX6) (N := 2) hx hb hts (fun w h => .tail _ (u_inX6 w h)) hown hK.1 hP 7 rfl rfl 1 (by decide) (hts _ (.tail _ u_fl_X9_238)) (fun _ h9 => h9) rfl dX9_ways_36 ?_
    refine lv_iload_n hx hb dX9_ways_39 rfl (lv_at hl 1 rfl) ?_
    obtain ⟨hi_4, h⟩ := ox_chk h
    refine va_iald hx hb hK.1 hP 9 0 rfl rfl hi_4 dX9_ways_40 ?_
    obtain rfl := Option.some.inj h
    exact k_iret hx hb hr hlk hP hD hS dX9_ways_41
  · have h := ox_t c_2 h
    refine lv_ldc (v := (-1000000001 : Int32)) hx hb hown (hts _ (.tail _ u_k_X9_142)) dX9_ways_11 ?_
    obtain rfl := Option.some.inj h
    exact k_iret hx hb hr hlk hP hD hS dX9_ways_13
set_option maxRecDepth 100000 in
theorem c_X9_ways (l : Launch) (g : gG) (q_t : Nat) (Q_t : Ad) (Q_t_flow : Ad) (Q_t_plan : Ad) (Q_t_routes : Ad) (N : Nat) (F_t : St) (F_t_flow : St) (F_t_plan : St) (F_t_routes : St) (x1 : Int32) (o : Int32 × (Nat → Int32) × (Nat → Int32)) (h : x_X9_ways N F_t F_t_flow F_t_plan F_t_routes x1 = some o) (sz : Nat) : MetI l yX9_ways (.code yX9_ways cX9_ways 2 (some .int) :: gW) 2 49 [.ref q_t, .int x1] o.1 g [oX9 q_t Q_t (F_t 10 0), oX0 (Q_t 3) Q_t_flow (F_t_flow 0 0) (F_t_flow 1 0), oX4 (Q_t 1) Q_t_plan (F_t_plan 0 0) (F_t_plan 1 0) (F_t_plan 2 0), ia g (Q_t_plan 5) 10 (F_t_plan 5), ia g (Q_t_plan 6) 10 (F_t_plan 6), ia g (Q_t_plan 7) 10 (F_t_plan 7), ia g (Q_t_plan 8) 10 (F_t_plan 8), oX6 (Q_t 9) Q_t_routes, ia g (Q_t_routes 0) 8 (F_t_routes 0), ia g (Q_t_routes 1) 8 (F_t_routes 1)] [oX9 q_t Q_t (F_t 10 0), oX0 (Q_t 3) Q_t_flow (F_t_flow 0 0) (F_t_flow 1 0), oX4 (Q_t 1) Q_t_plan (F_t_plan 0 0) (F_t_plan 1 0) (F_t_plan 2 0), ia g (Q_t_plan 5) 10 (F_t_plan 5), ia g (Q_t_plan 6) 10 (F_t_plan 6), ia g (Q_t_plan 7) 10 (F_t_plan 7), ia g (Q_t_plan 8) 10 (F_t_plan 8), oX6 (Q_t 9) Q_t_routes, ia g (Q_t_routes 0) 8 o.2.1, ia g (Q_t_routes 1) 8 o.2.2] sz :=
  mkI (av := [.ref q_t, .int x1]) (by decide +kernel) rfl (fun p e s m below meth c A E H locs ls hP hD hS hl => t_X9_ways E q_t Q_t Q_t_flow Q_t_plan Q_t_routes N F_t F_t_flow F_t_plan F_t_routes x1 o h H locs ls hP hD hS hl) sz
def x_X9_firstBlocked_b37 (N : Nat) (F_t : St) (F_t_flow : St) (F_t_plan : St) (F_t_trial : St) (x1 : Int32) (x2 : Int32) : Option ((Int32 × Int32 × (Nat → Int32) × (Nat → Int32) × (Nat → Int32) × (Nat → Int32)) ⊕ ((Int32 × Int32 × (Nat → Int32) × (Nat → Int32) × (Nat → Int32) × (Nat → Int32)) ⊕ (Int32 × (Nat → Int32) × (Nat → Int32) × (Nat → Int32) × (Nat → Int32)))) :=
  if (99 : Int32) ≤ x2 then (some (.inr (.inr ((F_t_trial 0 0), (F_t_trial 2), (F_t_trial 4), (F_t_trial 5), (F_t_trial 6))))) else (Option.bind (x_X0_comeToSpring F_t_trial (1 : Int32)) (fun v_5 => Option.bind (x_X0_passHour N (va_up F_t_trial 6 v_5.2) F_t_plan) (fun v_6 => Option.bind (x_X0_blocked N (va_up (va_up (va_up (va_up (va_up F_t_trial 0 (fun _ => v_6.1)) 2 v_6.2.1) 4 v_6.2.2.1) 5 v_6.2.2.2.1) 6 v_6.2.2.2.2) F_t_plan) (fun v_7 => xl (v_7 &&& (x1 ^^^ (-1 : Int32))) (fun y_8 => if y_8 = 0 then (some (.inl ((x2 + (1 : Int32)), v_6.1, v_6.2.1, v_6.2.2.1, v_6.2.2.2.1, v_6.2.2.2.2))) else (some (.inr (.inl (y_8, v_6.1, v_6.2.1, v_6.2.2.1, v_6.2.2.2.1, v_6.2.2.2.2)))))))))
set_option maxHeartbeats 4000000 in
set_option maxRecDepth 100000 in
theorem t_X9_firstBlocked_b37 {p : Program} {l : Launch} {e : Env} {s : State} {m : MethodId} {args : Array Value} {below : List Frame} {meth : Method} {c : Code} {g : gG} {A : Nat → Prop} {Q : State → Prop} (E : En p s m args meth c g A cX9_firstBlocked 4 (.code yX9_firstBlocked cX9_firstBlocked 4 (some .int) :: gW) RX9 (some .int)) (q_t : Nat) (Q_t : Ad) (Q_t_flow : Ad) (Q_t_plan : Ad) (Q_t_trial : Ad) (N : Nat) (F_t : St) (F_t_flow : St) (F_t_plan : St) (F_t_trial : St) (x1 : Int32) (x2 : Int32) (o : (Int32 × Int32 × (Nat → Int32) × (Nat → Int32) × (Nat → Int32) × (Nat → Int32)) ⊕ ((Int32 × Int32 × (Nat → Int32) × (Nat → Int32) × (Nat → Int32) × (Nat → Int32)) ⊕ (Int32 × (Nat → Int32) × (Nat → Int32) × (Nat → Int32) × (Nat → Int32)))) (h : x_X9_firstBlocked_b37 N F_t F_t_flow F_t_plan F_t_trial x1 x2 = some o) (hc : ∀ z, o = .inl z → WA p l e (rM 4 93) s m args below meth c g A Q 4 37 [oX9 q_t Q_t (F_t 10 0), oX0 (Q_t 3) Q_t_flow (F_t_flow 0 0) (F_t_flow 1 0), ia g (Q_t_flow 2) 10 (F_t_flow 2), ia g (Q_t_flow 3) 10 (F_t_flow 3), ia g (Q_t_flow 4) 8 (F_t_flow 4), ia g (Q_t_flow 5) 64 (F_t_flow 5), ia g (Q_t_flow 6) 80 (F_t_flow 6), oX4 (Q_t 1) Q_t_plan (F_t_plan 0 0) (F_t_plan 1 0) (F_t_plan 2 0), ia g (Q_t_plan 3) 8 (F_t_plan 3), ia g (Q_t_plan 5) 10 (F_t_plan 5), ia g (Q_t_plan 6) 10 (F_t_plan 6), ia g (Q_t_plan 7) 10 (F_t_plan 7), oX0 (Q_t 4) Q_t_trial z.2.1 (F_t_trial 1 0), ia g (Q_t_trial 2) 10 z.2.2.1, ia g (Q_t_trial 3) 10 (F_t_trial 3), ia g (Q_t_trial 4) 8 z.2.2.2.1, ia g (Q_t_trial 5) 64 z.2.2.2.2.1, ia g (Q_t_trial 6) 80 z.2.2.2.2.2] [(0, .ref q_t), (1, .int x1), (2, .int z.1)] []) (he0 : ∀ v, o = .inr (.inl v) → WA p l e (rM 4 93) s m args below meth c g A Q 4 83 [oX9 q_t Q_t (F_t 10 0), oX0 (Q_t 3) Q_t_flow (F_t_flow 0 0) (F_t_flow 1 0), ia g (Q_t_flow 2) 10 (F_t_flow 2), ia g (Q_t_flow 3) 10 (F_t_flow 3), ia g (Q_t_flow 4) 8 (F_t_flow 4), ia g (Q_t_flow 5) 64 (F_t_flow 5), ia g (Q_t_flow 6) 80 (F_t_flow 6), oX4 (Q_t 1) Q_t_plan (F_t_plan 0 0) (F_t_plan 1 0) (F_t_plan 2 0), ia g (Q_t_plan 3) 8 (F_t_plan 3), ia g (Q_t_plan 5) 10 (F_t_plan 5), ia g (Q_t_plan 6) 10 (F_t_plan 6), ia g (Q_t_plan 7) 10 (F_t_plan 7), oX0 (Q_t 4) Q_t_trial v.2.1 (F_t_trial 1 0), ia g (Q_t_trial 2) 10 v.2.2.1, ia g (Q_t_trial 3) 10 (F_t_trial 3), ia g (Q_t_trial 4) 8 v.2.2.2.1, ia g (Q_t_trial 5) 64 v.2.2.2.2.1, ia g (Q_t_trial 6) 80 v.2.2.2.2.2] [(3, .int v.1)] []) (he1 : ∀ v, o = .inr (.inr v) → WA p l e (rM 4 93) s m args below meth c g A Q 4 94 [oX9 q_t Q_t (F_t 10 0), oX0 (Q_t 3) Q_t_flow (F_t_flow 0 0) (F_t_flow 1 0), ia g (Q_t_flow 2) 10 (F_t_flow 2), ia g (Q_t_flow 3) 10 (F_t_flow 3), ia g (Q_t_flow 4) 8 (F_t_flow 4), ia g (Q_t_flow 5) 64 (F_t_flow 5), ia g (Q_t_flow 6) 80 (F_t_flow 6), oX4 (Q_t 1) Q_t_plan (F_t_plan 0 0) (F_t_plan 1 0) (F_t_plan 2 0), ia g (Q_t_plan 3) 8 (F_t_plan 3), ia g (Q_t_plan 5) 10 (F_t_plan 5), ia g (Q_t_plan 6) 10 (F_t_plan 6), ia g (Q_t_plan 7) 10 (F_t_plan 7), oX0 (Q_t 4) Q_t_trial v.1 (F_t_trial 1 0), ia g (Q_t_trial 2) 10 v.2.1, ia g (Q_t_trial 3) 10 (F_t_trial 3), ia g (Q_t_trial 4) 8 v.2.2.1, ia g (Q_t_trial 5) 64 v.2.2.2.1, ia g (Q_t_trial 6) 80 v.2.2.2.2] [] []) : WA p l e (rM 4 93) s m args below meth c g A Q 4 37 [oX9 q_t Q_t (F_t 10 0), oX0 (Q_t 3) Q_t_flow (F_t_flow 0 0) (F_t_flow 1 0), ia g (Q_t_flow 2) 10 (F_t_flow 2), ia g (Q_t_flow 3) 10 (F_t_flow 3), ia g (Q_t_flow 4) 8 (F_t_flow 4), ia g (Q_t_flow 5) 64 (F_t_flow 5), ia g (Q_t_flow 6) 80 (F_t_flow 6), oX4 (Q_t 1) Q_t_plan (F_t_plan 0 0) (F_t_plan 1 0) (F_t_plan 2 0), ia g (Q_t_plan 3) 8 (F_t_plan 3), ia g (Q_t_plan 5) 10 (F_t_plan 5), ia g (Q_t_plan 6) 10 (F_t_plan 6), ia g (Q_t_plan 7) 10 (F_t_plan 7), oX0 (Q_t 4) Q_t_trial (F_t_trial 0 0) (F_t_trial 1 0), ia g (Q_t_trial 2) 10 (F_t_trial 2), ia g (Q_t_trial 3) 10 (F_t_trial 3), ia g (Q_t_trial 4) 8 (F_t_trial 4), ia g (Q_t_trial 5) 64 (F_t_trial 5), ia g (Q_t_trial 6) 80 (F_t_trial 6)] [(0, .ref q_t), (1, .int x1), (2, .int x2)] [] := by
  obtain ⟨⟨hx, hb, hml, hown, hts⟩, hr, hK, hA, hlk⟩ := id E
  intro H locs ls hP hD hS hl
  refine lv_iload_n hx hb dX9_firstBlocked_37 rfl (lv_at hl 2 rfl) ?_
  refine lv_bipush (v := (99 : Int32)) hx hb dX9_firstBlocked_38 (by decide) ?_
  refine lv_icmp_ge (tgt := 94) hx hb dX9_firstBlocked_40 (by decide) (fun c_4 => ?_) (fun c_4 => ?_)
  · have h := ox_t c_4 h
    obtain rfl := Option.some.inj h
    exact he1 _ rfl H locs ls hP hD hS (lv_sub hl [] rfl)
  · have h := ox_f c_4 h
    refine lv_aload_n hx hb dX9_firstBlocked_43 rfl (lv_at hl 0 rfl) ?_
    refine va_get (ci := 9) (v := .ref (Q_t 4)) (C := RX9) (T := TX9) (N := 11) hx hb hts (fun w h => .tail _ (u_inX9 w h)) hown hK.1 hP 0 rfl rfl 4 (by decide) (hts _ (.tail _ u_fl_X9_33)) (fun _ h9 => h9) rfl dX9_firstBlocked_44 ?_
    refine lv_iconst (v := (1 : Int32)) hx hb dX9_firstBlocked_47 (by decide) ?_
    obtain ⟨v_5, hv_5, h⟩ := ox_bind h
    refine kVi ⟨hx, hb, hml, hown, hts⟩ (c_X0_comeToSpring l g (Q_t 4) Q_t_trial F_t_trial (1 : Int32) v_5 hv_5 H.size) (gV u_ml_X9_186 u_im_X0_comeToSpring u_se_X0_comeToSpring u_ini_X0 u_co_X0_comeToSpring) hd_X0_comeToSpring ⟨rfl, rfl⟩ hK hP hD hS hA 12 0 rfl rfl [12, 17] [2, 3, 4, 5, 6, 7, 8, 9, 10, 11, 12, 13, 0, 15, 16, 17, 18, 1] rfl rfl 2 rfl (w2 := [oX9 q_t Q_t (F_t 10 0), oX0 (Q_t 3) Q_t_flow (F_t_flow 0 0) (F_t_flow 1 0), ia g (Q_t_flow 2) 10 (F_t_flow 2), ia g (Q_t_flow 3) 10 (F_t_flow 3), ia g (Q_t_flow 4) 8 (F_t_flow 4), ia g (Q_t_flow 5) 64 (F_t_flow 5), ia g (Q_t_flow 6) 80 (F_t_flow 6), oX4 (Q_t 1) Q_t_plan (F_t_plan 0 0) (F_t_plan 1 0) (F_t_plan 2 0), ia g (Q_t_plan 3) 8 (F_t_plan 3), ia g (Q_t_plan 5) 10 (F_t_plan 5), ia g (Q_t_plan 6) 10 (F_t_plan 6), ia g (Q_t_plan 7) 10 (F_t_plan 7), oX0 (Q_t 4) Q_t_trial (F_t_trial 0 0) (F_t_trial 1 0), ia g (Q_t_trial 2) 10 (F_t_trial 2), ia g (Q_t_trial 3) 10 (F_t_trial 3), ia g (Q_t_trial 4) 8 (F_t_trial 4), ia g (Q_t_trial 5) 64 (F_t_trial 5), ia g (Q_t_trial 6) 80 v_5.2]) rfl rfl (As := [.int (1 : Int32)]) (rest := []) rfl hl.1 rfl rfl dX9_firstBlocked_48 (fun H locs hP hD hS => ?_)
    refine lv_pop hx hb dX9_firstBlocked_51 rfl ?_
    refine lv_aload_n hx hb dX9_firstBlocked_52 rfl (lv_at hl 0 rfl) ?_
    refine va_get (ci := 9) (v := .ref (Q_t 4)) (C := RX9) (T := TX9) (N := 11) hx hb hts (fun w h => .tail _ (u_inX9 w h)) hown hK.1 hP 0 rfl rfl 4 (by decide) (hts _ (.tail _ u_fl_X9_33)) (fun _ h9 => h9) rfl dX9_firstBlocked_53 ?_
    refine lv_aload_n hx hb dX9_firstBlocked_56 rfl (lv_at hl 0 rfl) ?_
    refine va_get (ci := 9) (v := .ref (Q_t 1)) (C := RX9) (T := TX9) (N := 11) hx hb hts (fun w h => .tail _ (u_inX9 w h)) hown hK.1 hP 0 rfl rfl 1 (by decide) (hts _ (.tail _ u_fl_X9_19)) (fun _ h9 => h9) rfl dX9_firstBlocked_57 ?_
    obtain ⟨v_6, hv_6, h⟩ := ox_bind h
    refine kVv ⟨hx, hb, hml, hown, hts⟩ (c_X0_passHour l g (Q_t 4) Q_t_trial (Q_t 1) Q_t_plan N (va_up F_t_trial 6 v_5.2) F_t_plan v_6 hv_6 H.size) (gV u_ml_X9_193 u_im_X0_passHour u_se_X0_passHour u_ini_X0 u_co_X0_passHour) hd_X0_passHour ⟨rfl, rfl⟩ hK hP hD hS hA 12 0 rfl rfl [12, 13, 14, 15, 16, 17, 7, 8, 9, 10, 11] [11, 12, 13, 14, 15, 16, 17, 6, 7, 8, 9, 10, 0, 1, 2, 3, 4, 5] rfl rfl 11 rfl (w2 := [oX9 q_t Q_t (F_t 10 0), oX0 (Q_t 3) Q_t_flow (F_t_flow 0 0) (F_t_flow 1 0), ia g (Q_t_flow 2) 10 (F_t_flow 2), ia g (Q_t_flow 3) 10 (F_t_flow 3), ia g (Q_t_flow 4) 8 (F_t_flow 4), ia g (Q_t_flow 5) 64 (F_t_flow 5), ia g (Q_t_flow 6) 80 (F_t_flow 6), oX4 (Q_t 1) Q_t_plan (F_t_plan 0 0) (F_t_plan 1 0) (F_t_plan 2 0), ia g (Q_t_plan 3) 8 (F_t_plan 3), ia g (Q_t_plan 5) 10 (F_t_plan 5), ia g (Q_t_plan 6) 10 (F_t_plan 6), ia g (Q_t_plan 7) 10 (F_t_plan 7), oX0 (Q_t 4) Q_t_trial v_6.1 (F_t_trial 1 0), ia g (Q_t_trial 2) 10 v_6.2.1, ia g (Q_t_trial 3) 10 (F_t_trial 3), ia g (Q_t_trial 4) 8 v_6.2.2.1, ia g (Q_t_trial 5) 64 v_6.2.2.2.1, ia g (Q_t_trial 6) 80 v_6.2.2.2.2]) rfl rfl (As := [.ref (Q_t 1)]) (rest := []) rfl hl.1 rfl rfl dX9_firstBlocked_60 (fun H locs hP hD hS => ?_)
    refine lv_aload_n hx hb dX9_firstBlocked_63 rfl (lv_at hl 0 rfl) ?_
    refine va_get (ci := 9) (v := .ref (Q_t 4)) (C := RX9) (T := TX9) (N := 11) hx hb hts (fun w h => .tail _ (u_inX9 w h)) hown hK.1 hP 0 rfl rfl 4 (by decide) (hts _ (.tail _ u_fl_X9_33)) (fun _ h9 => h9) rfl dX9_firstBlocked_64 ?_
    refine lv_aload_n hx hb dX9_firstBlocked_67 rfl (lv_at hl 0 rfl) ?_
    refine va_get (ci := 9) (v := .ref (Q_t 1)) (C := RX9) (T := TX9) (N := 11) hx hb hts (fun w h => .tail _ (u_inX9 w h)) hown hK.1 hP 0 rfl rfl 1 (by decide) (hts _ (.tail _ u_fl_X9_19)) (fun _ h9 => h9) rfl dX9_firstBlocked_68 ?_
    obtain ⟨v_7, hv_7, h⟩ := ox_bind h
    refine kVi ⟨hx, hb, hml, hown, hts⟩ (c_X0_blocked l g (Q_t 4) Q_t_trial (Q_t 1) Q_t_plan N (va_up (va_up (va_up (va_up (va_up F_t_trial 0 (fun _ => v_6.1)) 2 v_6.2.1) 4 v_6.2.2.1) 5 v_6.2.2.2.1) 6 v_6.2.2.2.2) F_t_plan v_7 hv_7 H.size) (gV u_ml_X9_122 u_im_X0_blocked u_se_X0_blocked u_ini_X0 u_co_X0_blocked) hd_X0_blocked ⟨rfl, rfl⟩ hK hP hD hS hA 12 0 rfl rfl [12, 13, 7] [3, 4, 5, 6, 7, 8, 9, 2, 11, 12, 13, 14, 0, 1, 17, 18, 19, 20] rfl rfl 3 rfl (w2 := [oX9 q_t Q_t (F_t 10 0), oX0 (Q_t 3) Q_t_flow (F_t_flow 0 0) (F_t_flow 1 0), ia g (Q_t_flow 2) 10 (F_t_flow 2), ia g (Q_t_flow 3) 10 (F_t_flow 3), ia g (Q_t_flow 4) 8 (F_t_flow 4), ia g (Q_t_flow 5) 64 (F_t_flow 5), ia g (Q_t_flow 6) 80 (F_t_flow 6), oX4 (Q_t 1) Q_t_plan (F_t_plan 0 0) (F_t_plan 1 0) (F_t_plan 2 0), ia g (Q_t_plan 3) 8 (F_t_plan 3), ia g (Q_t_plan 5) 10 (F_t_plan 5), ia g (Q_t_plan 6) 10 (F_t_plan 6), ia g (Q_t_plan 7) 10 (F_t_plan 7), oX0 (Q_t 4) Q_t_trial v_6.1 (F_t_trial 1 0), ia g (Q_t_trial 2) 10 v_6.2.1, ia g (Q_t_trial 3) 10 (F_t_trial 3), ia g (Q_t_trial 4) 8 v_6.2.2.1, ia g (Q_t_trial 5) 64 v_6.2.2.2.1, ia g (Q_t_trial 6) 80 v_6.2.2.2.2]) rfl rfl (As := [.ref (Q_t 1)]) (rest := []) rfl hl.1 rfl rfl dX9_firstBlocked_71 (fun H locs hP hD hS => ?_)
    refine lv_iload_n hx hb dX9_firstBlocked_74 rfl (lv_at hl 1 rfl) ?_
    refine lv_iconst (v := (-1 : Int32)) hx hb dX9_firstBlocked_75 (by decide) ?_
    refine lv_ixor hx hb dX9_firstBlocked_76 ?_
    refine lv_iand hx hb dX9_firstBlocked_77 ?_
    refine lv_topi (fun y_8 ey_8 => ?_)
    have h := xl_at ey_8 h
    refine lv_istore_n (lv' := [(3, .int y_8), (0, .ref q_t), (1, .int x1), (2, .int x2)]) hx hb dX9_firstBlocked_78 rfl hl (by decide) rfl (fun ls hl => ?_)
    refine lv_iload_n hx hb dX9_firstBlocked_79 rfl (lv_at hl 0 rfl) ?_
    refine lv_if_eq (tgt := 88) hx hb dX9_firstBlocked_80 (by decide) (fun c_9 => ?_) (fun c_9 => ?_)
    · have h := ox_t c_9 h
      refine lv_iinc (v := (x2 + (1 : Int32))) (lv' := [(2, .int (x2 + (1 : Int32))), (3, .int y_8), (0, .ref q_t), (1, .int x1)]) hx hb dX9_firstBlocked_88 hl (k := 3) rfl rfl (by decide) rfl (fun ls hl => ?_)
      refine lv_goto (tgt := 37) hx hb dX9_firstBlocked_91 (by decide) ?_
      obtain rfl := Option.some.inj h
      exact hc _ rfl H locs ls hP hD hS (lv_sub hl [2, 3, 0] rfl)
    · have h := ox_f c_9 h
      obtain rfl := Option.some.inj h
      exact he0 _ rfl H locs ls hP hD hS (lv_sub hl [0] rfl)
def x_X9_firstBlocked (N : Nat) (F_t : St) (F_t_flow : St) (F_t_plan : St) (F_t_trial : St) : Option (Int32 × Int32 × Int32 × (Nat → Int32) × (Nat → Int32) × (Nat → Int32) × (Nat → Int32) × (Nat → Int32)) :=
  if (F_t_plan 1 0) = 0 then (some ((-1 : Int32), (F_t_trial 0 0), (F_t_trial 1 0), (F_t_trial 2), (F_t_trial 3), (F_t_trial 4), (F_t_trial 5), (F_t_trial 6))) else (Option.bind (x_X0_copyFrom F_t_trial F_t_flow) (fun v_2 => Option.bind (x_X0_blocked N (va_up (va_up (va_up (va_up (va_up (va_up (va_up F_t_trial 0 (fun _ => v_2.1)) 1 (fun _ => v_2.2.1)) 2 v_2.2.2.1) 3 v_2.2.2.2.1) 4 v_2.2.2.2.2.1) 5 v_2.2.2.2.2.2.1) 6 v_2.2.2.2.2.2.2) F_t_plan) (fun v_3 => Option.bind (lpc (fun (z : Int32 × Int32 × (Nat → Int32) × (Nat → Int32) × (Nat → Int32) × (Nat → Int32)) => x_X9_firstBlocked_b37 N F_t F_t_flow F_t_plan (va_up (va_up (va_up (va_up (va_up (va_up (va_up F_t_trial 0 (fun _ => z.2.1)) 1 (fun _ => v_2.2.1)) 2 z.2.2.1) 3 v_2.2.2.2.1) 4 z.2.2.2.1) 5 z.2.2.2.2.1) 6 z.2.2.2.2.2) v_3 z.1) N ((0 : Int32), v_2.1, v_2.2.2.1, v_2.2.2.2.2.1, v_2.2.2.2.2.2.1, v_2.2.2.2.2.2.2)) (fun v_10 => Sum.elim (fun v_10 => Option.bind (x_J6_numberOfTrailingZeros_0f7a4 v_10.1) (fun v_11 => some (v_11, v_10.2.1, v_2.2.1, v_10.2.2.1, v_2.2.2.2.1, v_10.2.2.2.1, v_10.2.2.2.2.1, v_10.2.2.2.2.2))) (fun v_10 => some ((-1 : Int32), v_10.1, v_2.2.1, v_10.2.1, v_2.2.2.2.1, v_10.2.2.1, v_10.2.2.2.1, v_10.2.2.2.2)) v_10))))
set_option maxHeartbeats 4000000 in
set_option maxRecDepth 100000 in
theorem t_X9_firstBlocked {p : Program} {l : Launch} {e : Env} {s : State} {m : MethodId} {args : Array Value} {below : List Frame} {meth : Method} {c : Code} {g : gG} {A : Nat → Prop} (E : En p s m args meth c g A cX9_firstBlocked 4 (.code yX9_firstBlocked cX9_firstBlocked 4 (some .int) :: gW) RX9 (some .int)) (q_t : Nat) (Q_t : Ad) (Q_t_flow : Ad) (Q_t_plan : Ad) (Q_t_trial : Ad) (N : Nat) (F_t : St) (F_t_flow : St) (F_t_plan : St) (F_t_trial : St) (o : Int32 × Int32 × Int32 × (Nat → Int32) × (Nat → Int32) × (Nat → Int32) × (Nat → Int32) × (Nat → Int32)) (h : x_X9_firstBlocked N F_t F_t_flow F_t_plan F_t_trial = some o) : WA p l e (rM 4 93) s m args below meth c g A (MQ below (QI g A o.1 [oX9 q_t Q_t (F_t 10 0), oX0 (Q_t 3) Q_t_flow (F_t_flow 0 0) (F_t_flow 1 0), ia g (Q_t_flow 2) 10 (F_t_flow 2), ia g (Q_t_flow 3) 10 (F_t_flow 3), ia g (Q_t_flow 4) 8 (F_t_flow 4), ia g (Q_t_flow 5) 64 (F_t_flow 5), ia g (Q_t_flow 6) 80 (F_t_flow 6), oX4 (Q_t 1) Q_t_plan (F_t_plan 0 0) (F_t_plan 1 0) (F_t_plan 2 0), ia g (Q_t_plan 3) 8 (F_t_plan 3), ia g (Q_t_plan 5) 10 (F_t_plan 5), ia g (Q_t_plan 6) 10 (F_t_plan 6), ia g (Q_t_plan 7) 10 (F_t_plan 7), oX0 (Q_t 4) Q_t_trial o.2.1 o.2.2.1, ia g (Q_t_trial 2) 10 o.2.2.2.1, ia g (Q_t_trial 3) 10 o.2.2.2.2.1, ia g (Q_t_trial 4) 8 o.2.2.2.2.2.1, ia g (Q_t_trial 5) 64 o.2.2.2.2.2.2.1, ia g (Q_t_trial 6) 80 o.2.2.2.2.2.2.2]) args s 0 0 A) 4 0 [oX9 q_t Q_t (F_t 10 0), oX0 (Q_t 3) Q_t_flow (F_t_flow 0 0) (F_t_flow 1 0), ia g (Q_t_flow 2) 10 (F_t_flow 2), ia g (Q_t_flow 3) 10 (F_t_flow 3), ia g (Q_t_flow 4) 8 (F_t_flow 4), ia g (Q_t_flow 5) 64 (F_t_flow 5), ia g (Q_t_flow 6) 80 (F_t_flow 6), oX4 (Q_t 1) Q_t_plan (F_t_plan 0 0) (F_t_plan 1 0) (F_t_plan 2 0), ia g (Q_t_plan 3) 8 (F_t_plan 3), ia g (Q_t_plan 5) 10 (F_t_plan 5), ia g (Q_t_plan 6) 10 (F_t_plan 6), ia g (Q_t_plan 7) 10 (F_t_plan 7), oX0 (Q_t 4) Q_t_trial (F_t_trial 0 0) (F_t_trial 1 0), ia g (Q_t_trial 2) 10 (F_t_trial 2), ia g (Q_t_trial 3) 10 (F_t_trial 3), ia g (Q_t_trial 4) 8 (F_t_trial 4), ia g (Q_t_trial 5) 64 (F_t_trial 5), ia g (Q_t_trial 6) 80 (F_t_trial 6)] [(0, .ref q_t)] [] := by
  obtain ⟨⟨hx, hb, hml, hown, hts⟩, hr, hK, hA, hlk⟩ := id E
  intro H locs ls hP hD hS hl
  refine lv_aload_n hx hb dX9_firstBlocked_0 rfl (lv_at hl 0 rfl) ?_
  refine va_get (ci := 9) (v := .ref (Q_t 1)) (C := RX9) (T := TX9) (N := 11) hx hb hts (fun w h => .tail _ (u_inX9 w h)) hown hK.1 hP 0 rfl rfl 1 (by decide) (hts _ (.tail _ u_fl_X9_19)) (fun _ h9 => h9) rfl dX9_firstBlocked_1 ?_
  refine va_get (ci := 4) (v := .int (F_t_plan 1 0)) (C := RX4) (T := TX4) (N := 9) hx hb hts (fun w h => .tail _ (u_inX4 w h)) hown hK.1 hP 7 rfl rfl 1 (by decide) (hts _ (.tail _ u_fl_X9_104)) (fun _ h9 => h9) rfl dX9_firstBlocked_4 ?_
  refine lv_if_ne (tgt := 12) hx hb dX9_firstBlocked_7 (by decide) (fun c_1 => ?_) (fun c_1 => ?_)
  · have h := ox_f c_1 h
    refine lv_aload_n hx hb dX9_firstBlocked_12 rfl (lv_at hl 0 rfl) ?_
    refine va_get (ci := 9) (v := .ref (Q_t 4)) (C := RX9) (T := TX9) (N := 11) hx hb hts (fun w h => .tail _ (u_inX9 w h)) hown hK.1 hP 0 rfl rfl 4 (by decide) (hts _ (.tail _ u_fl_X9_33)) (fun _ h9 => h9) rfl dX9_firstBlocked_13 ?_
    refine lv_aload_n hx hb dX9_firstBlocked_16 rfl (lv_at hl 0 rfl) ?_
    refine va_get (ci := 9) (v := .ref (Q_t 3)) (C := RX9) (T := TX9) (N := 11) hx hb hts (fun w h => .tail _ (u_inX9 w h)) hown hK.1 hP 0 rfl rfl 3 (by decide) (hts _ (.tail _ u_fl_X9_29)) (fun _ h9 => h9) rfl dX9_firstBlocked_17 ?_
    obtain ⟨v_2, hv_2, h⟩ := ox_bind h
    refine kVv ⟨hx, hb, hml, hown, hts⟩ (c_X0_copyFrom l g (Q_t 4) Q_t_trial (Q_t 3) Q_t_flow F_t_trial F_t_flow v_2 hv_2 H.size) (gV u_ml_X9_240 u_im_X0_copyFrom u_se_X0_copyFrom u_ini_X0 u_co_X0_copyFrom) hd_X0_copyFrom ⟨rfl, rfl⟩ hK hP hD hS hA 12 0 rfl rfl [12, 13, 14, 15, 16, 17, 1, 2, 3, 4, 5, 6] [12, 6, 7, 8, 9, 10, 11, 19, 20, 21, 22, 23, 0, 1, 2, 3, 4, 5] rfl rfl 12 rfl (w2 := [oX9 q_t Q_t (F_t 10 0), oX0 (Q_t 3) Q_t_flow (F_t_flow 0 0) (F_t_flow 1 0), ia g (Q_t_flow 2) 10 (F_t_flow 2), ia g (Q_t_flow 3) 10 (F_t_flow 3), ia g (Q_t_flow 4) 8 (F_t_flow 4), ia g (Q_t_flow 5) 64 (F_t_flow 5), ia g (Q_t_flow 6) 80 (F_t_flow 6), oX4 (Q_t 1) Q_t_plan (F_t_plan 0 0) (F_t_plan 1 0) (F_t_plan 2 0), ia g (Q_t_plan 3) 8 (F_t_plan 3), ia g (Q_t_plan 5) 10 (F_t_plan 5), ia g (Q_t_plan 6) 10 (F_t_plan 6), ia g (Q_t_plan 7) 10 (F_t_plan 7), oX0 (Q_t 4) Q_t_trial v_2.1 v_2.2.1, ia g (Q_t_trial 2) 10 v_2.2.2.1, ia g (Q_t_trial 3) 10 v_2.2.2.2.1, ia g (Q_t_trial 4) 8 v_2.2.2.2.2.1, ia g (Q_t_trial 5) 64 v_2.2.2.2.2.2.1, ia g (Q_t_trial 6) 80 v_2.2.2.2.2.2.2]) rfl rfl (As := [.ref (Q_t 3)]) (rest := []) rfl hl.1 rfl rfl dX9_firstBlocked_20 (fun H locs hP hD hS => ?_)
    refine lv_aload_n hx hb dX9_firstBlocked_23 rfl (lv_at hl 0 rfl) ?_
    refine va_get (ci := 9) (v := .ref (Q_t 4)) (C := RX9) (T := TX9) (N := 11) hx hb hts (fun w h => .tail _ (u_inX9 w h)) hown hK.1 hP 0 rfl rfl 4 (by decide) (hts _ (.tail _ u_fl_X9_33)) (fun _ h9 => h9) rfl dX9_firstBlocked_24 ?_
    refine lv_aload_n hx hb dX9_firstBlocked_27 rfl (lv_at hl 0 rfl) ?_
    refine va_get (ci := 9) (v := .ref (Q_t 1)) (C := RX9) (T := TX9) (N := 11) hx hb hts (fun w h => .tail _ (u_inX9 w h)) hown hK.1 hP 0 rfl rfl 1 (by decide) (hts _ (.tail _ u_fl_X9_19)) (fun _ h9 => h9) rfl dX9_firstBlocked_28 ?_
    obtain ⟨v_3, hv_3, h⟩ := ox_bind h
    refine kVi ⟨hx, hb, hml, hown, hts⟩ (c_X0_blocked l g (Q_t 4) Q_t_trial (Q_t 1) Q_t_plan N (va_up (va_up (va_up (va_up (va_up (va_up (va_up F_t_trial 0 (fun _ => v_2.1)) 1 (fun _ => v_2.2.1)) 2 v_2.2.2.1) 3 v_2.2.2.2.1) 4 v_2.2.2.2.2.1) 5 v_2.2.2.2.2.2.1) 6 v_2.2.2.2.2.2.2) F_t_plan v_3 hv_3 H.size) (gV u_ml_X9_122 u_im_X0_blocked u_se_X0_blocked u_ini_X0 u_co_X0_blocked) hd_X0_blocked ⟨rfl, rfl⟩ hK hP hD hS hA 12 0 rfl rfl [12, 13, 7] [3, 4, 5, 6, 7, 8, 9, 2, 11, 12, 13, 14, 0, 1, 17, 18, 19, 20] rfl rfl 3 rfl (w2 := [oX9 q_t Q_t (F_t 10 0), oX0 (Q_t 3) Q_t_flow (F_t_flow 0 0) (F_t_flow 1 0), ia g (Q_t_flow 2) 10 (F_t_flow 2), ia g (Q_t_flow 3) 10 (F_t_flow 3), ia g (Q_t_flow 4) 8 (F_t_flow 4), ia g (Q_t_flow 5) 64 (F_t_flow 5), ia g (Q_t_flow 6) 80 (F_t_flow 6), oX4 (Q_t 1) Q_t_plan (F_t_plan 0 0) (F_t_plan 1 0) (F_t_plan 2 0), ia g (Q_t_plan 3) 8 (F_t_plan 3), ia g (Q_t_plan 5) 10 (F_t_plan 5), ia g (Q_t_plan 6) 10 (F_t_plan 6), ia g (Q_t_plan 7) 10 (F_t_plan 7), oX0 (Q_t 4) Q_t_trial v_2.1 v_2.2.1, ia g (Q_t_trial 2) 10 v_2.2.2.1, ia g (Q_t_trial 3) 10 v_2.2.2.2.1, ia g (Q_t_trial 4) 8 v_2.2.2.2.2.1, ia g (Q_t_trial 5) 64 v_2.2.2.2.2.2.1, ia g (Q_t_trial 6) 80 v_2.2.2.2.2.2.2]) rfl rfl (As := [.ref (Q_t 1)]) (rest := []) rfl hl.1 rfl rfl dX9_firstBlocked_31 (fun H locs hP hD hS => ?_)
    refine lv_istore_n (lv' := [(1, .int v_3), (0, .ref q_t)]) hx hb dX9_firstBlocked_34 rfl hl (by decide) rfl (fun ls hl => ?_)
    refine lv_iconst (v := (0 : Int32)) hx hb dX9_firstBlocked_35 (by decide) ?_
    refine lv_istore_n (lv' := [(2, .int (0 : Int32)), (1, .int v_3), (0, .ref q_t)]) hx hb dX9_firstBlocked_36 rfl hl (by decide) rfl (fun ls hl => ?_)
    obtain ⟨v_10, hv_10, h⟩ := ox_bind h
    refine lpc_W (Wh := fun (z : Int32 × Int32 × (Nat → Int32) × (Nat → Int32) × (Nat → Int32) × (Nat → Int32)) => WA p l e (rM 4 93) s m args below meth c g A (MQ below (QI g A o.1 [oX9 q_t Q_t (F_t 10 0), oX0 (Q_t 3) Q_t_flow (F_t_flow 0 0) (F_t_flow 1 0), ia g (Q_t_flow 2) 10 (F_t_flow 2), ia g (Q_t_flow 3) 10 (F_t_flow 3), ia g (Q_t_flow 4) 8 (F_t_flow 4), ia g (Q_t_flow 5) 64 (F_t_flow 5), ia g (Q_t_flow 6) 80 (F_t_flow 6), oX4 (Q_t 1) Q_t_plan (F_t_plan 0 0) (F_t_plan 1 0) (F_t_plan 2 0), ia g (Q_t_plan 3) 8 (F_t_plan 3), ia g (Q_t_plan 5) 10 (F_t_plan 5), ia g (Q_t_plan 6) 10 (F_t_plan 6), ia g (Q_t_plan 7) 10 (F_t_plan 7), oX0 (Q_t 4) Q_t_trial o.2.1 o.2.2.1, ia g (Q_t_trial 2) 10 o.2.2.2.1, ia g (Q_t_trial 3) 10 o.2.2.2.2.1, ia g (Q_t_trial 4) 8 o.2.2.2.2.2.1, ia g (Q_t_trial 5) 64 o.2.2.2.2.2.2.1, ia g (Q_t_trial 6) 80 o.2.2.2.2.2.2.2]) args s 0 0 A) 4 37 [oX9 q_t Q_t (F_t 10 0), oX0 (Q_t 3) Q_t_flow (F_t_flow 0 0) (F_t_flow 1 0), ia g (Q_t_flow 2) 10 (F_t_flow 2), ia g (Q_t_flow 3) 10 (F_t_flow 3), ia g (Q_t_flow 4) 8 (F_t_flow 4), ia g (Q_t_flow 5) 64 (F_t_flow 5), ia g (Q_t_flow 6) 80 (F_t_flow 6), oX4 (Q_t 1) Q_t_plan (F_t_plan 0 0) (F_t_plan 1 0) (F_t_plan 2 0), ia g (Q_t_plan 3) 8 (F_t_plan 3), ia g (Q_t_plan 5) 10 (F_t_plan 5), ia g (Q_t_plan 6) 10 (F_t_plan 6), ia g (Q_t_plan 7) 10 (F_t_plan 7), oX0 (Q_t 4) Q_t_trial z.2.1 v_2.2.1, ia g (Q_t_trial 2) 10 z.2.2.1, ia g (Q_t_trial 3) 10 v_2.2.2.2.1, ia g (Q_t_trial 4) 8 z.2.2.2.1, ia g (Q_t_trial 5) 64 z.2.2.2.2.1, ia g (Q_t_trial 6) 80 z.2.2.2.2.2] [(0, .ref q_t), (1, .int v_3), (2, .int z.1)] []) (We := Sum.elim (fun (v : Int32 × Int32 × (Nat → Int32) × (Nat → Int32) × (Nat → Int32) × (Nat → Int32)) => WA p l e (rM 4 93) s m args below meth c g A (MQ below (QI g A o.1 [oX9 q_t Q_t (F_t 10 0), oX0 (Q_t 3) Q_t_flow (F_t_flow 0 0) (F_t_flow 1 0), ia g (Q_t_flow 2) 10 (F_t_flow 2), ia g (Q_t_flow 3) 10 (F_t_flow 3), ia g (Q_t_flow 4) 8 (F_t_flow 4), ia g (Q_t_flow 5) 64 (F_t_flow 5), ia g (Q_t_flow 6) 80 (F_t_flow 6), oX4 (Q_t 1) Q_t_plan (F_t_plan 0 0) (F_t_plan 1 0) (F_t_plan 2 0), ia g (Q_t_plan 3) 8 (F_t_plan 3), ia g (Q_t_plan 5) 10 (F_t_plan 5), ia g (Q_t_plan 6) 10 (F_t_plan 6), ia g (Q_t_plan 7) 10 (F_t_plan 7), oX0 (Q_t 4) Q_t_trial o.2.1 o.2.2.1, ia g (Q_t_trial 2) 10 o.2.2.2.1, ia g (Q_t_trial 3) 10 o.2.2.2.2.1, ia g (Q_t_trial 4) 8 o.2.2.2.2.2.1, ia g (Q_t_trial 5) 64 o.2.2.2.2.2.2.1, ia g (Q_t_trial 6) 80 o.2.2.2.2.2.2.2]) args s 0 0 A) 4 83 [oX9 q_t Q_t (F_t 10 0), oX0 (Q_t 3) Q_t_flow (F_t_flow 0 0) (F_t_flow 1 0), ia g (Q_t_flow 2) 10 (F_t_flow 2), ia g (Q_t_flow 3) 10 (F_t_flow 3), ia g (Q_t_flow 4) 8 (F_t_flow 4), ia g (Q_t_flow 5) 64 (F_t_flow 5), ia g (Q_t_flow 6) 80 (F_t_flow 6), oX4 (Q_t 1) Q_t_plan (F_t_plan 0 0) (F_t_plan 1 0) (F_t_plan 2 0), ia g (Q_t_plan 3) 8 (F_t_plan 3), ia g (Q_t_plan 5) 10 (F_t_plan 5), ia g (Q_t_plan 6) 10 (F_t_plan 6), ia g (Q_t_plan 7) 10 (F_t_plan 7), oX0 (Q_t 4) Q_t_trial v.2.1 v_2.2.1, ia g (Q_t_trial 2) 10 v.2.2.1, ia g (Q_t_trial 3) 10 v_2.2.2.2.1, ia g (Q_t_trial 4) 8 v.2.2.2.1, ia g (Q_t_trial 5) 64 v.2.2.2.2.1, ia g (Q_t_trial 6) 80 v.2.2.2.2.2] [(3, .int v.1)] []) (fun (v : Int32 × (Nat → Int32) × (Nat → Int32) × (Nat → Int32) × (Nat → Int32)) => WA p l e (rM 4 93) s m args below meth c g A (MQ below (QI g A o.1 [oX9 q_t Q_t (F_t 10 0), oX0 (Q_t 3) Q_t_flow (F_t_flow 0 0) (F_t_flow 1 0), ia g (Q_t_flow 2) 10 (F_t_flow 2), ia g (Q_t_flow 3) 10 (F_t_flow 3), ia g (Q_t_flow 4) 8 (F_t_flow 4), ia g (Q_t_flow 5) 64 (F_t_flow 5), ia g (Q_t_flow 6) 80 (F_t_flow 6), oX4 (Q_t 1) Q_t_plan (F_t_plan 0 0) (F_t_plan 1 0) (F_t_plan 2 0), ia g (Q_t_plan 3) 8 (F_t_plan 3), ia g (Q_t_plan 5) 10 (F_t_plan 5), ia g (Q_t_plan 6) 10 (F_t_plan 6), ia g (Q_t_plan 7) 10 (F_t_plan 7), oX0 (Q_t 4) Q_t_trial o.2.1 o.2.2.1, ia g (Q_t_trial 2) 10 o.2.2.2.1, ia g (Q_t_trial 3) 10 o.2.2.2.2.1, ia g (Q_t_trial 4) 8 o.2.2.2.2.2.1, ia g (Q_t_trial 5) 64 o.2.2.2.2.2.2.1, ia g (Q_t_trial 6) 80 o.2.2.2.2.2.2.2]) args s 0 0 A) 4 94 [oX9 q_t Q_t (F_t 10 0), oX0 (Q_t 3) Q_t_flow (F_t_flow 0 0) (F_t_flow 1 0), ia g (Q_t_flow 2) 10 (F_t_flow 2), ia g (Q_t_flow 3) 10 (F_t_flow 3), ia g (Q_t_flow 4) 8 (F_t_flow 4), ia g (Q_t_flow 5) 64 (F_t_flow 5), ia g (Q_t_flow 6) 80 (F_t_flow 6), oX4 (Q_t 1) Q_t_plan (F_t_plan 0 0) (F_t_plan 1 0) (F_t_plan 2 0), ia g (Q_t_plan 3) 8 (F_t_plan 3), ia g (Q_t_plan 5) 10 (F_t_plan 5), ia g (Q_t_plan 6) 10 (F_t_plan 6), ia g (Q_t_plan 7) 10 (F_t_plan 7), oX0 (Q_t 4) Q_t_trial v.1 v_2.2.1, ia g (Q_t_trial 2) 10 v.2.1, ia g (Q_t_trial 3) 10 v_2.2.2.2.1, ia g (Q_t_trial 4) 8 v.2.2.1, ia g (Q_t_trial 5) 64 v.2.2.2.1, ia g (Q_t_trial 6) 80 v.2.2.2.2] [] [])) (fun z r hb hc he => t_X9_firstBlocked_b37 E q_t Q_t Q_t_flow Q_t_plan Q_t_trial N F_t F_t_flow F_t_plan (va_up (va_up (va_up (va_up (va_up (va_up (va_up F_t_trial 0 (fun _ => z.2.1)) 1 (fun _ => v_2.2.1)) 2 z.2.2.1) 3 v_2.2.2.2.1) 4 z.2.2.2.1) 5 z.2.2.2.2.1) 6 z.2.2.2.2.2) v_3 z.1 r hb hc (fun v hv => he (.inl v) hv) (fun v hv => he (.inr v) hv)) N ((0 : Int32), v_2.1, v_2.2.2.1, v_2.2.2.2.2.1, v_2.2.2.2.2.2.1, v_2.2.2.2.2.2.2) v_10 hv_10 ?_ H locs ls hP hD hS (lv_sub hl [2, 1, 0] rfl)
    rcases v_10 with v_10 | v_10
    · have h := ox_inl h
      intro H locs ls hP hD hS hl
      refine lv_iload_n hx hb dX9_firstBlocked_83 rfl (lv_at hl 0 rfl) ?_
      obtain ⟨v_11, hv_11, h⟩ := ox_bind h
      refine kSi ⟨hx, hb, hml, hown, hts⟩ (c_J6_numberOfTrailingZeros_0f7a4 l g v_10.1 v_11 hv_11 H.size) (gS u_ml_X9_243 u_st_J6_numberOfTrailingZeros_0f7a4 u_ini_J6 u_co_J6_numberOfTrailingZeros_0f7a4) hd_J6_numberOfTrailingZeros_0f7a4 ⟨rfl, rfl⟩ hK hP hD hS hA [] [0, 1, 2, 3, 4, 5, 6, 7, 8, 9, 10, 11, 12, 13, 14, 15, 16, 17] rfl rfl 0 rfl (w2 := [oX9 q_t Q_t (F_t 10 0), oX0 (Q_t 3) Q_t_flow (F_t_flow 0 0) (F_t_flow 1 0), ia g (Q_t_flow 2) 10 (F_t_flow 2), ia g (Q_t_flow 3) 10 (F_t_flow 3), ia g (Q_t_flow 4) 8 (F_t_flow 4), ia g (Q_t_flow 5) 64 (F_t_flow 5), ia g (Q_t_flow 6) 80 (F_t_flow 6), oX4 (Q_t 1) Q_t_plan (F_t_plan 0 0) (F_t_plan 1 0) (F_t_plan 2 0), ia g (Q_t_plan 3) 8 (F_t_plan 3), ia g (Q_t_plan 5) 10 (F_t_plan 5), ia g (Q_t_plan 6) 10 (F_t_plan 6), ia g (Q_t_plan 7) 10 (F_t_plan 7), oX0 (Q_t 4) Q_t_trial v_10.2.1 v_2.2.1, ia g (Q_t_trial 2) 10 v_10.2.2.1, ia g (Q_t_trial 3) 10 v_2.2.2.2.1, ia g (Q_t_trial 4) 8 v_10.2.2.2.1, ia g (Q_t_trial 5) 64 v_10.2.2.2.2.1, ia g (Q_t_trial 6) 80 v_10.2.2.2.2.2]) rfl rfl (As := [.int v_10.1]) (rest := []) rfl hl.1 rfl rfl dX9_firstBlocked_84 (fun H locs hP hD hS => ?_)
      obtain rfl := Option.some.inj h
      exact k_iret hx hb hr hlk hP hD hS dX9_firstBlocked_87
    · have h := ox_inr h
      intro H locs ls hP hD hS hl
      refine lv_iconst (v := (-1 : Int32)) hx hb dX9_firstBlocked_94 (by decide) ?_
      obtain rfl := Option.some.inj h
      exact k_iret hx hb hr hlk hP hD hS dX9_firstBlocked_95
  · have h := ox_t c_1 h
    refine lv_iconst (v := (-1 : Int32)) hx hb dX9_firstBlocked_10 (by decide) ?_
    obtain rfl := Option.some.inj h
    exact k_iret hx hb hr hlk hP hD hS dX9_firstBlocked_11
set_option maxRecDepth 100000 in
theorem c_X9_firstBlocked (l : Launch) (g : gG) (q_t : Nat) (Q_t : Ad) (Q_t_flow : Ad) (Q_t_plan : Ad) (Q_t_trial : Ad) (N : Nat) (F_t : St) (F_t_flow : St) (F_t_plan : St) (F_t_trial : St) (o : Int32 × Int32 × Int32 × (Nat → Int32) × (Nat → Int32) × (Nat → Int32) × (Nat → Int32) × (Nat → Int32)) (h : x_X9_firstBlocked N F_t F_t_flow F_t_plan F_t_trial = some o) (sz : Nat) : MetI l yX9_firstBlocked (.code yX9_firstBlocked cX9_firstBlocked 4 (some .int) :: gW) 4 93 [.ref q_t] o.1 g [oX9 q_t Q_t (F_t 10 0), oX0 (Q_t 3) Q_t_flow (F_t_flow 0 0) (F_t_flow 1 0), ia g (Q_t_flow 2) 10 (F_t_flow 2), ia g (Q_t_flow 3) 10 (F_t_flow 3), ia g (Q_t_flow 4) 8 (F_t_flow 4), ia g (Q_t_flow 5) 64 (F_t_flow 5), ia g (Q_t_flow 6) 80 (F_t_flow 6), oX4 (Q_t 1) Q_t_plan (F_t_plan 0 0) (F_t_plan 1 0) (F_t_plan 2 0), ia g (Q_t_plan 3) 8 (F_t_plan 3), ia g (Q_t_plan 5) 10 (F_t_plan 5), ia g (Q_t_plan 6) 10 (F_t_plan 6), ia g (Q_t_plan 7) 10 (F_t_plan 7), oX0 (Q_t 4) Q_t_trial (F_t_trial 0 0) (F_t_trial 1 0), ia g (Q_t_trial 2) 10 (F_t_trial 2), ia g (Q_t_trial 3) 10 (F_t_trial 3), ia g (Q_t_trial 4) 8 (F_t_trial 4), ia g (Q_t_trial 5) 64 (F_t_trial 5), ia g (Q_t_trial 6) 80 (F_t_trial 6)] [oX9 q_t Q_t (F_t 10 0), oX0 (Q_t 3) Q_t_flow (F_t_flow 0 0) (F_t_flow 1 0), ia g (Q_t_flow 2) 10 (F_t_flow 2), ia g (Q_t_flow 3) 10 (F_t_flow 3), ia g (Q_t_flow 4) 8 (F_t_flow 4), ia g (Q_t_flow 5) 64 (F_t_flow 5), ia g (Q_t_flow 6) 80 (F_t_flow 6), oX4 (Q_t 1) Q_t_plan (F_t_plan 0 0) (F_t_plan 1 0) (F_t_plan 2 0), ia g (Q_t_plan 3) 8 (F_t_plan 3), ia g (Q_t_plan 5) 10 (F_t_plan 5), ia g (Q_t_plan 6) 10 (F_t_plan 6), ia g (Q_t_plan 7) 10 (F_t_plan 7), oX0 (Q_t 4) Q_t_trial o.2.1 o.2.2.1, ia g (Q_t_trial 2) 10 o.2.2.2.1, ia g (Q_t_trial 3) 10 o.2.2.2.2.1, ia g (Q_t_trial 4) 8 o.2.2.2.2.2.1, ia g (Q_t_trial 5) 64 o.2.2.2.2.2.2.1, ia g (Q_t_trial 6) 80 o.2.2.2.2.2.2.2] sz :=
  mkI (av := [.ref q_t]) (by decide +kernel) rfl (fun p e s m below meth c A E H locs ls hP hD hS hl => t_X9_firstBlocked E q_t Q_t Q_t_flow Q_t_plan Q_t_trial N F_t F_t_flow F_t_plan F_t_trial o h H locs ls hP hD hS hl) sz
def x_X9_share_b18 (N : Nat) (F_t : St) (F_t_flow : St) (F_t_plan : St) (x1 : Int32) (x2 : Int32) (x3 : Int32) : Option ((Int32 × Int32) ⊕ (Int32)) :=
  if (F_t_plan 1 0) ≤ x3 then (some (.inr x2)) else (if x3 < 0 ∨ 8 ≤ x3.toNatClampNeg then none else Option.bind (x_J6_bitCount_0f7a4 ((F_t_flow 4) x3.toNatClampNeg)) (fun v_5 => xl (x2 + v_5) (fun y_6 => some (.inl (y_6, (x3 + (1 : Int32)))))))
set_option maxHeartbeats 4000000 in
set_option maxRecDepth 100000 in
theorem t_X9_share_b18 {p : Program} {l : Launch} {e : Env} {s : State} {m : MethodId} {args : Array Value} {below : List Frame} {meth : Method} {c : Code} {g : gG} {A : Nat → Prop} {Q : State → Prop} (E : En p s m args meth c g A cX9_share 4 (.code yX9_share cX9_share 4 (some .int) :: gW) RX9 (some .int)) (q_t : Nat) (Q_t : Ad) (Q_t_flow : Ad) (Q_t_plan : Ad) (N : Nat) (F_t : St) (F_t_flow : St) (F_t_plan : St) (x1 : Int32) (x2 : Int32) (x3 : Int32) (o : (Int32 × Int32) ⊕ (Int32)) (h : x_X9_share_b18 N F_t F_t_flow F_t_plan x1 x2 x3 = some o) (hc : ∀ z, o = .inl z → WA p l e (rM 1 21) s m args below meth c g A Q 4 18 [oX9 q_t Q_t (F_t 10 0), oX0 (Q_t 3) Q_t_flow (F_t_flow 0 0) (F_t_flow 1 0), ia g (Q_t_flow 4) 8 (F_t_flow 4), oX4 (Q_t 1) Q_t_plan (F_t_plan 0 0) (F_t_plan 1 0) (F_t_plan 2 0)] [(0, .ref q_t), (1, .int x1), (2, .int z.1), (3, .int z.2)] []) (he : ∀ v, o = .inr v → WA p l e (rM 1 21) s m args below meth c g A Q 4 50 [oX9 q_t Q_t (F_t 10 0), oX0 (Q_t 3) Q_t_flow (F_t_flow 0 0) (F_t_flow 1 0), ia g (Q_t_flow 4) 8 (F_t_flow 4), oX4 (Q_t 1) Q_t_plan (F_t_plan 0 0) (F_t_plan 1 0) (F_t_plan 2 0)] [(0, .ref q_t), (1, .int x1), (2, .int v)] []) : WA p l e (rM 1 21) s m args below meth c g A Q 4 18 [oX9 q_t Q_t (F_t 10 0), oX0 (Q_t 3) Q_t_flow (F_t_flow 0 0) (F_t_flow 1 0), ia g (Q_t_flow 4) 8 (F_t_flow 4), oX4 (Q_t 1) Q_t_plan (F_t_plan 0 0) (F_t_plan 1 0) (F_t_plan 2 0)] [(0, .ref q_t), (1, .int x1), (2, .int x2), (3, .int x3)] [] := by
  obtain ⟨⟨hx, hb, hml, hown, hts⟩, hr, hK, hA, hlk⟩ := id E
  intro H locs ls hP hD hS hl
  refine lv_iload_n hx hb dX9_share_18 rfl (lv_at hl 3 rfl) ?_
  refine lv_aload_n hx hb dX9_share_19 rfl (lv_at hl 0 rfl) ?_
  refine va_get (ci := 9) (v := .ref (Q_t 1)) (C := RX9) (T := TX9) (N := 11) hx hb hts (fun w h => .tail _ (u_inX9 w h)) hown hK.1 hP 0 rfl rfl 1 (by decide) (hts _ (.tail _ u_fl_X9_19)) (fun _ h9 => h9) rfl dX9_share_20 ?_
  refine va_get (ci := 4) (v := .int (F_t_plan 1 0)) (C := RX4) (T := TX4) (N := 9) hx hb hts (fun w h => .tail _ (u_inX4 w h)) hown hK.1 hP 3 rfl rfl 1 (by decide) (hts _ (.tail _ u_fl_X9_104)) (fun _ h9 => h9) rfl dX9_share_23 ?_
  refine lv_icmp_ge (tgt := 50) hx hb dX9_share_26 (by decide) (fun c_3 => ?_) (fun c_3 => ?_)
  · have h := ox_t c_3 h
    obtain rfl := Option.some.inj h
    exact he _ rfl H locs ls hP hD hS (lv_sub hl [0, 1, 2] rfl)
  · have h := ox_f c_3 h
    refine lv_iload_n hx hb dX9_share_29 rfl (lv_at hl 2 rfl) ?_
    refine lv_aload_n hx hb dX9_share_30 rfl (lv_at hl 0 rfl) ?_
    refine va_get (ci := 9) (v := .ref (Q_t 3)) (C := RX9) (T := TX9) (N := 11) hx hb hts (fun w h => .tail _ (u_inX9 w h)) hown hK.1 hP 0 rfl rfl 3 (by decide) (hts _ (.tail _ u_fl_X9_29)) (fun _ h9 => h9) rfl dX9_share_31 ?_
    refine va_get (ci := 0) (v := .ref (Q_t_flow 4)) (C := RX0) (T := TX0) (N := 7) hx hb hts (fun w h => .tail _ (u_inX0 w h)) hown hK.1 hP 1 rfl rfl 4 (by decide) (hts _ (.tail _ u_fl_X9_150)) (fun _ h9 => h9) rfl dX9_share_34 ?_
    refine lv_iload_n hx hb dX9_share_37 rfl (lv_at hl 3 rfl) ?_
    obtain ⟨hi_4, h⟩ := ox_chk h
    refine va_iald hx hb hK.1 hP 2 0 rfl rfl hi_4 dX9_share_38 ?_
    obtain ⟨v_5, hv_5, h⟩ := ox_bind h
    refine kSi ⟨hx, hb, hml, hown, hts⟩ (c_J6_bitCount_0f7a4 l g ((F_t_flow 4) x3.toNatClampNeg) v_5 hv_5 H.size) (gS u_ml_X9_224 u_st_J6_bitCount_0f7a4 u_ini_J6 u_co_J6_bitCount_0f7a4) hd_J6_bitCount_0f7a4 ⟨rfl, rfl⟩ hK hP hD hS hA [] [0, 1, 2, 3] rfl rfl 0 rfl (w2 := [oX9 q_t Q_t (F_t 10 0), oX0 (Q_t 3) Q_t_flow (F_t_flow 0 0) (F_t_flow 1 0), ia g (Q_t_flow 4) 8 (F_t_flow 4), oX4 (Q_t 1) Q_t_plan (F_t_plan 0 0) (F_t_plan 1 0) (F_t_plan 2 0)]) rfl rfl (As := [.int ((F_t_flow 4) x3.toNatClampNeg)]) (rest := [.int x2]) rfl hl.1 rfl rfl dX9_share_39 (fun H locs hP hD hS => ?_)
    refine lv_iadd hx hb dX9_share_42 ?_
    refine lv_topi (fun y_6 ey_6 => ?_)
    have h := xl_at ey_6 h
    refine lv_istore_n (lv' := [(2, .int y_6), (0, .ref q_t), (1, .int x1), (3, .int x3)]) hx hb dX9_share_43 rfl hl (by decide) rfl (fun ls hl => ?_)
    refine lv_iinc (v := (x3 + (1 : Int32))) (lv' := [(3, .int (x3 + (1 : Int32))), (2, .int y_6), (0, .ref q_t), (1, .int x1)]) hx hb dX9_share_44 hl (k := 3) rfl rfl (by decide) rfl (fun ls hl => ?_)
    refine lv_goto (tgt := 18) hx hb dX9_share_47 (by decide) ?_
    obtain rfl := Option.some.inj h
    exact hc _ rfl H locs ls hP hD hS (lv_sub hl [2, 3, 1, 0] rfl)
def x_X9_share (N : Nat) (F_t : St) (F_t_flow : St) (F_t_plan : St) (x1 : Int32) : Option (Int32) :=
  Option.bind (x_X4_hasPlace F_t_plan x1) (fun v_1 => if v_1 = 0 then (some (-1000000001 : Int32)) else (Option.bind (lpc (fun (z : Int32 × Int32) => x_X9_share_b18 N F_t F_t_flow F_t_plan x1 z.1 z.2) N ((0 : Int32), (0 : Int32))) (fun v_7 => if v_7 = 0 then (some (0 : Int32)) else (if x1 < 0 ∨ 8 ≤ x1.toNatClampNeg then none else Option.bind (x_J6_bitCount_0f7a4 ((F_t_flow 4) x1.toNatClampNeg)) (fun v_10 => if v_7 = 0 then none else some (((1000 : Int32) * v_10) / v_7))))))
set_option maxHeartbeats 4000000 in
set_option maxRecDepth 100000 in
theorem t_X9_share {p : Program} {l : Launch} {e : Env} {s : State} {m : MethodId} {args : Array Value} {below : List Frame} {meth : Method} {c : Code} {g : gG} {A : Nat → Prop} (E : En p s m args meth c g A cX9_share 4 (.code yX9_share cX9_share 4 (some .int) :: gW) RX9 (some .int)) (q_t : Nat) (Q_t : Ad) (Q_t_flow : Ad) (Q_t_plan : Ad) (N : Nat) (F_t : St) (F_t_flow : St) (F_t_plan : St) (x1 : Int32) (o : Int32) (h : x_X9_share N F_t F_t_flow F_t_plan x1 = some o) : WA p l e (rM 1 21) s m args below meth c g A (MQ below (QI g A o [oX9 q_t Q_t (F_t 10 0), oX0 (Q_t 3) Q_t_flow (F_t_flow 0 0) (F_t_flow 1 0), ia g (Q_t_flow 4) 8 (F_t_flow 4), oX4 (Q_t 1) Q_t_plan (F_t_plan 0 0) (F_t_plan 1 0) (F_t_plan 2 0)]) args s 0 0 A) 4 0 [oX9 q_t Q_t (F_t 10 0), oX0 (Q_t 3) Q_t_flow (F_t_flow 0 0) (F_t_flow 1 0), ia g (Q_t_flow 4) 8 (F_t_flow 4), oX4 (Q_t 1) Q_t_plan (F_t_plan 0 0) (F_t_plan 1 0) (F_t_plan 2 0)] [(0, .ref q_t), (1, .int x1)] [] := by
  obtain ⟨⟨hx, hb, hml, hown, hts⟩, hr, hK, hA, hlk⟩ := id E
  intro H locs ls hP hD hS hl
  refine lv_aload_n hx hb dX9_share_0 rfl (lv_at hl 0 rfl) ?_
  refine va_get (ci := 9) (v := .ref (Q_t 1)) (C := RX9) (T := TX9) (N := 11) hx hb hts (fun w h => .tail _ (u_inX9 w h)) hown hK.1 hP 0 rfl rfl 1 (by decide) (hts _ (.tail _ u_fl_X9_19)) (fun _ h9 => h9) rfl dX9_share_1 ?_
  refine lv_iload_n hx hb dX9_share_4 rfl (lv_at hl 1 rfl) ?_
  obtain ⟨v_1, hv_1, h⟩ := ox_bind h
  refine kVi ⟨hx, hb, hml, hown, hts⟩ (c_X4_hasPlace l g (Q_t 1) Q_t_plan F_t_plan x1 v_1 hv_1 H.size) (gV u_ml_X9_139 u_im_X4_hasPlace u_se_X4_hasPlace u_ini_X4 u_co_X4_hasPlace) hd_X4_hasPlace ⟨rfl, rfl⟩ hK hP hD hS hA 3 4 rfl rfl [3] [1, 2, 3, 0] rfl rfl 1 rfl (w2 := [oX9 q_t Q_t (F_t 10 0), oX0 (Q_t 3) Q_t_flow (F_t_flow 0 0) (F_t_flow 1 0), ia g (Q_t_flow 4) 8 (F_t_flow 4), oX4 (Q_t 1) Q_t_plan (F_t_plan 0 0) (F_t_plan 1 0) (F_t_plan 2 0)]) rfl rfl (As := [.int x1]) (rest := []) rfl hl.1 rfl rfl dX9_share_5 (fun H locs hP hD hS => ?_)
  refine lv_if_ne (tgt := 14) hx hb dX9_share_8 (by decide) (fun c_2 => ?_) (fun c_2 => ?_)
  · have h := ox_f c_2 h
    refine lv_iconst (v := (0 : Int32)) hx hb dX9_share_14 (by decide) ?_
    refine lv_istore_n (lv' := [(2, .int (0 : Int32)), (0, .ref q_t), (1, .int x1)]) hx hb dX9_share_15 rfl hl (by decide) rfl (fun ls hl => ?_)
    refine lv_iconst (v := (0 : Int32)) hx hb dX9_share_16 (by decide) ?_
    refine lv_istore_n (lv' := [(3, .int (0 : Int32)), (2, .int (0 : Int32)), (0, .ref q_t), (1, .int x1)]) hx hb dX9_share_17 rfl hl (by decide) rfl (fun ls hl => ?_)
    obtain ⟨v_7, hv_7, h⟩ := ox_bind h
    refine lpc_W (Wh := fun (z : Int32 × Int32) => WA p l e (rM 1 21) s m args below meth c g A (MQ below (QI g A o [oX9 q_t Q_t (F_t 10 0), oX0 (Q_t 3) Q_t_flow (F_t_flow 0 0) (F_t_flow 1 0), ia g (Q_t_flow 4) 8 (F_t_flow 4), oX4 (Q_t 1) Q_t_plan (F_t_plan 0 0) (F_t_plan 1 0) (F_t_plan 2 0)]) args s 0 0 A) 4 18 [oX9 q_t Q_t (F_t 10 0), oX0 (Q_t 3) Q_t_flow (F_t_flow 0 0) (F_t_flow 1 0), ia g (Q_t_flow 4) 8 (F_t_flow 4), oX4 (Q_t 1) Q_t_plan (F_t_plan 0 0) (F_t_plan 1 0) (F_t_plan 2 0)] [(0, .ref q_t), (1, .int x1), (2, .int z.1), (3, .int z.2)] []) (We := fun (v : Int32) => WA p l e (rM 1 21) s m args below meth c g A (MQ below (QI g A o [oX9 q_t Q_t (F_t 10 0), oX0 (Q_t 3) Q_t_flow (F_t_flow 0 0) (F_t_flow 1 0), ia g (Q_t_flow 4) 8 (F_t_flow 4), oX4 (Q_t 1) Q_t_plan (F_t_plan 0 0) (F_t_plan 1 0) (F_t_plan 2 0)]) args s 0 0 A) 4 50 [oX9 q_t Q_t (F_t 10 0), oX0 (Q_t 3) Q_t_flow (F_t_flow 0 0) (F_t_flow 1 0), ia g (Q_t_flow 4) 8 (F_t_flow 4), oX4 (Q_t 1) Q_t_plan (F_t_plan 0 0) (F_t_plan 1 0) (F_t_plan 2 0)] [(0, .ref q_t), (1, .int x1), (2, .int v)] []) (fun z r hb hc he => t_X9_share_b18 E q_t Q_t Q_t_flow Q_t_plan N F_t F_t_flow F_t_plan x1 z.1 z.2 r hb hc he) N ((0 : Int32), (0 : Int32)) v_7 hv_7 ?_ H locs ls hP hD hS (lv_sub hl [2, 3, 1, 0] rfl)
    intro H locs ls hP hD hS hl
    refine lv_iload_n hx hb dX9_share_50 rfl (lv_at hl 2 rfl) ?_
    refine lv_if_ne (tgt := 58) hx hb dX9_share_51 (by decide) (fun c_8 => ?_) (fun c_8 => ?_)
    · have h := ox_f c_8 h
      refine lv_sipush (v := (1000 : Int32)) hx hb dX9_share_58 (by decide) ?_
      refine lv_aload_n hx hb dX9_share_61 rfl (lv_at hl 0 rfl) ?_
      refine va_get (ci := 9) (v := .ref (Q_t 3)) (C := RX9) (T := TX9) (N := 11) hx hb hts (fun w h => .tail _ (u_inX9 w h)) hown hK.1 hP 0 rfl rfl 3 (by decide) (hts _ (.tail _ u_fl_X9_29)) (fun _ h9 => h9) rfl dX9_share_62 ?_
      refine va_get (ci := 0) (v := .ref (Q_t_flow 4)) (C := RX0) (T := TX0) (N := 7) hx hb hts (fun w h => .tail _ (u_inX0 w h)) hown hK.1 hP 1 rfl rfl 4 (by decide) (hts _ (.tail _ u_fl_X9_150)) (fun _ h9 => h9) rfl dX9_share_65 ?_
      refine lv_iload_n hx hb dX9_share_68 rfl (lv_at hl 1 rfl) ?_
      obtain ⟨hi_9, h⟩ := ox_chk h
      refine va_iald hx hb hK.1 hP 2 0 rfl rfl hi_9 dX9_share_69 ?_
      obtain ⟨v_10, hv_10, h⟩ := ox_bind h
      refine kSi ⟨hx, hb, hml, hown, hts⟩ (c_J6_bitCount_0f7a4 l g ((F_t_flow 4) x1.toNatClampNeg) v_10 hv_10 H.size) (gS u_ml_X9_224 u_st_J6_bitCount_0f7a4 u_ini_J6 u_co_J6_bitCount_0f7a4) hd_J6_bitCount_0f7a4 ⟨rfl, rfl⟩ hK hP hD hS hA [] [0, 1, 2, 3] rfl rfl 0 rfl (w2 := [oX9 q_t Q_t (F_t 10 0), oX0 (Q_t 3) Q_t_flow (F_t_flow 0 0) (F_t_flow 1 0), ia g (Q_t_flow 4) 8 (F_t_flow 4), oX4 (Q_t 1) Q_t_plan (F_t_plan 0 0) (F_t_plan 1 0) (F_t_plan 2 0)]) rfl rfl (As := [.int ((F_t_flow 4) x1.toNatClampNeg)]) (rest := [.int (1000 : Int32)]) rfl hl.1 rfl rfl dX9_share_70 (fun H locs hP hD hS => ?_)
      refine lv_imul hx hb dX9_share_73 ?_
      refine lv_iload_n hx hb dX9_share_74 rfl (lv_at hl 2 rfl) ?_
      obtain ⟨hz_11, h⟩ := ox_chk h
      refine lv_idiv hx hb dX9_share_75 hz_11 ?_
      obtain rfl := Option.some.inj h
      exact k_iret hx hb hr hlk hP hD hS dX9_share_76
    · have h := ox_t c_8 h
      refine lv_iconst (v := (0 : Int32)) hx hb dX9_share_54 (by decide) ?_
      refine lv_goto (tgt := 76) hx hb dX9_share_55 (by decide) ?_
      obtain rfl := Option.some.inj h
      exact k_iret hx hb hr hlk hP hD hS dX9_share_76
  · have h := ox_t c_2 h
    refine lv_ldc (v := (-1000000001 : Int32)) hx hb hown (hts _ (.tail _ u_k_X9_142)) dX9_share_11 ?_
    obtain rfl := Option.some.inj h
    exact k_iret hx hb hr hlk hP hD hS dX9_share_13
set_option maxRecDepth 100000 in
theorem c_X9_share (l : Launch) (g : gG) (q_t : Nat) (Q_t : Ad) (Q_t_flow : Ad) (Q_t_plan : Ad) (N : Nat) (F_t : St) (F_t_flow : St) (F_t_plan : St) (x1 : Int32) (o : Int32) (h : x_X9_share N F_t F_t_flow F_t_plan x1 = some o) (sz : Nat) : MetI l yX9_share (.code yX9_share cX9_share 4 (some .int) :: gW) 1 21 [.ref q_t, .int x1] o g [oX9 q_t Q_t (F_t 10 0), oX0 (Q_t 3) Q_t_flow (F_t_flow 0 0) (F_t_flow 1 0), ia g (Q_t_flow 4) 8 (F_t_flow 4), oX4 (Q_t 1) Q_t_plan (F_t_plan 0 0) (F_t_plan 1 0) (F_t_plan 2 0)] [oX9 q_t Q_t (F_t 10 0), oX0 (Q_t 3) Q_t_flow (F_t_flow 0 0) (F_t_flow 1 0), ia g (Q_t_flow 4) 8 (F_t_flow 4), oX4 (Q_t 1) Q_t_plan (F_t_plan 0 0) (F_t_plan 1 0) (F_t_plan 2 0)] sz :=
  mkI (av := [.ref q_t, .int x1]) (by decide +kernel) rfl (fun p e s m below meth c A E H locs ls hP hD hS hl => t_X9_share E q_t Q_t Q_t_flow Q_t_plan N F_t F_t_flow F_t_plan x1 o h H locs ls hP hD hS hl) sz
def x_X9_frost_b30 (N : Nat) (x1 : Int32) (x2 : Int32) (x3 : Int64) (x5 : Int32) : Option ((Int64 × Int32) ⊕ (Int64)) :=
  if x1 ≤ x5 then (some (.inr x3)) else (xl ((x3 * (((100 : Int32) - x2).toInt64)) / (100 : Int64)) (fun y_6 => some (.inl (y_6, (x5 + (1 : Int32))))))
set_option maxHeartbeats 4000000 in
set_option maxRecDepth 100000 in
theorem t_X9_frost_b30 {p : Program} {l : Launch} {e : Env} {s : State} {m : MethodId} {args : Array Value} {below : List Frame} {meth : Method} {c : Code} {g : gG} {A : Nat → Prop} {Q : State → Prop} (E : En p s m args meth c g A cX9_frost 6 (.code yX9_frost cX9_frost 6 (some .int) :: gW) RX9 (some .int)) (q_t : Nat) (N : Nat) (x1 : Int32) (x2 : Int32) (x3 : Int64) (x5 : Int32) (o : (Int64 × Int32) ⊕ (Int64)) (h : x_X9_frost_b30 N x1 x2 x3 x5 = some o) (hc : ∀ z, o = .inl z → WA p l e (rM 0 0) s m args below meth c g A Q 6 30 [] [(1, .int x1), (2, .int x2), (3, .long z.1), (5, .int z.2)] []) (he : ∀ v, o = .inr v → WA p l e (rM 0 0) s m args below meth c g A Q 6 54 [] [(3, .long v)] []) : WA p l e (rM 0 0) s m args below meth c g A Q 6 30 [] [(1, .int x1), (2, .int x2), (3, .long x3), (5, .int x5)] [] := by
  obtain ⟨⟨hx, hb, hml, hown, hts⟩, hr, hK, hA, hlk⟩ := id E
  intro H locs ls hP hD hS hl
  refine lv_iload hx hb dX9_frost_30 (lv_at hl 3 rfl) ?_
  refine lv_iload_n hx hb dX9_frost_32 rfl (lv_at hl 0 rfl) ?_
  refine lv_icmp_ge (tgt := 54) hx hb dX9_frost_33 (by decide) (fun c_5 => ?_) (fun c_5 => ?_)
  · have h := ox_t c_5 h
    obtain rfl := Option.some.inj h
    exact he _ rfl H locs ls hP hD hS (lv_sub hl [2] rfl)
  · have h := ox_f c_5 h
    refine lv_lload_n hx hb dX9_frost_36 rfl (lv_at hl 2 rfl) ?_
    refine lv_bipush (v := (100 : Int32)) hx hb dX9_frost_37 (by decide) ?_
    refine lv_iload_n hx hb dX9_frost_39 rfl (lv_at hl 1 rfl) ?_
    refine lv_isub hx hb dX9_frost_40 ?_
    refine lv_i2l (v := (((100 : Int32) - x2).toInt64)) hx hb dX9_frost_41 rfl ?_
    refine lv_lmul hx hb dX9_frost_42 ?_
    refine lv_ldc2 (v := (100 : Int64)) hx hb hown (hts _ (.tail _ u_kl_X9_248)) dX9_frost_43 ?_
    refine lv_ldiv hx hb dX9_frost_46 (by decide) ?_
    refine lv_topl (fun y_6 ey_6 => ?_)
    have h := xl_at ey_6 h
    refine lv_lstore_n (lv' := [(3, .long y_6), (1, .int x1), (2, .int x2), (5, .int x5)]) hx hb dX9_frost_47 rfl hl (by decide) rfl (fun ls hl => ?_)
    refine lv_iinc (v := (x5 + (1 : Int32))) (lv' := [(5, .int (x5 + (1 : Int32))), (3, .long y_6), (1, .int x1), (2, .int x2)]) hx hb dX9_frost_48 hl (k := 3) rfl rfl (by decide) rfl (fun ls hl => ?_)
    refine lv_goto (tgt := 30) hx hb dX9_frost_51 (by decide) ?_
    obtain rfl := Option.some.inj h
    exact hc _ rfl H locs ls hP hD hS (lv_sub hl [2, 3, 1, 0] rfl)
def x_X9_frost (N : Nat) (x1 : Int32) (x2 : Int32) : Option (Int32) :=
  if x1 < 0 then (some (-1000000002 : Int32)) else (if (60 : Int32) < x1 then (some (-1000000002 : Int32)) else (if x2 < 0 then (some (-1000000002 : Int32)) else (if x2 ≤ (100 : Int32) then (Option.bind (lpc (fun (z : Int64 × Int32) => x_X9_frost_b30 N x1 x2 z.1 z.2) N ((1000000000 : Int64), (0 : Int32))) (fun v_7 => some (v_7.toInt32))) else (some (-1000000002 : Int32)))))
set_option maxHeartbeats 4000000 in
set_option maxRecDepth 100000 in
theorem t_X9_frost {p : Program} {l : Launch} {e : Env} {s : State} {m : MethodId} {args : Array Value} {below : List Frame} {meth : Method} {c : Code} {g : gG} {A : Nat → Prop} (E : En p s m args meth c g A cX9_frost 6 (.code yX9_frost cX9_frost 6 (some .int) :: gW) RX9 (some .int)) (q_t : Nat) (N : Nat) (x1 : Int32) (x2 : Int32) (o : Int32) (h : x_X9_frost N x1 x2 = some o) : WA p l e (rM 0 0) s m args below meth c g A (MQ below (QI g A o []) args s 0 0 A) 6 0 [] [(1, .int x1), (2, .int x2)] [] := by
  obtain ⟨⟨hx, hb, hml, hown, hts⟩, hr, hK, hA, hlk⟩ := id E
  intro H locs ls hP hD hS hl
  refine lv_iload_n hx hb dX9_frost_0 rfl (lv_at hl 0 rfl) ?_
  refine lv_if_lt (tgt := 20) hx hb dX9_frost_1 (by decide) (fun c_1 => ?_) (fun c_1 => ?_)
  · have h := ox_t c_1 h
    refine lv_ldc (v := (-1000000002 : Int32)) hx hb hown (hts _ (.tail _ u_k_X9_75)) dX9_frost_20 ?_
    obtain rfl := Option.some.inj h
    exact k_iret hx hb hr hlk hP hD hS dX9_frost_22
  · have h := ox_f c_1 h
    refine lv_iload_n hx hb dX9_frost_4 rfl (lv_at hl 0 rfl) ?_
    refine lv_bipush (v := (60 : Int32)) hx hb dX9_frost_5 (by decide) ?_
    refine lv_icmp_gt (tgt := 20) hx hb dX9_frost_7 (by decide) (fun c_2 => ?_) (fun c_2 => ?_)
    · have h := ox_t c_2 h
      refine lv_ldc (v := (-1000000002 : Int32)) hx hb hown (hts _ (.tail _ u_k_X9_75)) dX9_frost_20 ?_
      obtain rfl := Option.some.inj h
      exact k_iret hx hb hr hlk hP hD hS dX9_frost_22
    · have h := ox_f c_2 h
      refine lv_iload_n hx hb dX9_frost_10 rfl (lv_at hl 1 rfl) ?_
      refine lv_if_lt (tgt := 20) hx hb dX9_frost_11 (by decide) (fun c_3 => ?_) (fun c_3 => ?_)
      · have h := ox_t c_3 h
        refine lv_ldc (v := (-1000000002 : Int32)) hx hb hown (hts _ (.tail _ u_k_X9_75)) dX9_frost_20 ?_
        obtain rfl := Option.some.inj h
        exact k_iret hx hb hr hlk hP hD hS dX9_frost_22
      · have h := ox_f c_3 h
        refine lv_iload_n hx hb dX9_frost_14 rfl (lv_at hl 1 rfl) ?_
        refine lv_bipush (v := (100 : Int32)) hx hb dX9_frost_15 (by decide) ?_
        refine lv_icmp_le (tgt := 23) hx hb dX9_frost_17 (by decide) (fun c_4 => ?_) (fun c_4 => ?_)
        · have h := ox_t c_4 h
          refine lv_ldc2 (v := (1000000000 : Int64)) hx hb hown (hts _ (.tail _ u_kl_X9_246)) dX9_frost_23 ?_
          refine lv_lstore_n (lv' := [(3, .long (1000000000 : Int64)), (1, .int x1), (2, .int x2)]) hx hb dX9_frost_26 rfl hl (by decide) rfl (fun ls hl => ?_)
          refine lv_iconst (v := (0 : Int32)) hx hb dX9_frost_27 (by decide) ?_
          refine lv_istore (lv' := [(5, .int (0 : Int32)), (3, .long (1000000000 : Int64)), (1, .int x1), (2, .int x2)]) hx hb dX9_frost_28 hl (by decide) rfl (fun ls hl => ?_)
          obtain ⟨v_7, hv_7, h⟩ := ox_bind h
          refine lpc_W (Wh := fun (z : Int64 × Int32) => WA p l e (rM 0 0) s m args below meth c g A (MQ below (QI g A o []) args s 0 0 A) 6 30 [] [(1, .int x1), (2, .int x2), (3, .long z.1), (5, .int z.2)] []) (We := fun (v : Int64) => WA p l e (rM 0 0) s m args below meth c g A (MQ below (QI g A o []) args s 0 0 A) 6 54 [] [(3, .long v)] []) (fun z r hb hc he => t_X9_frost_b30 E q_t N x1 x2 z.1 z.2 r hb hc he) N ((1000000000 : Int64), (0 : Int32)) v_7 hv_7 ?_ H locs ls hP hD hS (lv_sub hl [2, 3, 1, 0] rfl)
          intro H locs ls hP hD hS hl
          refine lv_lload_n hx hb dX9_frost_54 rfl (lv_at hl 0 rfl) ?_
          refine lv_l2i (v := (v_7.toInt32)) hx hb dX9_frost_55 rfl ?_
          obtain rfl := Option.some.inj h
          exact k_iret hx hb hr hlk hP hD hS dX9_frost_56
        · have h := ox_f c_4 h
          refine lv_ldc (v := (-1000000002 : Int32)) hx hb hown (hts _ (.tail _ u_k_X9_75)) dX9_frost_20 ?_
          obtain rfl := Option.some.inj h
          exact k_iret hx hb hr hlk hP hD hS dX9_frost_22
set_option maxRecDepth 100000 in
theorem c_X9_frost (l : Launch) (g : gG) (q_t : Nat) (N : Nat) (x1 : Int32) (x2 : Int32) (o : Int32) (h : x_X9_frost N x1 x2 = some o) (sz : Nat) : MetI l yX9_frost (.code yX9_frost cX9_frost 6 (some .int) :: gW) 0 0 [.ref q_t, .int x1, .int x2] o g [] [] sz :=
  mkI (av := [.ref q_t, .int x1, .int x2]) (by decide +kernel) rfl (fun p e s m below meth c A E H locs ls hP hD hS hl => t_X9_frost E q_t N x1 x2 o h H locs ls hP hD hS (lv_sub hl [1, 2] rfl)) sz
def x_X9_drip_k40 (F_t : St) (F_t_notes : St) (F_t_plan : St) (x1 : Int32) (x2 : Int32) (x3 : Int32) : Option (Int32 × Int32 × (Nat → Int32) × (Nat → Int32) × (Nat → Int32)) :=
  Option.bind (x_X2_addDrip F_t_notes x1 x2 x3) (fun v_1 => if v_1.1 = 0 then (some ((-1000000004 : Int32), v_1.2.1, v_1.2.2.1, v_1.2.2.2.1, v_1.2.2.2.2)) else (some (v_1.2.1, v_1.2.1, v_1.2.2.1, v_1.2.2.2.1, v_1.2.2.2.2)))
set_option maxHeartbeats 4000000 in
set_option maxRecDepth 100000 in
theorem t_X9_drip_k40 {p : Program} {l : Launch} {e : Env} {s : State} {m : MethodId} {args : Array Value} {below : List Frame} {meth : Method} {c : Code} {g : gG} {A : Nat → Prop} (E : En p s m args meth c g A cX9_drip 4 (.code yX9_drip cX9_drip 4 (some .int) :: gW) RX9 (some .int)) (q_t : Nat) (Q_t : Ad) (Q_t_notes : Ad) (Q_t_plan : Ad) (F_t : St) (F_t_notes : St) (F_t_plan : St) (x1 : Int32) (x2 : Int32) (x3 : Int32) (o : Int32 × Int32 × (Nat → Int32) × (Nat → Int32) × (Nat → Int32)) (h : x_X9_drip_k40 F_t F_t_notes F_t_plan x1 x2 x3 = some o) : WA p l e (rM 1 23) s m args below meth c g A (MQ below (QI g A o.1 [oX9 q_t Q_t (F_t 10 0), oX2 (Q_t 7) Q_t_notes o.2.1 (F_t_notes 1 0), ia g (Q_t_notes 2) 6 o.2.2.1, ia g (Q_t_notes 3) 6 o.2.2.2.1, ia g (Q_t_notes 4) 6 o.2.2.2.2, oX4 (Q_t 1) Q_t_plan (F_t_plan 0 0) (F_t_plan 1 0) (F_t_plan 2 0)]) args s 0 0 A) 4 40 [oX9 q_t Q_t (F_t 10 0), oX2 (Q_t 7) Q_t_notes (F_t_notes 0 0) (F_t_notes 1 0), ia g (Q_t_notes 2) 6 (F_t_notes 2), ia g (Q_t_notes 3) 6 (F_t_notes 3), ia g (Q_t_notes 4) 6 (F_t_notes 4), oX4 (Q_t 1) Q_t_plan (F_t_plan 0 0) (F_t_plan 1 0) (F_t_plan 2 0)] [(0, .ref q_t), (1, .int x1), (2, .int x2), (3, .int x3)] [] := by
  obtain ⟨⟨hx, hb, hml, hown, hts⟩, hr, hK, hA, hlk⟩ := id E
  intro H locs ls hP hD hS hl
  refine lv_aload_n hx hb dX9_drip_40 rfl (lv_at hl 0 rfl) ?_
  refine va_get (ci := 9) (v := .ref (Q_t 7)) (C := RX9) (T := TX9) (N := 11) hx hb hts (fun w h => .tail _ (u_inX9 w h)) hown hK.1 hP 0 rfl rfl 7 (by decide) (hts _ (.tail _ u_fl_X9_52)) (fun _ h9 => h9) rfl dX9_drip_41 ?_
  refine lv_iload_n hx hb dX9_drip_44 rfl (lv_at hl 1 rfl) ?_
  refine lv_iload_n hx hb dX9_drip_45 rfl (lv_at hl 2 rfl) ?_
  refine lv_iload_n hx hb dX9_drip_46 rfl (lv_at hl 3 rfl) ?_
  obtain ⟨v_1, hv_1, h⟩ := ox_bind h
  refine kVi ⟨hx, hb, hml, hown, hts⟩ (c_X2_addDrip l g (Q_t 7) Q_t_notes F_t_notes x1 x2 x3 v_1 hv_1 H.size) (gV u_ml_X9_250 u_im_X2_addDrip u_se_X2_addDrip u_ini_X2 u_co_X2_addDrip) hd_X2_addDrip ⟨rfl, rfl⟩ hK hP hD hS hA 1 2 rfl rfl [1, 2, 3, 4] [4, 0, 1, 2, 3, 9] rfl rfl 4 rfl (w2 := [oX9 q_t Q_t (F_t 10 0), oX2 (Q_t 7) Q_t_notes v_1.2.1 (F_t_notes 1 0), ia g (Q_t_notes 2) 6 v_1.2.2.1, ia g (Q_t_notes 3) 6 v_1.2.2.2.1, ia g (Q_t_notes 4) 6 v_1.2.2.2.2, oX4 (Q_t 1) Q_t_plan (F_t_plan 0 0) (F_t_plan 1 0) (F_t_plan 2 0)]) rfl rfl (As := [.int x1, .int x2, .int x3]) (rest := []) rfl hl.1 rfl rfl dX9_drip_47 (fun H locs hP hD hS => ?_)
  refine lv_if_eq (tgt := 63) hx hb dX9_drip_50 (by decide) (fun c_2 => ?_) (fun c_2 => ?_)
  · have h := ox_t c_2 h
    refine lv_ldc (v := (-1000000004 : Int32)) hx hb hown (hts _ (.tail _ u_k_X9_83)) dX9_drip_63 ?_
    obtain rfl := Option.some.inj h
    exact k_iret hx hb hr hlk hP hD hS dX9_drip_65
  · have h := ox_f c_2 h
    refine lv_aload_n hx hb dX9_drip_53 rfl (lv_at hl 0 rfl) ?_
    refine va_get (ci := 9) (v := .ref (Q_t 7)) (C := RX9) (T := TX9) (N := 11) hx hb hts (fun w h => .tail _ (u_inX9 w h)) hown hK.1 hP 0 rfl rfl 7 (by decide) (hts _ (.tail _ u_fl_X9_52)) (fun _ h9 => h9) rfl dX9_drip_54 ?_
    refine va_get (ci := 2) (v := .int v_1.2.1) (C := RX2) (T := TX2) (N := 7) hx hb hts (fun w h => .tail _ (u_inX2 w h)) hown hK.1 hP 1 rfl rfl 0 (by decide) (hts _ (.tail _ u_fl_X9_130)) (fun _ h9 => h9) rfl dX9_drip_57 ?_
    refine lv_goto (tgt := 65) hx hb dX9_drip_60 (by decide) ?_
    obtain rfl := Option.some.inj h
    exact k_iret hx hb hr hlk hP hD hS dX9_drip_65
def x_X9_drip_k31 (F_t : St) (F_t_notes : St) (F_t_plan : St) (x1 : Int32) (x2 : Int32) (x3 : Int32) : Option (Int32 × Int32 × (Nat → Int32) × (Nat → Int32) × (Nat → Int32)) :=
  if x3 = (99 : Int32) then (x_X9_drip_k40 F_t F_t_notes F_t_plan x1 x2 x3) else (some ((-1000000002 : Int32), (F_t_notes 0 0), (F_t_notes 2), (F_t_notes 3), (F_t_notes 4)))
set_option maxHeartbeats 4000000 in
set_option maxRecDepth 100000 in
theorem t_X9_drip_k31 {p : Program} {l : Launch} {e : Env} {s : State} {m : MethodId} {args : Array Value} {below : List Frame} {meth : Method} {c : Code} {g : gG} {A : Nat → Prop} (E : En p s m args meth c g A cX9_drip 4 (.code yX9_drip cX9_drip 4 (some .int) :: gW) RX9 (some .int)) (q_t : Nat) (Q_t : Ad) (Q_t_notes : Ad) (Q_t_plan : Ad) (F_t : St) (F_t_notes : St) (F_t_plan : St) (x1 : Int32) (x2 : Int32) (x3 : Int32) (o : Int32 × Int32 × (Nat → Int32) × (Nat → Int32) × (Nat → Int32)) (h : x_X9_drip_k31 F_t F_t_notes F_t_plan x1 x2 x3 = some o) : WA p l e (rM 1 23) s m args below meth c g A (MQ below (QI g A o.1 [oX9 q_t Q_t (F_t 10 0), oX2 (Q_t 7) Q_t_notes o.2.1 (F_t_notes 1 0), ia g (Q_t_notes 2) 6 o.2.2.1, ia g (Q_t_notes 3) 6 o.2.2.2.1, ia g (Q_t_notes 4) 6 o.2.2.2.2, oX4 (Q_t 1) Q_t_plan (F_t_plan 0 0) (F_t_plan 1 0) (F_t_plan 2 0)]) args s 0 0 A) 4 31 [oX9 q_t Q_t (F_t 10 0), oX2 (Q_t 7) Q_t_notes (F_t_notes 0 0) (F_t_notes 1 0), ia g (Q_t_notes 2) 6 (F_t_notes 2), ia g (Q_t_notes 3) 6 (F_t_notes 3), ia g (Q_t_notes 4) 6 (F_t_notes 4), oX4 (Q_t 1) Q_t_plan (F_t_plan 0 0) (F_t_plan 1 0) (F_t_plan 2 0)] [(0, .ref q_t), (1, .int x1), (2, .int x2), (3, .int x3)] [] := by
  obtain ⟨⟨hx, hb, hml, hown, hts⟩, hr, hK, hA, hlk⟩ := id E
  intro H locs ls hP hD hS hl
  refine lv_iload_n hx hb dX9_drip_31 rfl (lv_at hl 3 rfl) ?_
  refine lv_bipush (v := (99 : Int32)) hx hb dX9_drip_32 (by decide) ?_
  refine lv_icmp_eq (tgt := 40) hx hb dX9_drip_34 (by decide) (fun c_3 => ?_) (fun c_3 => ?_)
  · have h := ox_t c_3 h
    exact t_X9_drip_k40 E q_t Q_t Q_t_notes Q_t_plan F_t F_t_notes F_t_plan x1 x2 x3 _ h H locs ls hP hD hS hl
  · have h := ox_f c_3 h
    refine lv_ldc (v := (-1000000002 : Int32)) hx hb hown (hts _ (.tail _ u_k_X9_75)) dX9_drip_37 ?_
    obtain rfl := Option.some.inj h
    exact k_iret hx hb hr hlk hP hD hS dX9_drip_39
def x_X9_drip (F_t : St) (F_t_notes : St) (F_t_plan : St) (x1 : Int32) (x2 : Int32) (x3 : Int32) : Option (Int32 × Int32 × (Nat → Int32) × (Nat → Int32) × (Nat → Int32)) :=
  Option.bind (x_X4_hasPlace F_t_plan x1) (fun v_4 => if v_4 = 0 then (some ((-1000000001 : Int32), (F_t_notes 0 0), (F_t_notes 2), (F_t_notes 3), (F_t_notes 4))) else (Option.bind (x_X9_isSaying x2) (fun v_6 => if v_6 = 0 then (some ((-1000000001 : Int32), (F_t_notes 0 0), (F_t_notes 2), (F_t_notes 3), (F_t_notes 4))) else (if x3 < 0 then (x_X9_drip_k31 F_t F_t_notes F_t_plan x1 x2 x3) else (if x3 ≤ (60 : Int32) then (x_X9_drip_k40 F_t F_t_notes F_t_plan x1 x2 x3) else (x_X9_drip_k31 F_t F_t_notes F_t_plan x1 x2 x3))))))
set_option maxHeartbeats 4000000 in
set_option maxRecDepth 100000 in
theorem t_X9_drip {p : Program} {l : Launch} {e : Env} {s : State} {m : MethodId} {args : Array Value} {below : List Frame} {meth : Method} {c : Code} {g : gG} {A : Nat → Prop} (E : En p s m args meth c g A cX9_drip 4 (.code yX9_drip cX9_drip 4 (some .int) :: gW) RX9 (some .int)) (q_t : Nat) (Q_t : Ad) (Q_t_notes : Ad) (Q_t_plan : Ad) (F_t : St) (F_t_notes : St) (F_t_plan : St) (x1 : Int32) (x2 : Int32) (x3 : Int32) (o : Int32 × Int32 × (Nat → Int32) × (Nat → Int32) × (Nat → Int32)) (h : x_X9_drip F_t F_t_notes F_t_plan x1 x2 x3 = some o) : WA p l e (rM 1 23) s m args below meth c g A (MQ below (QI g A o.1 [oX9 q_t Q_t (F_t 10 0), oX2 (Q_t 7) Q_t_notes o.2.1 (F_t_notes 1 0), ia g (Q_t_notes 2) 6 o.2.2.1, ia g (Q_t_notes 3) 6 o.2.2.2.1, ia g (Q_t_notes 4) 6 o.2.2.2.2, oX4 (Q_t 1) Q_t_plan (F_t_plan 0 0) (F_t_plan 1 0) (F_t_plan 2 0)]) args s 0 0 A) 4 0 [oX9 q_t Q_t (F_t 10 0), oX2 (Q_t 7) Q_t_notes (F_t_notes 0 0) (F_t_notes 1 0), ia g (Q_t_notes 2) 6 (F_t_notes 2), ia g (Q_t_notes 3) 6 (F_t_notes 3), ia g (Q_t_notes 4) 6 (F_t_notes 4), oX4 (Q_t 1) Q_t_plan (F_t_plan 0 0) (F_t_plan 1 0) (F_t_plan 2 0)] [(0, .ref q_t), (1, .int x1), (2, .int x2), (3, .int x3)] [] := by
  obtain ⟨⟨hx, hb, hml, hown, hts⟩, hr, hK, hA, hlk⟩ := id E
  intro H locs ls hP hD hS hl
  refine lv_aload_n hx hb dX9_drip_0 rfl (lv_at hl 0 rfl) ?_
  refine va_get (ci := 9) (v := .ref (Q_t 1)) (C := RX9) (T := TX9) (N := 11) hx hb hts (fun w h => .tail _ (u_inX9 w h)) hown hK.1 hP 0 rfl rfl 1 (by decide) (hts _ (.tail _ u_fl_X9_19)) (fun _ h9 => h9) rfl dX9_drip_1 ?_
  refine lv_iload_n hx hb dX9_drip_4 rfl (lv_at hl 1 rfl) ?_
  obtain ⟨v_4, hv_4, h⟩ := ox_bind h
  refine kVi ⟨hx, hb, hml, hown, hts⟩ (c_X4_hasPlace l g (Q_t 1) Q_t_plan F_t_plan x1 v_4 hv_4 H.size) (gV u_ml_X9_139 u_im_X4_hasPlace u_se_X4_hasPlace u_ini_X4 u_co_X4_hasPlace) hd_X4_hasPlace ⟨rfl, rfl⟩ hK hP hD hS hA 5 4 rfl rfl [5] [1, 2, 3, 4, 5, 0] rfl rfl 1 rfl (w2 := [oX9 q_t Q_t (F_t 10 0), oX2 (Q_t 7) Q_t_notes (F_t_notes 0 0) (F_t_notes 1 0), ia g (Q_t_notes 2) 6 (F_t_notes 2), ia g (Q_t_notes 3) 6 (F_t_notes 3), ia g (Q_t_notes 4) 6 (F_t_notes 4), oX4 (Q_t 1) Q_t_plan (F_t_plan 0 0) (F_t_plan 1 0) (F_t_plan 2 0)]) rfl rfl (As := [.int x1]) (rest := []) rfl hl.1 rfl rfl dX9_drip_5 (fun H locs hP hD hS => ?_)
  refine lv_if_eq (tgt := 18) hx hb dX9_drip_8 (by decide) (fun c_5 => ?_) (fun c_5 => ?_)
  · have h := ox_t c_5 h
    refine lv_ldc (v := (-1000000001 : Int32)) hx hb hown (hts _ (.tail _ u_k_X9_142)) dX9_drip_18 ?_
    obtain rfl := Option.some.inj h
    exact k_iret hx hb hr hlk hP hD hS dX9_drip_20
  · have h := ox_f c_5 h
    refine lv_iload_n hx hb dX9_drip_11 rfl (lv_at hl 2 rfl) ?_
    obtain ⟨v_6, hv_6, h⟩ := ox_bind h
    refine kSi ⟨hx, hb, hml, hown, hts⟩ (c_X9_isSaying l g x2 v_6 hv_6 H.size) (gS u_ml_X9_175 u_st_X9_isSaying u_ini_X9 u_co_X9_isSaying) hd_X9_isSaying ⟨rfl, rfl⟩ hK hP hD hS hA [] [0, 1, 2, 3, 4, 5] rfl rfl 0 rfl (w2 := [oX9 q_t Q_t (F_t 10 0), oX2 (Q_t 7) Q_t_notes (F_t_notes 0 0) (F_t_notes 1 0), ia g (Q_t_notes 2) 6 (F_t_notes 2), ia g (Q_t_notes 3) 6 (F_t_notes 3), ia g (Q_t_notes 4) 6 (F_t_notes 4), oX4 (Q_t 1) Q_t_plan (F_t_plan 0 0) (F_t_plan 1 0) (F_t_plan 2 0)]) rfl rfl (As := [.int x2]) (rest := []) rfl hl.1 rfl rfl dX9_drip_12 (fun H locs hP hD hS => ?_)
    refine lv_if_ne (tgt := 21) hx hb dX9_drip_15 (by decide) (fun c_7 => ?_) (fun c_7 => ?_)
    · have h := ox_f c_7 h
      refine lv_iload_n hx hb dX9_drip_21 rfl (lv_at hl 3 rfl) ?_
      refine lv_if_lt (tgt := 31) hx hb dX9_drip_22 (by decide) (fun c_8 => ?_) (fun c_8 => ?_)
      · have h := ox_t c_8 h
        exact t_X9_drip_k31 E q_t Q_t Q_t_notes Q_t_plan F_t F_t_notes F_t_plan x1 x2 x3 _ h H locs ls hP hD hS hl
      · have h := ox_f c_8 h
        refine lv_iload_n hx hb dX9_drip_25 rfl (lv_at hl 3 rfl) ?_
        refine lv_bipush (v := (60 : Int32)) hx hb dX9_drip_26 (by decide) ?_
        refine lv_icmp_le (tgt := 40) hx hb dX9_drip_28 (by decide) (fun c_9 => ?_) (fun c_9 => ?_)
        · have h := ox_t c_9 h
          exact t_X9_drip_k40 E q_t Q_t Q_t_notes Q_t_plan F_t F_t_notes F_t_plan x1 x2 x3 _ h H locs ls hP hD hS hl
        · have h := ox_f c_9 h
          exact t_X9_drip_k31 E q_t Q_t Q_t_notes Q_t_plan F_t F_t_notes F_t_plan x1 x2 x3 _ h H locs ls hP hD hS hl
    · have h := ox_t c_7 h
      refine lv_ldc (v := (-1000000001 : Int32)) hx hb hown (hts _ (.tail _ u_k_X9_142)) dX9_drip_18 ?_
      obtain rfl := Option.some.inj h
      exact k_iret hx hb hr hlk hP hD hS dX9_drip_20
set_option maxRecDepth 100000 in
theorem c_X9_drip (l : Launch) (g : gG) (q_t : Nat) (Q_t : Ad) (Q_t_notes : Ad) (Q_t_plan : Ad) (F_t : St) (F_t_notes : St) (F_t_plan : St) (x1 : Int32) (x2 : Int32) (x3 : Int32) (o : Int32 × Int32 × (Nat → Int32) × (Nat → Int32) × (Nat → Int32)) (h : x_X9_drip F_t F_t_notes F_t_plan x1 x2 x3 = some o) (sz : Nat) : MetI l yX9_drip (.code yX9_drip cX9_drip 4 (some .int) :: gW) 1 23 [.ref q_t, .int x1, .int x2, .int x3] o.1 g [oX9 q_t Q_t (F_t 10 0), oX2 (Q_t 7) Q_t_notes (F_t_notes 0 0) (F_t_notes 1 0), ia g (Q_t_notes 2) 6 (F_t_notes 2), ia g (Q_t_notes 3) 6 (F_t_notes 3), ia g (Q_t_notes 4) 6 (F_t_notes 4), oX4 (Q_t 1) Q_t_plan (F_t_plan 0 0) (F_t_plan 1 0) (F_t_plan 2 0)] [oX9 q_t Q_t (F_t 10 0), oX2 (Q_t 7) Q_t_notes o.2.1 (F_t_notes 1 0), ia g (Q_t_notes 2) 6 o.2.2.1, ia g (Q_t_notes 3) 6 o.2.2.2.1, ia g (Q_t_notes 4) 6 o.2.2.2.2, oX4 (Q_t 1) Q_t_plan (F_t_plan 0 0) (F_t_plan 1 0) (F_t_plan 2 0)] sz :=
  mkI (av := [.ref q_t, .int x1, .int x2, .int x3]) (by decide +kernel) rfl (fun p e s m below meth c A E H locs ls hP hD hS hl => t_X9_drip E q_t Q_t Q_t_notes Q_t_plan F_t F_t_notes F_t_plan x1 x2 x3 o h H locs ls hP hD hS hl) sz
def x_X9_cracked (N : Nat) (F_t : St) (F_t_flow : St) (F_t_notes : St) (F_t_plan : St) (F_t_search : St) (L_t_search_one : SL) (x1 : Int32) : Option (Int32 × (Nat → Int32) × (Nat → Int64) × (Nat → Int64)) :=
  Option.bind (x_X4_hasPlace F_t_plan x1) (fun v_1 => if v_1 = 0 then (some ((-1000000001 : Int32), (F_t_search 2), (L_t_search_one 0), (L_t_search_one 1))) else (Option.bind (x_X7_fittingCracks N F_t_search L_t_search_one F_t_plan F_t_flow F_t_notes x1) (fun v_3 => some (v_3.1, v_3.2.1, v_3.2.2.1, v_3.2.2.2))))
set_option maxHeartbeats 4000000 in
set_option maxRecDepth 100000 in
theorem t_X9_cracked {p : Program} {l : Launch} {e : Env} {s : State} {m : MethodId} {args : Array Value} {below : List Frame} {meth : Method} {c : Code} {g : gG} {A : Nat → Prop} (E : En p s m args meth c g A cX9_cracked 2 (.code yX9_cracked cX9_cracked 2 (some .int) :: gW) RX9 (some .int)) (q_t : Nat) (Q_t : Ad) (Q_t_flow : Ad) (Q_t_notes : Ad) (Q_t_plan : Ad) (Q_t_search : Ad) (Q_t_search_one : Ad) (N : Nat) (F_t : St) (F_t_flow : St) (F_t_notes : St) (F_t_plan : St) (F_t_search : St) (L_t_search_one : SL) (x1 : Int32) (o : Int32 × (Nat → Int32) × (Nat → Int64) × (Nat → Int64)) (h : x_X9_cracked N F_t F_t_flow F_t_notes F_t_plan F_t_search L_t_search_one x1 = some o) : WA p l e (rM 5 122) s m args below meth c g A (MQ below (QI g A o.1 [oX9 q_t Q_t (F_t 10 0), oX0 (Q_t 3) Q_t_flow (F_t_flow 0 0) (F_t_flow 1 0), oX2 (Q_t 7) Q_t_notes (F_t_notes 0 0) (F_t_notes 1 0), ia g (Q_t_notes 2) 6 (F_t_notes 2), ia g (Q_t_notes 3) 6 (F_t_notes 3), ia g (Q_t_notes 4) 6 (F_t_notes 4), oX4 (Q_t 1) Q_t_plan (F_t_plan 0 0) (F_t_plan 1 0) (F_t_plan 2 0), ia g (Q_t_plan 3) 8 (F_t_plan 3), ia g (Q_t_plan 5) 10 (F_t_plan 5), ia g (Q_t_plan 6) 10 (F_t_plan 6), ia g (Q_t_plan 7) 10 (F_t_plan 7), ia g (Q_t_plan 8) 10 (F_t_plan 8), oX7 (Q_t 8) Q_t_search, ia g (Q_t_search 2) 10 o.2.1, oX8 (Q_t_search 0) Q_t_search_one, la g (Q_t_search_one 0) 8 o.2.2.1, la g (Q_t_search_one 1) 8 o.2.2.2]) args s 0 0 A) 2 0 [oX9 q_t Q_t (F_t 10 0), oX0 (Q_t 3) Q_t_flow (F_t_flow 0 0) (F_t_flow 1 0), oX2 (Q_t 7) Q_t_notes (F_t_notes 0 0) (F_t_notes 1 0), ia g (Q_t_notes 2) 6 (F_t_notes 2), ia g (Q_t_notes 3) 6 (F_t_notes 3), ia g (Q_t_notes 4) 6 (F_t_notes 4), oX4 (Q_t 1) Q_t_plan (F_t_plan 0 0) (F_t_plan 1 0) (F_t_plan 2 0), ia g (Q_t_plan 3) 8 (F_t_plan 3), ia g (Q_t_plan 5) 10 (F_t_plan 5), ia g (Q_t_plan 6) 10 (F_t_plan 6), ia g (Q_t_plan 7) 10 (F_t_plan 7), ia g (Q_t_plan 8) 10 (F_t_plan 8), oX7 (Q_t 8) Q_t_search, ia g (Q_t_search 2) 10 (F_t_search 2), oX8 (Q_t_search 0) Q_t_search_one, la g (Q_t_search_one 0) 8 (L_t_search_one 0), la g (Q_t_search_one 1) 8 (L_t_search_one 1)] [(0, .ref q_t), (1, .int x1)] [] := by
  obtain ⟨⟨hx, hb, hml, hown, hts⟩, hr, hK, hA, hlk⟩ := id E
  intro H locs ls hP hD hS hl
  refine lv_aload_n hx hb dX9_cracked_0 rfl (lv_at hl 0 rfl) ?_
  refine va_get (ci := 9) (v := .ref (Q_t 1)) (C := RX9) (T := TX9) (N := 11) hx hb hts (fun w h => .tail _ (u_inX9 w h)) hown hK.1 hP 0 rfl rfl 1 (by decide) (hts _ (.tail _ u_fl_X9_19)) (fun _ h9 => h9) rfl dX9_cracked_1 ?_
  refine lv_iload_n hx hb dX9_cracked_4 rfl (lv_at hl 1 rfl) ?_
  obtain ⟨v_1, hv_1, h⟩ := ox_bind h
  refine kVi ⟨hx, hb, hml, hown, hts⟩ (c_X4_hasPlace l g (Q_t 1) Q_t_plan F_t_plan x1 v_1 hv_1 H.size) (gV u_ml_X9_139 u_im_X4_hasPlace u_se_X4_hasPlace u_ini_X4 u_co_X4_hasPlace) hd_X4_hasPlace ⟨rfl, rfl⟩ hK hP hD hS hA 6 4 rfl rfl [6] [1, 2, 3, 4, 5, 6, 0, 8, 9, 10, 11, 12, 13, 14, 15, 16, 17] rfl rfl 1 rfl (w2 := [oX9 q_t Q_t (F_t 10 0), oX0 (Q_t 3) Q_t_flow (F_t_flow 0 0) (F_t_flow 1 0), oX2 (Q_t 7) Q_t_notes (F_t_notes 0 0) (F_t_notes 1 0), ia g (Q_t_notes 2) 6 (F_t_notes 2), ia g (Q_t_notes 3) 6 (F_t_notes 3), ia g (Q_t_notes 4) 6 (F_t_notes 4), oX4 (Q_t 1) Q_t_plan (F_t_plan 0 0) (F_t_plan 1 0) (F_t_plan 2 0), ia g (Q_t_plan 3) 8 (F_t_plan 3), ia g (Q_t_plan 5) 10 (F_t_plan 5), ia g (Q_t_plan 6) 10 (F_t_plan 6), ia g (Q_t_plan 7) 10 (F_t_plan 7), ia g (Q_t_plan 8) 10 (F_t_plan 8), oX7 (Q_t 8) Q_t_search, ia g (Q_t_search 2) 10 (F_t_search 2), oX8 (Q_t_search 0) Q_t_search_one, la g (Q_t_search_one 0) 8 (L_t_search_one 0), la g (Q_t_search_one 1) 8 (L_t_search_one 1)]) rfl rfl (As := [.int x1]) (rest := []) rfl hl.1 rfl rfl dX9_cracked_5 (fun H locs hP hD hS => ?_)
  refine lv_if_ne (tgt := 14) hx hb dX9_cracked_8 (by decide) (fun c_2 => ?_) (fun c_2 => ?_)
  · have h := ox_f c_2 h
    refine lv_aload_n hx hb dX9_cracked_14 rfl (lv_at hl 0 rfl) ?_
    refine va_get (ci := 9) (v := .ref (Q_t 8)) (C := RX9) (T := TX9) (N := 11) hx hb hts (fun w h => .tail _ (u_inX9 w h)) hown hK.1 hP 0 rfl rfl 8 (by decide) (hts _ (.tail _ u_fl_X9_59)) (fun _ h9 => h9) rfl dX9_cracked_15 ?_
    refine lv_aload_n hx hb dX9_cracked_18 rfl (lv_at hl 0 rfl) ?_
    refine va_get (ci := 9) (v := .ref (Q_t 1)) (C := RX9) (T := TX9) (N := 11) hx hb hts (fun w h => .tail _ (u_inX9 w h)) hown hK.1 hP 0 rfl rfl 1 (by decide) (hts _ (.tail _ u_fl_X9_19)) (fun _ h9 => h9) rfl dX9_cracked_19 ?_
    refine lv_aload_n hx hb dX9_cracked_22 rfl (lv_at hl 0 rfl) ?_
    refine va_get (ci := 9) (v := .ref (Q_t 3)) (C := RX9) (T := TX9) (N := 11) hx hb hts (fun w h => .tail _ (u_inX9 w h)) hown hK.1 hP 0 rfl rfl 3 (by decide) (hts _ (.tail _ u_fl_X9_29)) (fun _ h9 => h9) rfl dX9_cracked_23 ?_
    refine lv_aload_n hx hb dX9_cracked_26 rfl (lv_at hl 0 rfl) ?_
    refine va_get (ci := 9) (v := .ref (Q_t 7)) (C := RX9) (T := TX9) (N := 11) hx hb hts (fun w h => .tail _ (u_inX9 w h)) hown hK.1 hP 0 rfl rfl 7 (by decide) (hts _ (.tail _ u_fl_X9_52)) (fun _ h9 => h9) rfl dX9_cracked_27 ?_
    refine lv_iload_n hx hb dX9_cracked_30 rfl (lv_at hl 1 rfl) ?_
    obtain ⟨v_3, hv_3, h⟩ := ox_bind h
    refine kVi ⟨hx, hb, hml, hown, hts⟩ (c_X7_fittingCracks l g (Q_t 8) Q_t_search Q_t_search_one (Q_t 1) Q_t_plan (Q_t 3) Q_t_flow (Q_t 7) Q_t_notes N F_t_search L_t_search_one F_t_plan F_t_flow F_t_notes x1 v_3 hv_3 H.size) (gV u_ml_X9_254 u_im_X7_fittingCracks u_se_X7_fittingCracks u_ini_X7 u_co_X7_fittingCracks) hd_X7_fittingCracks ⟨rfl, rfl⟩ hK hP hD hS hA 12 7 rfl rfl [12, 13, 14, 15, 16, 6, 7, 8, 9, 10, 11, 1, 2, 3, 4, 5] [16, 11, 12, 13, 14, 15, 5, 6, 7, 8, 9, 10, 0, 1, 2, 3, 4] rfl rfl 16 rfl (w2 := [oX9 q_t Q_t (F_t 10 0), oX0 (Q_t 3) Q_t_flow (F_t_flow 0 0) (F_t_flow 1 0), oX2 (Q_t 7) Q_t_notes (F_t_notes 0 0) (F_t_notes 1 0), ia g (Q_t_notes 2) 6 (F_t_notes 2), ia g (Q_t_notes 3) 6 (F_t_notes 3), ia g (Q_t_notes 4) 6 (F_t_notes 4), oX4 (Q_t 1) Q_t_plan (F_t_plan 0 0) (F_t_plan 1 0) (F_t_plan 2 0), ia g (Q_t_plan 3) 8 (F_t_plan 3), ia g (Q_t_plan 5) 10 (F_t_plan 5), ia g (Q_t_plan 6) 10 (F_t_plan 6), ia g (Q_t_plan 7) 10 (F_t_plan 7), ia g (Q_t_plan 8) 10 (F_t_plan 8), oX7 (Q_t 8) Q_t_search, ia g (Q_t_search 2) 10 v_3.2.1, oX8 (Q_t_search 0) Q_t_search_one, la g (Q_t_search_one 0) 8 v_3.2.2.1, la g (Q_t_search_one 1) 8 v_3.2.2.2]) rfl rfl (As := [.ref (Q_t 1), .ref (Q_t 3), .ref (Q_t 7), .int x1]) (rest := []) rfl hl.1 rfl rfl dX9_cracked_31 (fun H locs hP hD hS => ?_)
    obtain rfl := Option.some.inj h
    exact k_iret hx hb hr hlk hP hD hS dX9_cracked_34
  · have h := ox_t c_2 h
    refine lv_ldc (v := (-1000000001 : Int32)) hx hb hown (hts _ (.tail _ u_k_X9_142)) dX9_cracked_11 ?_
    obtain rfl := Option.some.inj h
    exact k_iret hx hb hr hlk hP hD hS dX9_cracked_13
set_option maxRecDepth 100000 in
theorem c_X9_cracked (l : Launch) (g : gG) (q_t : Nat) (Q_t : Ad) (Q_t_flow : Ad) (Q_t_notes : Ad) (Q_t_plan : Ad) (Q_t_search : Ad) (Q_t_search_one : Ad) (N : Nat) (F_t : St) (F_t_flow : St) (F_t_notes : St) (F_t_plan : St) (F_t_search : St) (L_t_search_one : SL) (x1 : Int32) (o : Int32 × (Nat → Int32) × (Nat → Int64) × (Nat → Int64)) (h : x_X9_cracked N F_t F_t_flow F_t_notes F_t_plan F_t_search L_t_search_one x1 = some o) (sz : Nat) : MetI l yX9_cracked (.code yX9_cracked cX9_cracked 2 (some .int) :: gW) 5 122 [.ref q_t, .int x1] o.1 g [oX9 q_t Q_t (F_t 10 0), oX0 (Q_t 3) Q_t_flow (F_t_flow 0 0) (F_t_flow 1 0), oX2 (Q_t 7) Q_t_notes (F_t_notes 0 0) (F_t_notes 1 0), ia g (Q_t_notes 2) 6 (F_t_notes 2), ia g (Q_t_notes 3) 6 (F_t_notes 3), ia g (Q_t_notes 4) 6 (F_t_notes 4), oX4 (Q_t 1) Q_t_plan (F_t_plan 0 0) (F_t_plan 1 0) (F_t_plan 2 0), ia g (Q_t_plan 3) 8 (F_t_plan 3), ia g (Q_t_plan 5) 10 (F_t_plan 5), ia g (Q_t_plan 6) 10 (F_t_plan 6), ia g (Q_t_plan 7) 10 (F_t_plan 7), ia g (Q_t_plan 8) 10 (F_t_plan 8), oX7 (Q_t 8) Q_t_search, ia g (Q_t_search 2) 10 (F_t_search 2), oX8 (Q_t_search 0) Q_t_search_one, la g (Q_t_search_one 0) 8 (L_t_search_one 0), la g (Q_t_search_one 1) 8 (L_t_search_one 1)] [oX9 q_t Q_t (F_t 10 0), oX0 (Q_t 3) Q_t_flow (F_t_flow 0 0) (F_t_flow 1 0), oX2 (Q_t 7) Q_t_notes (F_t_notes 0 0) (F_t_notes 1 0), ia g (Q_t_notes 2) 6 (F_t_notes 2), ia g (Q_t_notes 3) 6 (F_t_notes 3), ia g (Q_t_notes 4) 6 (F_t_notes 4), oX4 (Q_t 1) Q_t_plan (F_t_plan 0 0) (F_t_plan 1 0) (F_t_plan 2 0), ia g (Q_t_plan 3) 8 (F_t_plan 3), ia g (Q_t_plan 5) 10 (F_t_plan 5), ia g (Q_t_plan 6) 10 (F_t_plan 6), ia g (Q_t_plan 7) 10 (F_t_plan 7), ia g (Q_t_plan 8) 10 (F_t_plan 8), oX7 (Q_t 8) Q_t_search, ia g (Q_t_search 2) 10 o.2.1, oX8 (Q_t_search 0) Q_t_search_one, la g (Q_t_search_one 0) 8 o.2.2.1, la g (Q_t_search_one 1) 8 o.2.2.2] sz :=
  mkI (av := [.ref q_t, .int x1]) (by decide +kernel) rfl (fun p e s m below meth c A E H locs ls hP hD hS hl => t_X9_cracked E q_t Q_t Q_t_flow Q_t_notes Q_t_plan Q_t_search Q_t_search_one N F_t F_t_flow F_t_notes F_t_plan F_t_search L_t_search_one x1 o h H locs ls hP hD hS hl) sz
def x_X9_listen (N : Nat) (F_t : St) (F_t_flow : St) (F_t_notes : St) (F_t_plan : St) (F_t_search : St) (L_t_search_one : SL) (x1 : Int32) : Option (Int32 × (Nat → Int32) × (Nat → Int32) × (Nat → Int64) × (Nat → Int64)) :=
  Option.bind (x_X4_hasPlace F_t_plan x1) (fun v_1 => if v_1 = 0 then (some ((-1000000001 : Int32), (F_t_search 2), (F_t_search 3), (L_t_search_one 0), (L_t_search_one 1))) else (Option.bind (x_X7_fittingCracks N F_t_search L_t_search_one F_t_plan F_t_flow F_t_notes x1) (fun v_3 => Option.bind (x_X7_bestListener N (va_up F_t_search 2 v_3.2.1) (va_up (va_up L_t_search_one 0 v_3.2.2.1) 1 v_3.2.2.2) F_t_plan F_t_flow v_3.1 x1) (fun v_4 => some (v_4.1, v_4.2.1, v_4.2.2.1, v_4.2.2.2.1, v_4.2.2.2.2)))))
set_option maxHeartbeats 4000000 in
set_option maxRecDepth 100000 in
theorem t_X9_listen {p : Program} {l : Launch} {e : Env} {s : State} {m : MethodId} {args : Array Value} {below : List Frame} {meth : Method} {c : Code} {g : gG} {A : Nat → Prop} (E : En p s m args meth c g A cX9_listen 3 (.code yX9_listen cX9_listen 3 (some .int) :: gW) RX9 (some .int)) (q_t : Nat) (Q_t : Ad) (Q_t_flow : Ad) (Q_t_notes : Ad) (Q_t_plan : Ad) (Q_t_search : Ad) (Q_t_search_one : Ad) (N : Nat) (F_t : St) (F_t_flow : St) (F_t_notes : St) (F_t_plan : St) (F_t_search : St) (L_t_search_one : SL) (x1 : Int32) (o : Int32 × (Nat → Int32) × (Nat → Int32) × (Nat → Int64) × (Nat → Int64)) (h : x_X9_listen N F_t F_t_flow F_t_notes F_t_plan F_t_search L_t_search_one x1 = some o) : WA p l e (rM 5 123) s m args below meth c g A (MQ below (QI g A o.1 [oX9 q_t Q_t (F_t 10 0), oX0 (Q_t 3) Q_t_flow (F_t_flow 0 0) (F_t_flow 1 0), oX2 (Q_t 7) Q_t_notes (F_t_notes 0 0) (F_t_notes 1 0), ia g (Q_t_notes 2) 6 (F_t_notes 2), ia g (Q_t_notes 3) 6 (F_t_notes 3), ia g (Q_t_notes 4) 6 (F_t_notes 4), oX4 (Q_t 1) Q_t_plan (F_t_plan 0 0) (F_t_plan 1 0) (F_t_plan 2 0), ia g (Q_t_plan 3) 8 (F_t_plan 3), ia g (Q_t_plan 5) 10 (F_t_plan 5), ia g (Q_t_plan 6) 10 (F_t_plan 6), ia g (Q_t_plan 7) 10 (F_t_plan 7), ia g (Q_t_plan 8) 10 (F_t_plan 8), oX7 (Q_t 8) Q_t_search, ia g (Q_t_search 2) 10 o.2.1, ia g (Q_t_search 3) 88 o.2.2.1, oX8 (Q_t_search 0) Q_t_search_one, la g (Q_t_search_one 0) 8 o.2.2.2.1, la g (Q_t_search_one 1) 8 o.2.2.2.2]) args s 0 0 A) 3 0 [oX9 q_t Q_t (F_t 10 0), oX0 (Q_t 3) Q_t_flow (F_t_flow 0 0) (F_t_flow 1 0), oX2 (Q_t 7) Q_t_notes (F_t_notes 0 0) (F_t_notes 1 0), ia g (Q_t_notes 2) 6 (F_t_notes 2), ia g (Q_t_notes 3) 6 (F_t_notes 3), ia g (Q_t_notes 4) 6 (F_t_notes 4), oX4 (Q_t 1) Q_t_plan (F_t_plan 0 0) (F_t_plan 1 0) (F_t_plan 2 0), ia g (Q_t_plan 3) 8 (F_t_plan 3), ia g (Q_t_plan 5) 10 (F_t_plan 5), ia g (Q_t_plan 6) 10 (F_t_plan 6), ia g (Q_t_plan 7) 10 (F_t_plan 7), ia g (Q_t_plan 8) 10 (F_t_plan 8), oX7 (Q_t 8) Q_t_search, ia g (Q_t_search 2) 10 (F_t_search 2), ia g (Q_t_search 3) 88 (F_t_search 3), oX8 (Q_t_search 0) Q_t_search_one, la g (Q_t_search_one 0) 8 (L_t_search_one 0), la g (Q_t_search_one 1) 8 (L_t_search_one 1)] [(0, .ref q_t), (1, .int x1)] [] := by
  obtain ⟨⟨hx, hb, hml, hown, hts⟩, hr, hK, hA, hlk⟩ := id E
  intro H locs ls hP hD hS hl
  refine lv_aload_n hx hb dX9_listen_0 rfl (lv_at hl 0 rfl) ?_
  refine va_get (ci := 9) (v := .ref (Q_t 1)) (C := RX9) (T := TX9) (N := 11) hx hb hts (fun w h => .tail _ (u_inX9 w h)) hown hK.1 hP 0 rfl rfl 1 (by decide) (hts _ (.tail _ u_fl_X9_19)) (fun _ h9 => h9) rfl dX9_listen_1 ?_
  refine lv_iload_n hx hb dX9_listen_4 rfl (lv_at hl 1 rfl) ?_
  obtain ⟨v_1, hv_1, h⟩ := ox_bind h
  refine kVi ⟨hx, hb, hml, hown, hts⟩ (c_X4_hasPlace l g (Q_t 1) Q_t_plan F_t_plan x1 v_1 hv_1 H.size) (gV u_ml_X9_139 u_im_X4_hasPlace u_se_X4_hasPlace u_ini_X4 u_co_X4_hasPlace) hd_X4_hasPlace ⟨rfl, rfl⟩ hK hP hD hS hA 6 4 rfl rfl [6] [1, 2, 3, 4, 5, 6, 0, 8, 9, 10, 11, 12, 13, 14, 15, 16, 17, 18] rfl rfl 1 rfl (w2 := [oX9 q_t Q_t (F_t 10 0), oX0 (Q_t 3) Q_t_flow (F_t_flow 0 0) (F_t_flow 1 0), oX2 (Q_t 7) Q_t_notes (F_t_notes 0 0) (F_t_notes 1 0), ia g (Q_t_notes 2) 6 (F_t_notes 2), ia g (Q_t_notes 3) 6 (F_t_notes 3), ia g (Q_t_notes 4) 6 (F_t_notes 4), oX4 (Q_t 1) Q_t_plan (F_t_plan 0 0) (F_t_plan 1 0) (F_t_plan 2 0), ia g (Q_t_plan 3) 8 (F_t_plan 3), ia g (Q_t_plan 5) 10 (F_t_plan 5), ia g (Q_t_plan 6) 10 (F_t_plan 6), ia g (Q_t_plan 7) 10 (F_t_plan 7), ia g (Q_t_plan 8) 10 (F_t_plan 8), oX7 (Q_t 8) Q_t_search, ia g (Q_t_search 2) 10 (F_t_search 2), ia g (Q_t_search 3) 88 (F_t_search 3), oX8 (Q_t_search 0) Q_t_search_one, la g (Q_t_search_one 0) 8 (L_t_search_one 0), la g (Q_t_search_one 1) 8 (L_t_search_one 1)]) rfl rfl (As := [.int x1]) (rest := []) rfl hl.1 rfl rfl dX9_listen_5 (fun H locs hP hD hS => ?_)
  refine lv_if_ne (tgt := 14) hx hb dX9_listen_8 (by decide) (fun c_2 => ?_) (fun c_2 => ?_)
  · have h := ox_f c_2 h
    refine lv_aload_n hx hb dX9_listen_14 rfl (lv_at hl 0 rfl) ?_
    refine va_get (ci := 9) (v := .ref (Q_t 8)) (C := RX9) (T := TX9) (N := 11) hx hb hts (fun w h => .tail _ (u_inX9 w h)) hown hK.1 hP 0 rfl rfl 8 (by decide) (hts _ (.tail _ u_fl_X9_59)) (fun _ h9 => h9) rfl dX9_listen_15 ?_
    refine lv_aload_n hx hb dX9_listen_18 rfl (lv_at hl 0 rfl) ?_
    refine va_get (ci := 9) (v := .ref (Q_t 1)) (C := RX9) (T := TX9) (N := 11) hx hb hts (fun w h => .tail _ (u_inX9 w h)) hown hK.1 hP 0 rfl rfl 1 (by decide) (hts _ (.tail _ u_fl_X9_19)) (fun _ h9 => h9) rfl dX9_listen_19 ?_
    refine lv_aload_n hx hb dX9_listen_22 rfl (lv_at hl 0 rfl) ?_
    refine va_get (ci := 9) (v := .ref (Q_t 3)) (C := RX9) (T := TX9) (N := 11) hx hb hts (fun w h => .tail _ (u_inX9 w h)) hown hK.1 hP 0 rfl rfl 3 (by decide) (hts _ (.tail _ u_fl_X9_29)) (fun _ h9 => h9) rfl dX9_listen_23 ?_
    refine lv_aload_n hx hb dX9_listen_26 rfl (lv_at hl 0 rfl) ?_
    refine va_get (ci := 9) (v := .ref (Q_t 7)) (C := RX9) (T := TX9) (N := 11) hx hb hts (fun w h => .tail _ (u_inX9 w h)) hown hK.1 hP 0 rfl rfl 7 (by decide) (hts _ (.tail _ u_fl_X9_52)) (fun _ h9 => h9) rfl dX9_listen_27 ?_
    refine lv_iload_n hx hb dX9_listen_30 rfl (lv_at hl 1 rfl) ?_
    obtain ⟨v_3, hv_3, h⟩ := ox_bind h
    refine kVi ⟨hx, hb, hml, hown, hts⟩ (c_X7_fittingCracks l g (Q_t 8) Q_t_search Q_t_search_one (Q_t 1) Q_t_plan (Q_t 3) Q_t_flow (Q_t 7) Q_t_notes N F_t_search L_t_search_one F_t_plan F_t_flow F_t_notes x1 v_3 hv_3 H.size) (gV u_ml_X9_254 u_im_X7_fittingCracks u_se_X7_fittingCracks u_ini_X7 u_co_X7_fittingCracks) hd_X7_fittingCracks ⟨rfl, rfl⟩ hK hP hD hS hA 12 7 rfl rfl [12, 13, 15, 16, 17, 6, 7, 8, 9, 10, 11, 1, 2, 3, 4, 5] [16, 11, 12, 13, 14, 15, 5, 6, 7, 8, 9, 10, 0, 1, 30, 2, 3, 4] rfl rfl 16 rfl (w2 := [oX9 q_t Q_t (F_t 10 0), oX0 (Q_t 3) Q_t_flow (F_t_flow 0 0) (F_t_flow 1 0), oX2 (Q_t 7) Q_t_notes (F_t_notes 0 0) (F_t_notes 1 0), ia g (Q_t_notes 2) 6 (F_t_notes 2), ia g (Q_t_notes 3) 6 (F_t_notes 3), ia g (Q_t_notes 4) 6 (F_t_notes 4), oX4 (Q_t 1) Q_t_plan (F_t_plan 0 0) (F_t_plan 1 0) (F_t_plan 2 0), ia g (Q_t_plan 3) 8 (F_t_plan 3), ia g (Q_t_plan 5) 10 (F_t_plan 5), ia g (Q_t_plan 6) 10 (F_t_plan 6), ia g (Q_t_plan 7) 10 (F_t_plan 7), ia g (Q_t_plan 8) 10 (F_t_plan 8), oX7 (Q_t 8) Q_t_search, ia g (Q_t_search 2) 10 v_3.2.1, ia g (Q_t_search 3) 88 (F_t_search 3), oX8 (Q_t_search 0) Q_t_search_one, la g (Q_t_search_one 0) 8 v_3.2.2.1, la g (Q_t_search_one 1) 8 v_3.2.2.2]) rfl rfl (As := [.ref (Q_t 1), .ref (Q_t 3), .ref (Q_t 7), .int x1]) (rest := []) rfl hl.1 rfl rfl dX9_listen_31 (fun H locs hP hD hS => ?_)
    refine lv_istore_n (lv' := [(2, .int v_3.1), (0, .ref q_t), (1, .int x1)]) hx hb dX9_listen_34 rfl hl (by decide) rfl (fun ls hl => ?_)
    refine lv_aload_n hx hb dX9_listen_35 rfl (lv_at hl 1 rfl) ?_
    refine va_get (ci := 9) (v := .ref (Q_t 8)) (C := RX9) (T := TX9) (N := 11) hx hb hts (fun w h => .tail _ (u_inX9 w h)) hown hK.1 hP 0 rfl rfl 8 (by decide) (hts _ (.tail _ u_fl_X9_59)) (fun _ h9 => h9) rfl dX9_listen_36 ?_
    refine lv_aload_n hx hb dX9_listen_39 rfl (lv_at hl 1 rfl) ?_
    refine va_get (ci := 9) (v := .ref (Q_t 1)) (C := RX9) (T := TX9) (N := 11) hx hb hts (fun w h => .tail _ (u_inX9 w h)) hown hK.1 hP 0 rfl rfl 1 (by decide) (hts _ (.tail _ u_fl_X9_19)) (fun _ h9 => h9) rfl dX9_listen_40 ?_
    refine lv_aload_n hx hb dX9_listen_43 rfl (lv_at hl 1 rfl) ?_
    refine va_get (ci := 9) (v := .ref (Q_t 3)) (C := RX9) (T := TX9) (N := 11) hx hb hts (fun w h => .tail _ (u_inX9 w h)) hown hK.1 hP 0 rfl rfl 3 (by decide) (hts _ (.tail _ u_fl_X9_29)) (fun _ h9 => h9) rfl dX9_listen_44 ?_
    refine lv_iload_n hx hb dX9_listen_47 rfl (lv_at hl 0 rfl) ?_
    refine lv_iload_n hx hb dX9_listen_48 rfl (lv_at hl 2 rfl) ?_
    obtain ⟨v_4, hv_4, h⟩ := ox_bind h
    refine kVi ⟨hx, hb, hml, hown, hts⟩ (c_X7_bestListener l g (Q_t 8) Q_t_search Q_t_search_one (Q_t 1) Q_t_plan (Q_t 3) Q_t_flow N (va_up F_t_search 2 v_3.2.1) (va_up (va_up L_t_search_one 0 v_3.2.2.1) 1 v_3.2.2.2) F_t_plan F_t_flow v_3.1 x1 v_4 hv_4 H.size) (gV u_ml_X9_258 u_im_X7_bestListener u_se_X7_bestListener u_ini_X7 u_co_X7_bestListener) hd_X7_bestListener ⟨rfl, rfl⟩ hK hP hD hS hA 12 7 rfl rfl [12, 13, 14, 15, 16, 17, 6, 7, 8, 9, 10, 11, 1] [13, 12, 15, 16, 17, 18, 6, 7, 8, 9, 10, 11, 0, 1, 2, 3, 4, 5] rfl rfl 13 rfl (w2 := [oX9 q_t Q_t (F_t 10 0), oX0 (Q_t 3) Q_t_flow (F_t_flow 0 0) (F_t_flow 1 0), oX2 (Q_t 7) Q_t_notes (F_t_notes 0 0) (F_t_notes 1 0), ia g (Q_t_notes 2) 6 (F_t_notes 2), ia g (Q_t_notes 3) 6 (F_t_notes 3), ia g (Q_t_notes 4) 6 (F_t_notes 4), oX4 (Q_t 1) Q_t_plan (F_t_plan 0 0) (F_t_plan 1 0) (F_t_plan 2 0), ia g (Q_t_plan 3) 8 (F_t_plan 3), ia g (Q_t_plan 5) 10 (F_t_plan 5), ia g (Q_t_plan 6) 10 (F_t_plan 6), ia g (Q_t_plan 7) 10 (F_t_plan 7), ia g (Q_t_plan 8) 10 (F_t_plan 8), oX7 (Q_t 8) Q_t_search, ia g (Q_t_search 2) 10 v_4.2.1, ia g (Q_t_search 3) 88 v_4.2.2.1, oX8 (Q_t_search 0) Q_t_search_one, la g (Q_t_search_one 0) 8 v_4.2.2.2.1, la g (Q_t_search_one 1) 8 v_4.2.2.2.2]) rfl rfl (As := [.ref (Q_t 1), .ref (Q_t 3), .int v_3.1, .int x1]) (rest := []) rfl hl.1 rfl rfl dX9_listen_49 (fun H locs hP hD hS => ?_)
    obtain rfl := Option.some.inj h
    exact k_iret hx hb hr hlk hP hD hS dX9_listen_52
  · have h := ox_t c_2 h
    refine lv_ldc (v := (-1000000001 : Int32)) hx hb hown (hts _ (.tail _ u_k_X9_142)) dX9_listen_11 ?_
    obtain rfl := Option.some.inj h
    exact k_iret hx hb hr hlk hP hD hS dX9_listen_13
set_option maxRecDepth 100000 in
theorem c_X9_listen (l : Launch) (g : gG) (q_t : Nat) (Q_t : Ad) (Q_t_flow : Ad) (Q_t_notes : Ad) (Q_t_plan : Ad) (Q_t_search : Ad) (Q_t_search_one : Ad) (N : Nat) (F_t : St) (F_t_flow : St) (F_t_notes : St) (F_t_plan : St) (F_t_search : St) (L_t_search_one : SL) (x1 : Int32) (o : Int32 × (Nat → Int32) × (Nat → Int32) × (Nat → Int64) × (Nat → Int64)) (h : x_X9_listen N F_t F_t_flow F_t_notes F_t_plan F_t_search L_t_search_one x1 = some o) (sz : Nat) : MetI l yX9_listen (.code yX9_listen cX9_listen 3 (some .int) :: gW) 5 123 [.ref q_t, .int x1] o.1 g [oX9 q_t Q_t (F_t 10 0), oX0 (Q_t 3) Q_t_flow (F_t_flow 0 0) (F_t_flow 1 0), oX2 (Q_t 7) Q_t_notes (F_t_notes 0 0) (F_t_notes 1 0), ia g (Q_t_notes 2) 6 (F_t_notes 2), ia g (Q_t_notes 3) 6 (F_t_notes 3), ia g (Q_t_notes 4) 6 (F_t_notes 4), oX4 (Q_t 1) Q_t_plan (F_t_plan 0 0) (F_t_plan 1 0) (F_t_plan 2 0), ia g (Q_t_plan 3) 8 (F_t_plan 3), ia g (Q_t_plan 5) 10 (F_t_plan 5), ia g (Q_t_plan 6) 10 (F_t_plan 6), ia g (Q_t_plan 7) 10 (F_t_plan 7), ia g (Q_t_plan 8) 10 (F_t_plan 8), oX7 (Q_t 8) Q_t_search, ia g (Q_t_search 2) 10 (F_t_search 2), ia g (Q_t_search 3) 88 (F_t_search 3), oX8 (Q_t_search 0) Q_t_search_one, la g (Q_t_search_one 0) 8 (L_t_search_one 0), la g (Q_t_search_one 1) 8 (L_t_search_one 1)] [oX9 q_t Q_t (F_t 10 0), oX0 (Q_t 3) Q_t_flow (F_t_flow 0 0) (F_t_flow 1 0), oX2 (Q_t 7) Q_t_notes (F_t_notes 0 0) (F_t_notes 1 0), ia g (Q_t_notes 2) 6 (F_t_notes 2), ia g (Q_t_notes 3) 6 (F_t_notes 3), ia g (Q_t_notes 4) 6 (F_t_notes 4), oX4 (Q_t 1) Q_t_plan (F_t_plan 0 0) (F_t_plan 1 0) (F_t_plan 2 0), ia g (Q_t_plan 3) 8 (F_t_plan 3), ia g (Q_t_plan 5) 10 (F_t_plan 5), ia g (Q_t_plan 6) 10 (F_t_plan 6), ia g (Q_t_plan 7) 10 (F_t_plan 7), ia g (Q_t_plan 8) 10 (F_t_plan 8), oX7 (Q_t 8) Q_t_search, ia g (Q_t_search 2) 10 o.2.1, ia g (Q_t_search 3) 88 o.2.2.1, oX8 (Q_t_search 0) Q_t_search_one, la g (Q_t_search_one 0) 8 o.2.2.2.1, la g (Q_t_search_one 1) 8 o.2.2.2.2] sz :=
  mkI (av := [.ref q_t, .int x1]) (by decide +kernel) rfl (fun p e s m below meth c A E H locs ls hP hD hS hl => t_X9_listen E q_t Q_t Q_t_flow Q_t_notes Q_t_plan Q_t_search Q_t_search_one N F_t F_t_flow F_t_notes F_t_plan F_t_search L_t_search_one x1 o h H locs ls hP hD hS hl) sz
def x_X9_write (F_t : St) (F_t_notes : St) (F_t_plan : St) (x1 : Int32) (x2 : Int32) : Option (Int32 × Int32 × (Nat → Int32) × (Nat → Int32)) :=
  Option.bind (x_X4_hasPlace F_t_plan x1) (fun v_1 => if v_1 = 0 then (some ((-1000000001 : Int32), (F_t_notes 1 0), (F_t_notes 5), (F_t_notes 6))) else (if x2 < 0 then (some ((-1000000002 : Int32), (F_t_notes 1 0), (F_t_notes 5), (F_t_notes 6))) else (if x2 ≤ (255 : Int32) then (Option.bind (x_X2_addEntry F_t_notes x1 x2) (fun v_5 => if v_5.1 = 0 then (some ((-1000000004 : Int32), v_5.2.1, v_5.2.2.1, v_5.2.2.2)) else (some (v_5.2.1, v_5.2.1, v_5.2.2.1, v_5.2.2.2)))) else (some ((-1000000002 : Int32), (F_t_notes 1 0), (F_t_notes 5), (F_t_notes 6))))))
set_option maxHeartbeats 4000000 in
set_option maxRecDepth 100000 in
theorem t_X9_write {p : Program} {l : Launch} {e : Env} {s : State} {m : MethodId} {args : Array Value} {below : List Frame} {meth : Method} {c : Code} {g : gG} {A : Nat → Prop} (E : En p s m args meth c g A cX9_write 3 (.code yX9_write cX9_write 3 (some .int) :: gW) RX9 (some .int)) (q_t : Nat) (Q_t : Ad) (Q_t_notes : Ad) (Q_t_plan : Ad) (F_t : St) (F_t_notes : St) (F_t_plan : St) (x1 : Int32) (x2 : Int32) (o : Int32 × Int32 × (Nat → Int32) × (Nat → Int32)) (h : x_X9_write F_t F_t_notes F_t_plan x1 x2 = some o) : WA p l e (rM 1 22) s m args below meth c g A (MQ below (QI g A o.1 [oX9 q_t Q_t (F_t 10 0), oX2 (Q_t 7) Q_t_notes (F_t_notes 0 0) o.2.1, ia g (Q_t_notes 5) 15 o.2.2.1, ia g (Q_t_notes 6) 15 o.2.2.2, oX4 (Q_t 1) Q_t_plan (F_t_plan 0 0) (F_t_plan 1 0) (F_t_plan 2 0)]) args s 0 0 A) 3 0 [oX9 q_t Q_t (F_t 10 0), oX2 (Q_t 7) Q_t_notes (F_t_notes 0 0) (F_t_notes 1 0), ia g (Q_t_notes 5) 15 (F_t_notes 5), ia g (Q_t_notes 6) 15 (F_t_notes 6), oX4 (Q_t 1) Q_t_plan (F_t_plan 0 0) (F_t_plan 1 0) (F_t_plan 2 0)] [(0, .ref q_t), (1, .int x1), (2, .int x2)] [] := by
  obtain ⟨⟨hx, hb, hml, hown, hts⟩, hr, hK, hA, hlk⟩ := id E
  intro H locs ls hP hD hS hl
  refine lv_aload_n hx hb dX9_write_0 rfl (lv_at hl 0 rfl) ?_
  refine va_get (ci := 9) (v := .ref (Q_t 1)) (C := RX9) (T := TX9) (N := 11) hx hb hts (fun w h => .tail _ (u_inX9 w h)) hown hK.1 hP 0 rfl rfl 1 (by decide) (hts _ (.tail _ u_fl_X9_19)) (fun _ h9 => h9) rfl dX9_write_1 ?_
  refine lv_iload_n hx hb dX9_write_4 rfl (lv_at hl 1 rfl) ?_
  obtain ⟨v_1, hv_1, h⟩ := ox_bind h
  refine kVi ⟨hx, hb, hml, hown, hts⟩ (c_X4_hasPlace l g (Q_t 1) Q_t_plan F_t_plan x1 v_1 hv_1 H.size) (gV u_ml_X9_139 u_im_X4_hasPlace u_se_X4_hasPlace u_ini_X4 u_co_X4_hasPlace) hd_X4_hasPlace ⟨rfl, rfl⟩ hK hP hD hS hA 4 4 rfl rfl [4] [1, 2, 3, 4, 0] rfl rfl 1 rfl (w2 := [oX9 q_t Q_t (F_t 10 0), oX2 (Q_t 7) Q_t_notes (F_t_notes 0 0) (F_t_notes 1 0), ia g (Q_t_notes 5) 15 (F_t_notes 5), ia g (Q_t_notes 6) 15 (F_t_notes 6), oX4 (Q_t 1) Q_t_plan (F_t_plan 0 0) (F_t_plan 1 0) (F_t_plan 2 0)]) rfl rfl (As := [.int x1]) (rest := []) rfl hl.1 rfl rfl dX9_write_5 (fun H locs hP hD hS => ?_)
  refine lv_if_ne (tgt := 14) hx hb dX9_write_8 (by decide) (fun c_2 => ?_) (fun c_2 => ?_)
  · have h := ox_f c_2 h
    refine lv_iload_n hx hb dX9_write_14 rfl (lv_at hl 2 rfl) ?_
    refine lv_if_lt (tgt := 25) hx hb dX9_write_15 (by decide) (fun c_3 => ?_) (fun c_3 => ?_)
    · have h := ox_t c_3 h
      refine lv_ldc (v := (-1000000002 : Int32)) hx hb hown (hts _ (.tail _ u_k_X9_75)) dX9_write_25 ?_
      obtain rfl := Option.some.inj h
      exact k_iret hx hb hr hlk hP hD hS dX9_write_27
    · have h := ox_f c_3 h
      refine lv_iload_n hx hb dX9_write_18 rfl (lv_at hl 2 rfl) ?_
      refine lv_sipush (v := (255 : Int32)) hx hb dX9_write_19 (by decide) ?_
      refine lv_icmp_le (tgt := 28) hx hb dX9_write_22 (by decide) (fun c_4 => ?_) (fun c_4 => ?_)
      · have h := ox_t c_4 h
        refine lv_aload_n hx hb dX9_write_28 rfl (lv_at hl 0 rfl) ?_
        refine va_get (ci := 9) (v := .ref (Q_t 7)) (C := RX9) (T := TX9) (N := 11) hx hb hts (fun w h => .tail _ (u_inX9 w h)) hown hK.1 hP 0 rfl rfl 7 (by decide) (hts _ (.tail _ u_fl_X9_52)) (fun _ h9 => h9) rfl dX9_write_29 ?_
        refine lv_iload_n hx hb dX9_write_32 rfl (lv_at hl 1 rfl) ?_
        refine lv_iload_n hx hb dX9_write_33 rfl (lv_at hl 2 rfl) ?_
        obtain ⟨v_5, hv_5, h⟩ := ox_bind h
        refine kVi ⟨hx, hb, hml, hown, hts⟩ (c_X2_addEntry l g (Q_t 7) Q_t_notes F_t_notes x1 x2 v_5 hv_5 H.size) (gV u_ml_X9_262 u_im_X2_addEntry u_se_X2_addEntry u_ini_X2 u_co_X2_addEntry) hd_X2_addEntry ⟨rfl, rfl⟩ hK hP hD hS hA 1 2 rfl rfl [1, 2, 3] [3, 0, 1, 2, 7] rfl rfl 3 rfl (w2 := [oX9 q_t Q_t (F_t 10 0), oX2 (Q_t 7) Q_t_notes (F_t_notes 0 0) v_5.2.1, ia g (Q_t_notes 5) 15 v_5.2.2.1, ia g (Q_t_notes 6) 15 v_5.2.2.2, oX4 (Q_t 1) Q_t_plan (F_t_plan 0 0) (F_t_plan 1 0) (F_t_plan 2 0)]) rfl rfl (As := [.int x1, .int x2]) (rest := []) rfl hl.1 rfl rfl dX9_write_34 (fun H locs hP hD hS => ?_)
        refine lv_if_eq (tgt := 50) hx hb dX9_write_37 (by decide) (fun c_6 => ?_) (fun c_6 => ?_)
        · have h := ox_t c_6 h
          refine lv_ldc (v := (-1000000004 : Int32)) hx hb hown (hts _ (.tail _ u_k_X9_83)) dX9_write_50 ?_
          obtain rfl := Option.some.inj h
          exact k_iret hx hb hr hlk hP hD hS dX9_write_52
        · have h := ox_f c_6 h
          refine lv_aload_n hx hb dX9_write_40 rfl (lv_at hl 0 rfl) ?_
          refine va_get (ci := 9) (v := .ref (Q_t 7)) (C := RX9) (T := TX9) (N := 11) hx hb hts (fun w h => .tail _ (u_inX9 w h)) hown hK.1 hP 0 rfl rfl 7 (by decide) (hts _ (.tail _ u_fl_X9_52)) (fun _ h9 => h9) rfl dX9_write_41 ?_
          refine va_get (ci := 2) (v := .int v_5.2.1) (C := RX2) (T := TX2) (N := 7) hx hb hts (fun w h => .tail _ (u_inX2 w h)) hown hK.1 hP 1 rfl rfl 1 (by decide) (hts _ (.tail _ u_fl_X9_133)) (fun _ h9 => h9) rfl dX9_write_44 ?_
          refine lv_goto (tgt := 52) hx hb dX9_write_47 (by decide) ?_
          obtain rfl := Option.some.inj h
          exact k_iret hx hb hr hlk hP hD hS dX9_write_52
      · have h := ox_f c_4 h
        refine lv_ldc (v := (-1000000002 : Int32)) hx hb hown (hts _ (.tail _ u_k_X9_75)) dX9_write_25 ?_
        obtain rfl := Option.some.inj h
        exact k_iret hx hb hr hlk hP hD hS dX9_write_27
  · have h := ox_t c_2 h
    refine lv_ldc (v := (-1000000001 : Int32)) hx hb hown (hts _ (.tail _ u_k_X9_142)) dX9_write_11 ?_
    obtain rfl := Option.some.inj h
    exact k_iret hx hb hr hlk hP hD hS dX9_write_13
set_option maxRecDepth 100000 in
theorem c_X9_write (l : Launch) (g : gG) (q_t : Nat) (Q_t : Ad) (Q_t_notes : Ad) (Q_t_plan : Ad) (F_t : St) (F_t_notes : St) (F_t_plan : St) (x1 : Int32) (x2 : Int32) (o : Int32 × Int32 × (Nat → Int32) × (Nat → Int32)) (h : x_X9_write F_t F_t_notes F_t_plan x1 x2 = some o) (sz : Nat) : MetI l yX9_write (.code yX9_write cX9_write 3 (some .int) :: gW) 1 22 [.ref q_t, .int x1, .int x2] o.1 g [oX9 q_t Q_t (F_t 10 0), oX2 (Q_t 7) Q_t_notes (F_t_notes 0 0) (F_t_notes 1 0), ia g (Q_t_notes 5) 15 (F_t_notes 5), ia g (Q_t_notes 6) 15 (F_t_notes 6), oX4 (Q_t 1) Q_t_plan (F_t_plan 0 0) (F_t_plan 1 0) (F_t_plan 2 0)] [oX9 q_t Q_t (F_t 10 0), oX2 (Q_t 7) Q_t_notes (F_t_notes 0 0) o.2.1, ia g (Q_t_notes 5) 15 o.2.2.1, ia g (Q_t_notes 6) 15 o.2.2.2, oX4 (Q_t 1) Q_t_plan (F_t_plan 0 0) (F_t_plan 1 0) (F_t_plan 2 0)] sz :=
  mkI (av := [.ref q_t, .int x1, .int x2]) (by decide +kernel) rfl (fun p e s m below meth c A E H locs ls hP hD hS hl => t_X9_write E q_t Q_t Q_t_notes Q_t_plan F_t F_t_notes F_t_plan x1 x2 o h H locs ls hP hD hS hl) sz
def x_X9_tear (F_t : St) (F_t_notes : St) : Option (Int32 × Int32 × Int32) :=
  xl ((F_t_notes 0 0) + (F_t_notes 1 0)) (fun y_1 => Option.bind (x_X2_tearOut F_t_notes) (fun v_2 => some (y_1, v_2.1, v_2.2)))
set_option maxHeartbeats 4000000 in
set_option maxRecDepth 100000 in
theorem t_X9_tear {p : Program} {l : Launch} {e : Env} {s : State} {m : MethodId} {args : Array Value} {below : List Frame} {meth : Method} {c : Code} {g : gG} {A : Nat → Prop} (E : En p s m args meth c g A cX9_tear 2 (.code yX9_tear cX9_tear 2 (some .int) :: gW) RX9 (some .int)) (q_t : Nat) (Q_t : Ad) (Q_t_notes : Ad) (F_t : St) (F_t_notes : St) (o : Int32 × Int32 × Int32) (h : x_X9_tear F_t F_t_notes = some o) : WA p l e (rM 1 20) s m args below meth c g A (MQ below (QI g A o.1 [oX9 q_t Q_t (F_t 10 0), oX2 (Q_t 7) Q_t_notes o.2.1 o.2.2]) args s 0 0 A) 2 0 [oX9 q_t Q_t (F_t 10 0), oX2 (Q_t 7) Q_t_notes (F_t_notes 0 0) (F_t_notes 1 0)] [(0, .ref q_t)] [] := by
  obtain ⟨⟨hx, hb, hml, hown, hts⟩, hr, hK, hA, hlk⟩ := id E
  intro H locs ls hP hD hS hl
  refine lv_aload_n hx hb dX9_tear_0 rfl (lv_at hl 0 rfl) ?_
  refine va_get (ci := 9) (v := .ref (Q_t 7)) (C := RX9) (T := TX9) (N := 11) hx hb hts (fun w h => .tail _ (u_inX9 w h)) hown hK.1 hP 0 rfl rfl 7 (by decide) (hts _ (.tail _ u_fl_X9_52)) (fun _ h9 => h9) rfl dX9_tear_1 ?_
  refine va_get (ci := 2) (v := .int (F_t_notes 0 0)) (C := RX2) (T := TX2) (N := 7) hx hb hts (fun w h => .tail _ (u_inX2 w h)) hown hK.1 hP 1 rfl rfl 0 (by decide) (hts _ (.tail _ u_fl_X9_130)) (fun _ h9 => h9) rfl dX9_tear_4 ?_
  refine lv_aload_n hx hb dX9_tear_7 rfl (lv_at hl 0 rfl) ?_
  refine va_get (ci := 9) (v := .ref (Q_t 7)) (C := RX9) (T := TX9) (N := 11) hx hb hts (fun w h => .tail _ (u_inX9 w h)) hown hK.1 hP 0 rfl rfl 7 (by decide) (hts _ (.tail _ u_fl_X9_52)) (fun _ h9 => h9) rfl dX9_tear_8 ?_
  refine va_get (ci := 2) (v := .int (F_t_notes 1 0)) (C := RX2) (T := TX2) (N := 7) hx hb hts (fun w h => .tail _ (u_inX2 w h)) hown hK.1 hP 1 rfl rfl 1 (by decide) (hts _ (.tail _ u_fl_X9_133)) (fun _ h9 => h9) rfl dX9_tear_11 ?_
  refine lv_iadd hx hb dX9_tear_14 ?_
  refine lv_topi (fun y_1 ey_1 => ?_)
  have h := xl_at ey_1 h
  refine lv_istore_n (lv' := [(1, .int y_1), (0, .ref q_t)]) hx hb dX9_tear_15 rfl hl (by decide) rfl (fun ls hl => ?_)
  refine lv_aload_n hx hb dX9_tear_16 rfl (lv_at hl 1 rfl) ?_
  refine va_get (ci := 9) (v := .ref (Q_t 7)) (C := RX9) (T := TX9) (N := 11) hx hb hts (fun w h => .tail _ (u_inX9 w h)) hown hK.1 hP 0 rfl rfl 7 (by decide) (hts _ (.tail _ u_fl_X9_52)) (fun _ h9 => h9) rfl dX9_tear_17 ?_
  obtain ⟨v_2, hv_2, h⟩ := ox_bind h
  refine kVv ⟨hx, hb, hml, hown, hts⟩ (c_X2_tearOut l g (Q_t 7) Q_t_notes F_t_notes v_2 hv_2 H.size) (gV u_ml_X9_97 u_im_X2_tearOut u_se_X2_tearOut u_ini_X2 u_co_X2_tearOut) hd_X2_tearOut ⟨rfl, rfl⟩ hK hP hD hS hA 1 2 rfl rfl [1] [1, 0] rfl rfl 1 rfl (w2 := [oX9 q_t Q_t (F_t 10 0), oX2 (Q_t 7) Q_t_notes v_2.1 v_2.2]) rfl rfl (As := []) (rest := []) rfl hl.1 rfl rfl dX9_tear_20 (fun H locs hP hD hS => ?_)
  refine lv_iload_n hx hb dX9_tear_23 rfl (lv_at hl 0 rfl) ?_
  obtain rfl := Option.some.inj h
  exact k_iret hx hb hr hlk hP hD hS dX9_tear_24
set_option maxRecDepth 100000 in
theorem c_X9_tear (l : Launch) (g : gG) (q_t : Nat) (Q_t : Ad) (Q_t_notes : Ad) (F_t : St) (F_t_notes : St) (o : Int32 × Int32 × Int32) (h : x_X9_tear F_t F_t_notes = some o) (sz : Nat) : MetI l yX9_tear (.code yX9_tear cX9_tear 2 (some .int) :: gW) 1 20 [.ref q_t] o.1 g [oX9 q_t Q_t (F_t 10 0), oX2 (Q_t 7) Q_t_notes (F_t_notes 0 0) (F_t_notes 1 0)] [oX9 q_t Q_t (F_t 10 0), oX2 (Q_t 7) Q_t_notes o.2.1 o.2.2] sz :=
  mkI (av := [.ref q_t]) (by decide +kernel) rfl (fun p e s m below meth c A E H locs ls hP hD hS hl => t_X9_tear E q_t Q_t Q_t_notes F_t F_t_notes o h H locs ls hP hD hS hl) sz
def x_X9_judge (N : Nat) (F_t : St) (F_t_flow : St) (F_t_notes : St) : Option (Int32) :=
  Option.bind (x_X2_firstWrong N F_t_notes F_t_flow) (fun v_1 => some v_1)
set_option maxHeartbeats 4000000 in
set_option maxRecDepth 100000 in
theorem t_X9_judge {p : Program} {l : Launch} {e : Env} {s : State} {m : MethodId} {args : Array Value} {below : List Frame} {meth : Method} {c : Code} {g : gG} {A : Nat → Prop} (E : En p s m args meth c g A cX9_judge 1 (.code yX9_judge cX9_judge 1 (some .int) :: gW) RX9 (some .int)) (q_t : Nat) (Q_t : Ad) (Q_t_flow : Ad) (Q_t_notes : Ad) (N : Nat) (F_t : St) (F_t_flow : St) (F_t_notes : St) (o : Int32) (h : x_X9_judge N F_t F_t_flow F_t_notes = some o) : WA p l e (rM 1 22) s m args below meth c g A (MQ below (QI g A o [oX9 q_t Q_t (F_t 10 0), oX0 (Q_t 3) Q_t_flow (F_t_flow 0 0) (F_t_flow 1 0), ia g (Q_t_flow 4) 8 (F_t_flow 4), oX2 (Q_t 7) Q_t_notes (F_t_notes 0 0) (F_t_notes 1 0), ia g (Q_t_notes 5) 15 (F_t_notes 5), ia g (Q_t_notes 6) 15 (F_t_notes 6)]) args s 0 0 A) 1 0 [oX9 q_t Q_t (F_t 10 0), oX0 (Q_t 3) Q_t_flow (F_t_flow 0 0) (F_t_flow 1 0), ia g (Q_t_flow 4) 8 (F_t_flow 4), oX2 (Q_t 7) Q_t_notes (F_t_notes 0 0) (F_t_notes 1 0), ia g (Q_t_notes 5) 15 (F_t_notes 5), ia g (Q_t_notes 6) 15 (F_t_notes 6)] [(0, .ref q_t)] [] := by
  obtain ⟨⟨hx, hb, hml, hown, hts⟩, hr, hK, hA, hlk⟩ := id E
  intro H locs ls hP hD hS hl
  refine lv_aload_n hx hb dX9_judge_0 rfl (lv_at hl 0 rfl) ?_
  refine va_get (ci := 9) (v := .ref (Q_t 7)) (C := RX9) (T := TX9) (N := 11) hx hb hts (fun w h => .tail _ (u_inX9 w h)) hown hK.1 hP 0 rfl rfl 7 (by decide) (hts _ (.tail _ u_fl_X9_52)) (fun _ h9 => h9) rfl dX9_judge_1 ?_
  refine lv_aload_n hx hb dX9_judge_4 rfl (lv_at hl 0 rfl) ?_
  refine va_get (ci := 9) (v := .ref (Q_t 3)) (C := RX9) (T := TX9) (N := 11) hx hb hts (fun w h => .tail _ (u_inX9 w h)) hown hK.1 hP 0 rfl rfl 3 (by decide) (hts _ (.tail _ u_fl_X9_29)) (fun _ h9 => h9) rfl dX9_judge_5 ?_
  obtain ⟨v_1, hv_1, h⟩ := ox_bind h
  refine kVi ⟨hx, hb, hml, hown, hts⟩ (c_X2_firstWrong l g (Q_t 7) Q_t_notes (Q_t 3) Q_t_flow N F_t_notes F_t_flow v_1 hv_1 H.size) (gV u_ml_X9_265 u_im_X2_firstWrong u_se_X2_firstWrong u_ini_X2 u_co_X2_firstWrong) hd_X2_firstWrong ⟨rfl, rfl⟩ hK hP hD hS hA 3 2 rfl rfl [3, 4, 5, 1, 2] [5, 3, 4, 0, 1, 2] rfl rfl 5 rfl (w2 := [oX9 q_t Q_t (F_t 10 0), oX0 (Q_t 3) Q_t_flow (F_t_flow 0 0) (F_t_flow 1 0), ia g (Q_t_flow 4) 8 (F_t_flow 4), oX2 (Q_t 7) Q_t_notes (F_t_notes 0 0) (F_t_notes 1 0), ia g (Q_t_notes 5) 15 (F_t_notes 5), ia g (Q_t_notes 6) 15 (F_t_notes 6)]) rfl rfl (As := [.ref (Q_t 3)]) (rest := []) rfl hl.1 rfl rfl dX9_judge_8 (fun H locs hP hD hS => ?_)
  obtain rfl := Option.some.inj h
  exact k_iret hx hb hr hlk hP hD hS dX9_judge_11
set_option maxRecDepth 100000 in
theorem c_X9_judge (l : Launch) (g : gG) (q_t : Nat) (Q_t : Ad) (Q_t_flow : Ad) (Q_t_notes : Ad) (N : Nat) (F_t : St) (F_t_flow : St) (F_t_notes : St) (o : Int32) (h : x_X9_judge N F_t F_t_flow F_t_notes = some o) (sz : Nat) : MetI l yX9_judge (.code yX9_judge cX9_judge 1 (some .int) :: gW) 1 22 [.ref q_t] o g [oX9 q_t Q_t (F_t 10 0), oX0 (Q_t 3) Q_t_flow (F_t_flow 0 0) (F_t_flow 1 0), ia g (Q_t_flow 4) 8 (F_t_flow 4), oX2 (Q_t 7) Q_t_notes (F_t_notes 0 0) (F_t_notes 1 0), ia g (Q_t_notes 5) 15 (F_t_notes 5), ia g (Q_t_notes 6) 15 (F_t_notes 6)] [oX9 q_t Q_t (F_t 10 0), oX0 (Q_t 3) Q_t_flow (F_t_flow 0 0) (F_t_flow 1 0), ia g (Q_t_flow 4) 8 (F_t_flow 4), oX2 (Q_t 7) Q_t_notes (F_t_notes 0 0) (F_t_notes 1 0), ia g (Q_t_notes 5) 15 (F_t_notes 5), ia g (Q_t_notes 6) 15 (F_t_notes 6)] sz :=
  mkI (av := [.ref q_t]) (by decide +kernel) rfl (fun p e s m below meth c A E H locs ls hP hD hS hl => t_X9_judge E q_t Q_t Q_t_flow Q_t_notes N F_t F_t_flow F_t_notes o h H locs ls hP hD hS hl) sz
def x_X9_seed (F_t : St) (x1 : Int32) : Option (Int32 × Int32) :=
  if 0 ≤ x1 then (xl (F_t 10 0) (fun y_2 => some (y_2, x1))) else (some ((-1000000002 : Int32), (F_t 10 0)))
set_option maxHeartbeats 4000000 in
set_option maxRecDepth 100000 in
theorem t_X9_seed {p : Program} {l : Launch} {e : Env} {s : State} {m : MethodId} {args : Array Value} {below : List Frame} {meth : Method} {c : Code} {g : gG} {A : Nat → Prop} (E : En p s m args meth c g A cX9_seed 3 (.code yX9_seed cX9_seed 3 (some .int) :: gW) RX9 (some .int)) (q_t : Nat) (Q_t : Ad) (F_t : St) (x1 : Int32) (o : Int32 × Int32) (h : x_X9_seed F_t x1 = some o) : WA p l e (rM 0 0) s m args below meth c g A (MQ below (QI g A o.1 [oX9 q_t Q_t o.2]) args s 0 0 A) 3 0 [oX9 q_t Q_t (F_t 10 0)] [(0, .ref q_t), (1, .int x1)] [] := by
  obtain ⟨⟨hx, hb, hml, hown, hts⟩, hr, hK, hA, hlk⟩ := id E
  intro H locs ls hP hD hS hl
  refine lv_iload_n hx hb dX9_seed_0 rfl (lv_at hl 1 rfl) ?_
  refine lv_if_ge (tgt := 7) hx hb dX9_seed_1 (by decide) (fun c_1 => ?_) (fun c_1 => ?_)
  · have h := ox_t c_1 h
    refine lv_aload_n hx hb dX9_seed_7 rfl (lv_at hl 0 rfl) ?_
    refine va_get (ci := 9) (v := .int (F_t 10 0)) (C := RX9) (T := TX9) (N := 11) hx hb hts (fun w h => .tail _ (u_inX9 w h)) hown hK.1 hP 0 rfl rfl 10 (by decide) (hts _ (.tail _ u_fl_X9_70)) (fun _ h9 => h9) rfl dX9_seed_8 ?_
    refine lv_topi (fun y_2 ey_2 => ?_)
    have h := xl_at ey_2 h
    refine lv_istore_n (lv' := [(2, .int y_2), (0, .ref q_t), (1, .int x1)]) hx hb dX9_seed_11 rfl hl (by decide) rfl (fun ls hl => ?_)
    refine lv_aload_n hx hb dX9_seed_12 rfl (lv_at hl 1 rfl) ?_
    refine lv_iload_n hx hb dX9_seed_13 rfl (lv_at hl 2 rfl) ?_
    refine va_put (ci := 9) (v := .int x1) (ty := .int) (C := RX9) (T := TX9) (N := 11) hx hb hts (fun w h => .tail _ (u_inX9 w h)) tyX9 tyX9_ok nmX9 hown hK.1 hP hD hS 0 rfl rfl 10 (by decide) (hts _ (.tail _ u_fl_X9_70)) (fun _ h9 => h9) rfl (tyX9_ok 10 (by decide)) rfl rfl (Nat.le_of_ble_eq_true rfl) dX9_seed_14 (fun H locs hP hD hS => ?_)
    have hP : va_P g.1 vwCl [oX9 q_t Q_t x1] H := hP
    have hD : va_D A [oX9 q_t Q_t x1] := hD
    refine lv_iload_n hx hb dX9_seed_17 rfl (lv_at hl 0 rfl) ?_
    obtain rfl := Option.some.inj h
    exact k_iret hx hb hr hlk hP hD hS dX9_seed_18
  · have h := ox_f c_1 h
    refine lv_ldc (v := (-1000000002 : Int32)) hx hb hown (hts _ (.tail _ u_k_X9_75)) dX9_seed_4 ?_
    obtain rfl := Option.some.inj h
    exact k_iret hx hb hr hlk hP hD hS dX9_seed_6
set_option maxRecDepth 100000 in
theorem c_X9_seed (l : Launch) (g : gG) (q_t : Nat) (Q_t : Ad) (F_t : St) (x1 : Int32) (o : Int32 × Int32) (h : x_X9_seed F_t x1 = some o) (sz : Nat) : MetI l yX9_seed (.code yX9_seed cX9_seed 3 (some .int) :: gW) 0 0 [.ref q_t, .int x1] o.1 g [oX9 q_t Q_t (F_t 10 0)] [oX9 q_t Q_t o.2] sz :=
  mkI (av := [.ref q_t, .int x1]) (by decide +kernel) rfl (fun p e s m below meth c A E H locs ls hP hD hS hl => t_X9_seed E q_t Q_t F_t x1 o h H locs ls hP hD hS hl) sz
