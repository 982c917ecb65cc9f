def x_X2_tearOut (F_t : St) : Option (Int32 × Int32) :=
  some ((0 : Int32), (0 : Int32))
set_option maxHeartbeats 4000000 in
set_option maxRecDepth 100000 in
theorem t_X2_tearOut {p : Program} {l : Launch} {e : Env} {s : State} {m : MethodId} {args : Array Value} {below : List Frame} {meth : Method} {c : Code} {g : gG} {A : Nat → Prop} (E : En p s m args meth c g A cX2_tearOut 1 (.code yX2_tearOut cX2_tearOut 1 none :: gW) RX2 none) (q_t : Nat) (Q_t : Ad) (F_t : St) (o : Int32 × Int32) (h : x_X2_tearOut F_t = some o) : WA p l e (rM 0 0) s m args below meth c g A (MQ below (QV g A [oX2 q_t Q_t o.1 o.2]) args s 0 0 A) 1 0 [oX2 q_t Q_t (F_t 0 0) (F_t 1 0)] [(0, .ref q_t)] [] := by
  obtain ⟨⟨hx, hb, hml, hown, hts⟩, hr, hK, hA, hlk⟩ := id E
  intro H locs ls hP hD hS hl
  refine lv_aload_n hx hb dX2_tearOut_0 rfl (lv_at hl 0 rfl) ?_
  refine lv_iconst (v := (0 : Int32)) hx hb dX2_tearOut_1 (by decide) ?_
  refine va_put (ci := 2) (v := .int (0 : Int32)) (ty := .int) (C := RX2) (T := TX2) (N := 7) hx hb hts (fun w h => .tail _ (u_inX2 w h)) tyX2 tyX2_ok nmX2 hown hK.1 hP hD hS 0 rfl rfl 0 (by decide) (hts _ (.tail _ u_fl_X2_9)) (fun _ h9 => h9) rfl (tyX2_ok 0 (by decide)) rfl rfl (Nat.le_of_ble_eq_true rfl) dX2_tearOut_2 (fun H locs hP hD hS => ?_)
  have hP : va_P g.1 vwCl [oX2 q_t Q_t (0 : Int32) (F_t 1 0)] H := hP
  have hD : va_D A [oX2 q_t Q_t (0 : Int32) (F_t 1 0)] := hD
  refine lv_aload_n hx hb dX2_tearOut_5 rfl (lv_at hl 0 rfl) ?_
  refine lv_iconst (v := (0 : Int32)) hx hb dX2_tearOut_6 (by decide) ?_
  refine va_put (ci := 2) (v := .int (0 : Int32)) (ty := .int) (C := RX2) (T := TX2) (N := 7) hx hb hts (fun w h => .tail _ (u_inX2 w h)) tyX2 tyX2_ok nmX2 hown hK.1 hP hD hS 0 rfl rfl 1 (by decide) (hts _ (.tail _ u_fl_X2_15)) (fun _ h9 => h9) rfl (tyX2_ok 1 (by decide)) rfl rfl (Nat.le_of_ble_eq_true rfl) dX2_tearOut_7 (fun H locs hP hD hS => ?_)
  have hP : va_P g.1 vwCl [oX2 q_t Q_t (0 : Int32) (0 : Int32)] H := hP
  have hD : va_D A [oX2 q_t Q_t (0 : Int32) (0 : Int32)] := hD
  obtain rfl := Option.some.inj h
  exact k_vret hx hb hr hlk hP hD hS dX2_tearOut_10
set_option maxRecDepth 100000 in
theorem c_X2_tearOut (l : Launch) (g : gG) (q_t : Nat) (Q_t : Ad) (F_t : St) (o : Int32 × Int32) (h : x_X2_tearOut F_t = some o) (sz : Nat) : MetV l yX2_tearOut (.code yX2_tearOut cX2_tearOut 1 none :: gW) 0 0 [.ref q_t] g [oX2 q_t Q_t (F_t 0 0) (F_t 1 0)] [oX2 q_t Q_t o.1 o.2] sz :=
  mkV (av := [.ref q_t]) (by decide +kernel) rfl (fun p e s m below meth c A E H locs ls hP hD hS hl => t_X2_tearOut E q_t Q_t F_t o h H locs ls hP hD hS hl) sz
def x_X2_addDrip (F_t : St) (x1 : Int32) (x2 : Int32) (x3 : Int32) : Option (Int32 × Int32 × (Nat → Int32) × (Nat → Int32) × (Nat → Int32)) :=
  if (F_t 0 0) < (6 : Int32) then (if (F_t 0 0) < 0 ∨ 6 ≤ (F_t 0 0).toNatClampNeg then none else if (F_t 0 0) < 0 ∨ 6 ≤ (F_t 0 0).toNatClampNeg then none else if (F_t 0 0) < 0 ∨ 6 ≤ (F_t 0 0).toNatClampNeg then none else xl ((F_t 0 0) + (1 : Int32)) (fun y_5 => some ((1 : Int32), y_5, (upd (F_t 2) (F_t 0 0).toNatClampNeg x1), (upd (F_t 3) (F_t 0 0).toNatClampNeg x2), (upd (F_t 4) (F_t 0 0).toNatClampNeg x3)))) else (some ((0 : Int32), (F_t 0 0), (F_t 2), (F_t 3), (F_t 4)))
set_option maxHeartbeats 4000000 in
set_option maxRecDepth 100000 in
theorem t_X2_addDrip {p : Program} {l : Launch} {e : Env} {s : State} {m : MethodId} {args : Array Value} {below : List Frame} {meth : Method} {c : Code} {g : gG} {A : Nat → Prop} (E : En p s m args meth c g A cX2_addDrip 4 (.code yX2_addDrip cX2_addDrip 4 (some .boolean) :: gW) RX2 (some .boolean)) (q_t : Nat) (Q_t : Ad) (F_t : St) (x1 : Int32) (x2 : Int32) (x3 : Int32) (o : Int32 × Int32 × (Nat → Int32) × (Nat → Int32) × (Nat → Int32)) (h : x_X2_addDrip F_t x1 x2 x3 = some o) : WA p l e (rM 0 0) s m args below meth c g A (MQ below (QI g A o.1 [oX2 q_t Q_t o.2.1 (F_t 1 0), ia g (Q_t 2) 6 o.2.2.1, ia g (Q_t 3) 6 o.2.2.2.1, ia g (Q_t 4) 6 o.2.2.2.2]) args s 0 0 A) 4 0 [oX2 q_t Q_t (F_t 0 0) (F_t 1 0), ia g (Q_t 2) 6 (F_t 2), ia g (Q_t 3) 6 (F_t 3), ia g (Q_t 4) 6 (F_t 4)] [(0, .ref q_t), (1, .int x1), (2, .int x2), (3, .int x3)] [] := by
  obtain ⟨⟨hx, hb, hml, hown, hts⟩, hr, hK, hA, hlk⟩ := id E
  intro H locs ls hP hD hS hl
  refine lv_aload_n hx hb dX2_addDrip_0 rfl (lv_at hl 0 rfl) ?_
  refine va_get (ci := 2) (v := .int (F_t 0 0)) (C := RX2) (T := TX2) (N := 7) hx hb hts (fun w h => .tail _ (u_inX2 w h)) hown hK.1 hP 0 rfl rfl 0 (by decide) (hts _ (.tail _ u_fl_X2_9)) (fun _ h9 => h9) rfl dX2_addDrip_1 ?_
  refine lv_bipush (v := (6 : Int32)) hx hb dX2_addDrip_4 (by decide) ?_
  refine lv_icmp_lt (tgt := 11) hx hb dX2_addDrip_6 (by decide) (fun c_1 => ?_) (fun c_1 => ?_)
  · have h := ox_t c_1 h
    refine lv_aload_n hx hb dX2_addDrip_11 rfl (lv_at hl 0 rfl) ?_
    refine va_get (ci := 2) (v := .ref (Q_t 2)) (C := RX2) (T := TX2) (N := 7) hx hb hts (fun w h => .tail _ (u_inX2 w h)) hown hK.1 hP 0 rfl rfl 2 (by decide) (hts _ (.tail _ u_fl_X2_18)) (fun _ h9 => h9) rfl dX2_addDrip_12 ?_
    refine lv_aload_n hx hb dX2_addDrip_15 rfl (lv_at hl 0 rfl) ?_
    refine va_get (ci := 2) (v := .int (F_t 0 0)) (C := RX2) (T := TX2) (N := 7) hx hb hts (fun w h => .tail _ (u_inX2 w h)) hown hK.1 hP 0 rfl rfl 0 (by decide) (hts _ (.tail _ u_fl_X2_9)) (fun _ h9 => h9) rfl dX2_addDrip_16 ?_
    refine lv_iload_n hx hb dX2_addDrip_19 rfl (lv_at hl 1 rfl) ?_
    obtain ⟨hi_2, h⟩ := ox_chk h
    refine va_iast hx hb hK.1 hP hD hS 1 0 rfl rfl hi_2 dX2_addDrip_20 (fun H locs hP hD hS => ?_)
    have hP : va_P g.1 vwCl [oX2 q_t Q_t (F_t 0 0) (F_t 1 0), ia g (Q_t 2) 6 (upd (F_t 2) (F_t 0 0).toNatClampNeg x1), ia g (Q_t 3) 6 (F_t 3), ia g (Q_t 4) 6 (F_t 4)] H := hP
    have hD : va_D A [oX2 q_t Q_t (F_t 0 0) (F_t 1 0), ia g (Q_t 2) 6 (upd (F_t 2) (F_t 0 0).toNatClampNeg x1), ia g (Q_t 3) 6 (F_t 3), ia g (Q_t 4) 6 (F_t 4)] := hD
    refine lv_aload_n hx hb dX2_addDrip_21 rfl (lv_at hl 0 rfl) ?_
    refine va_get (ci := 2) (v := .ref (Q_t 3)) (C := RX2) (T := TX2) (N := 7) hx hb hts (fun w h => .tail _ (u_inX2 w h)) hown hK.1 hP 0 rfl rfl 3 (by decide) (hts _ (.tail _ u_fl_X2_22)) (fun _ h9 => h9) rfl dX2_addDrip_22 ?_
    refine lv_aload_n hx hb dX2_addDrip_25 rfl (lv_at hl 0 rfl) ?_
    refine va_get (ci := 2) (v := .int (F_t 0 0)) (C := RX2) (T := TX2) (N := 7) hx hb hts (fun w h => .tail _ (u_inX2 w h)) hown hK.1 hP 0 rfl rfl 0 (by decide) (hts _ (.tail _ u_fl_X2_9)) (fun _ h9 => h9) rfl dX2_addDrip_26 ?_
    refine lv_iload_n hx hb dX2_addDrip_29 rfl (lv_at hl 2 rfl) ?_
    obtain ⟨hi_3, h⟩ := ox_chk h
    refine va_iast hx hb hK.1 hP hD hS 2 0 rfl rfl hi_3 dX2_addDrip_30 (fun H locs hP hD hS => ?_)
    have hP : va_P g.1 vwCl [oX2 q_t Q_t (F_t 0 0) (F_t 1 0), ia g (Q_t 2) 6 (upd (F_t 2) (F_t 0 0).toNatClampNeg x1), ia g (Q_t 3) 6 (upd (F_t 3) (F_t 0 0).toNatClampNeg x2), ia g (Q_t 4) 6 (F_t 4)] H := hP
    have hD : va_D A [oX2 q_t Q_t (F_t 0 0) (F_t 1 0), ia g (Q_t 2) 6 (upd (F_t 2) (F_t 0 0).toNatClampNeg x1), ia g (Q_t 3) 6 (upd (F_t 3) (F_t 0 0).toNatClampNeg x2), ia g (Q_t 4) 6 (F_t 4)] := hD
    refine lv_aload_n hx hb dX2_addDrip_31 rfl (lv_at hl 0 rfl) ?_
    refine va_get (ci := 2) (v := .ref (Q_t 4)) (C := RX2) (T := TX2) (N := 7) hx hb hts (fun w h => .tail _ (u_inX2 w h)) hown hK.1 hP 0 rfl rfl 4 (by decide) (hts _ (.tail _ u_fl_X2_25)) (fun _ h9 => h9) rfl dX2_addDrip_32 ?_
    refine lv_aload_n hx hb dX2_addDrip_35 rfl (lv_at hl 0 rfl) ?_
    refine va_get (ci := 2) (v := .int (F_t 0 0)) (C := RX2) (T := TX2) (N := 7) hx hb hts (fun w h => .tail _ (u_inX2 w h)) hown hK.1 hP 0 rfl rfl 0 (by decide) (hts _ (.tail _ u_fl_X2_9)) (fun _ h9 => h9) rfl dX2_addDrip_36 ?_
    refine lv_iload_n hx hb dX2_addDrip_39 rfl (lv_at hl 3 rfl) ?_
    obtain ⟨hi_4, h⟩ := ox_chk h
    refine va_iast hx hb hK.1 hP hD hS 3 0 rfl rfl hi_4 dX2_addDrip_40 (fun H locs hP hD hS => ?_)
    have hP : va_P g.1 vwCl [oX2 q_t Q_t (F_t 0 0) (F_t 1 0), ia g (Q_t 2) 6 (upd (F_t 2) (F_t 0 0).toNatClampNeg x1), ia g (Q_t 3) 6 (upd (F_t 3) (F_t 0 0).toNatClampNeg x2), ia g (Q_t 4) 6 (upd (F_t 4) (F_t 0 0).toNatClampNeg x3)] H := hP
    have hD : va_D A [oX2 q_t Q_t (F_t 0 0) (F_t 1 0), ia g (Q_t 2) 6 (upd (F_t 2) (F_t 0 0).toNatClampNeg x1), ia g (Q_t 3) 6 (upd (F_t 3) (F_t 0 0).toNatClampNeg x2), ia g (Q_t 4) 6 (upd (F_t 4) (F_t 0 0).toNatClampNeg x3)] := hD
    refine lv_aload_n hx hb dX2_addDrip_41 rfl (lv_at hl 0 rfl) ?_
    refine lv_dup hx hb dX2_addDrip_42 rfl ?_
    refine va_get (ci := 2) (v := .int (F_t 0 0)) (C := RX2) (T := TX2) (N := 7) hx hb hts (fun w h => .tail _ (u_inX2 w h)) hown hK.1 hP 0 rfl rfl 0 (by decide) (hts _ (.tail _ u_fl_X2_9)) (fun _ h9 => h9) rfl dX2_addDrip_43 ?_
    refine lv_iconst (v := (1 : Int32)) hx hb dX2_addDrip_46 (by decide) ?_
    refine lv_iadd hx hb dX2_addDrip_47 ?_
    refine lv_topi (fun y_5 ey_5 => ?_)
    have h := xl_at ey_5 h
    refine va_put (ci := 2) (v := .int y_5) (ty := .int) (C := RX2) (T := TX2) (N := 7) hx hb hts (fun w h => .tail _ (u_inX2 w h)) tyX2 tyX2_ok nmX2 hown hK.1 hP hD hS 0 rfl rfl 0 (by decide) (hts _ (.tail _ u_fl_X2_9)) (fun _ h9 => h9) rfl (tyX2_ok 0 (by decide)) rfl rfl (Nat.le_of_ble_eq_true rfl) dX2_addDrip_48 (fun H locs hP hD hS => ?_)
    have hP : va_P g.1 vwCl [oX2 q_t Q_t y_5 (F_t 1 0), ia g (Q_t 2) 6 (upd (F_t 2) (F_t 0 0).toNatClampNeg x1), ia g (Q_t 3) 6 (upd (F_t 3) (F_t 0 0).toNatClampNeg x2), ia g (Q_t 4) 6 (upd (F_t 4) (F_t 0 0).toNatClampNeg x3)] H := hP
    have hD : va_D A [oX2 q_t Q_t y_5 (F_t 1 0), ia g (Q_t 2) 6 (upd (F_t 2) (F_t 0 0).toNatClampNeg x1), ia g (Q_t 3) 6 (upd (F_t 3) (F_t 0 0).toNatClampNeg x2), ia g (Q_t 4) 6 (upd (F_t 4) (F_t 0 0).toNatClampNeg x3)] := hD
    refine lv_iconst (v := (1 : Int32)) hx hb dX2_addDrip_51 (by decide) ?_
    obtain rfl := Option.some.inj h
    exact k_zret hx hb hr hlk (.inr rfl) hP hD hS dX2_addDrip_52
  · have h := ox_f c_1 h
    refine lv_iconst (v := (0 : Int32)) hx hb dX2_addDrip_9 (by decide) ?_
    obtain rfl := Option.some.inj h
    exact k_zret hx hb hr hlk (.inl rfl) hP hD hS dX2_addDrip_10
set_option maxRecDepth 100000 in
theorem c_X2_addDrip (l : Launch) (g : gG) (q_t : Nat) (Q_t : Ad) (F_t : St) (x1 : Int32) (x2 : Int32) (x3 : Int32) (o : Int32 × Int32 × (Nat → Int32) × (Nat → Int32) × (Nat → Int32)) (h : x_X2_addDrip F_t x1 x2 x3 = some o) (sz : Nat) : MetI l yX2_addDrip (.code yX2_addDrip cX2_addDrip 4 (some .boolean) :: gW) 0 0 [.ref q_t, .int x1, .int x2, .int x3] o.1 g [oX2 q_t Q_t (F_t 0 0) (F_t 1 0), ia g (Q_t 2) 6 (F_t 2), ia g (Q_t 3) 6 (F_t 3), ia g (Q_t 4) 6 (F_t 4)] [oX2 q_t Q_t o.2.1 (F_t 1 0), ia g (Q_t 2) 6 o.2.2.1, ia g (Q_t 3) 6 o.2.2.2.1, ia g (Q_t 4) 6 o.2.2.2.2] sz :=
  mkI (av := [.ref q_t, .int x1, .int x2, .int x3]) (by decide +kernel) rfl (fun p e s m below meth c A E H locs ls hP hD hS hl => t_X2_addDrip E q_t Q_t F_t x1 x2 x3 o h H locs ls hP hD hS hl) sz
def x_X2_addEntry (F_t : St) (x1 : Int32) (x2 : Int32) : Option (Int32 × Int32 × (Nat → Int32) × (Nat → Int32)) :=
  if (F_t 1 0) < (15 : Int32) then (if (F_t 1 0) < 0 ∨ 15 ≤ (F_t 1 0).toNatClampNeg then none else if (F_t 1 0) < 0 ∨ 15 ≤ (F_t 1 0).toNatClampNeg then none else xl ((F_t 1 0) + (1 : Int32)) (fun y_4 => some ((1 : Int32), y_4, (upd (F_t 5) (F_t 1 0).toNatClampNeg x1), (upd (F_t 6) (F_t 1 0).toNatClampNeg x2)))) else (some ((0 : Int32), (F_t 1 0), (F_t 5), (F_t 6)))
set_option maxHeartbeats 4000000 in
set_option maxRecDepth 100000 in
theorem t_X2_addEntry {p : Program} {l : Launch} {e : Env} {s : State} {m : MethodId} {args : Array Value} {below : List Frame} {meth : Method} {c : Code} {g : gG} {A : Nat → Prop} (E : En p s m args meth c g A cX2_addEntry 3 (.code yX2_addEntry cX2_addEntry 3 (some .boolean) :: gW) RX2 (some .boolean)) (q_t : Nat) (Q_t : Ad) (F_t : St) (x1 : Int32) (x2 : Int32) (o : Int32 × Int32 × (Nat → Int32) × (Nat → Int32)) (h : x_X2_addEntry F_t x1 x2 = some o) : WA p l e (rM 0 0) s m args below meth c g A (MQ below (QI g A o.1 [oX2 q_t Q_t (F_t 0 0) o.2.1, ia g (Q_t 5) 15 o.2.2.1, ia g (Q_t 6) 15 o.2.2.2]) args s 0 0 A) 3 0 [oX2 q_t Q_t (F_t 0 0) (F_t 1 0), ia g (Q_t 5) 15 (F_t 5), ia g (Q_t 6) 15 (F_t 6)] [(0, .ref q_t), (1, .int x1), (2, .int x2)] [] := by
  obtain ⟨⟨hx, hb, hml, hown, hts⟩, hr, hK, hA, hlk⟩ := id E
  intro H locs ls hP hD hS hl
  refine lv_aload_n hx hb dX2_addEntry_0 rfl (lv_at hl 0 rfl) ?_
  refine va_get (ci := 2) (v := .int (F_t 1 0)) (C := RX2) (T := TX2) (N := 7) hx hb hts (fun w h => .tail _ (u_inX2 w h)) hown hK.1 hP 0 rfl rfl 1 (by decide) (hts _ (.tail _ u_fl_X2_15)) (fun _ h9 => h9) rfl dX2_addEntry_1 ?_
  refine lv_bipush (v := (15 : Int32)) hx hb dX2_addEntry_4 (by decide) ?_
  refine lv_icmp_lt (tgt := 11) hx hb dX2_addEntry_6 (by decide) (fun c_1 => ?_) (fun c_1 => ?_)
  · have h := ox_t c_1 h
    refine lv_aload_n hx hb dX2_addEntry_11 rfl (lv_at hl 0 rfl) ?_
    refine va_get (ci := 2) (v := .ref (Q_t 5)) (C := RX2) (T := TX2) (N := 7) hx hb hts (fun w h => .tail _ (u_inX2 w h)) hown hK.1 hP 0 rfl rfl 5 (by decide) (hts _ (.tail _ u_fl_X2_28)) (fun _ h9 => h9) rfl dX2_addEntry_12 ?_
    refine lv_aload_n hx hb dX2_addEntry_15 rfl (lv_at hl 0 rfl) ?_
    refine va_get (ci := 2) (v := .int (F_t 1 0)) (C := RX2) (T := TX2) (N := 7) hx hb hts (fun w h => .tail _ (u_inX2 w h)) hown hK.1 hP 0 rfl rfl 1 (by decide) (hts _ (.tail _ u_fl_X2_15)) (fun _ h9 => h9) rfl dX2_addEntry_16 ?_
    refine lv_iload_n hx hb dX2_addEntry_19 rfl (lv_at hl 1 rfl) ?_
    obtain ⟨hi_2, h⟩ := ox_chk h
    refine va_iast hx hb hK.1 hP hD hS 1 0 rfl rfl hi_2 dX2_addEntry_20 (fun H locs hP hD hS => ?_)
    have hP : va_P g.1 vwCl [oX2 q_t Q_t (F_t 0 0) (F_t 1 0), ia g (Q_t 5) 15 (upd (F_t 5) (F_t 1 0).toNatClampNeg x1), ia g (Q_t 6) 15 (F_t 6)] H := hP
    have hD : va_D A [oX2 q_t Q_t (F_t 0 0) (F_t 1 0), ia g (Q_t 5) 15 (upd (F_t 5) (F_t 1 0).toNatClampNeg x1), ia g (Q_t 6) 15 (F_t 6)] := hD
    refine lv_aload_n hx hb dX2_addEntry_21 rfl (lv_at hl 0 rfl) ?_
    refine va_get (ci := 2) (v := .ref (Q_t 6)) (C := RX2) (T := TX2) (N := 7) hx hb hts (fun w h => .tail _ (u_inX2 w h)) hown hK.1 hP 0 rfl rfl 6 (by decide) (hts _ (.tail _ u_fl_X2_31)) (fun _ h9 => h9) rfl dX2_addEntry_22 ?_
    refine lv_aload_n hx hb dX2_addEntry_25 rfl (lv_at hl 0 rfl) ?_
    refine va_get (ci := 2) (v := .int (F_t 1 0)) (C := RX2) (T := TX2) (N := 7) hx hb hts (fun w h => .tail _ (u_inX2 w h)) hown hK.1 hP 0 rfl rfl 1 (by decide) (hts _ (.tail _ u_fl_X2_15)) (fun _ h9 => h9) rfl dX2_addEntry_26 ?_
    refine lv_iload_n hx hb dX2_addEntry_29 rfl (lv_at hl 2 rfl) ?_
    obtain ⟨hi_3, h⟩ := ox_chk h
    refine va_iast hx hb hK.1 hP hD hS 2 0 rfl rfl hi_3 dX2_addEntry_30 (fun H locs hP hD hS => ?_)
    have hP : va_P g.1 vwCl [oX2 q_t Q_t (F_t 0 0) (F_t 1 0), ia g (Q_t 5) 15 (upd (F_t 5) (F_t 1 0).toNatClampNeg x1), ia g (Q_t 6) 15 (upd (F_t 6) (F_t 1 0).toNatClampNeg x2)] H := hP
    have hD : va_D A [oX2 q_t Q_t (F_t 0 0) (F_t 1 0), ia g (Q_t 5) 15 (upd (F_t 5) (F_t 1 0).toNatClampNeg x1), ia g (Q_t 6) 15 (upd (F_t 6) (F_t 1 0).toNatClampNeg x2)] := hD
    refine lv_aload_n hx hb dX2_addEntry_31 rfl (lv_at hl 0 rfl) ?_
    refine lv_dup hx hb dX2_addEntry_32 rfl ?_
    refine va_get (ci := 2) (v := .int (F_t 1 0)) (C := RX2) (T := TX2) (N := 7) hx hb hts (fun w h => .tail _ (u_inX2 w h)) hown hK.1 hP 0 rfl rfl 1 (by decide) (hts _ (.tail _ u_fl_X2_15)) (fun _ h9 => h9) rfl dX2_addEntry_33 ?_
    refine lv_iconst (v := (1 : Int32)) hx hb dX2_addEntry_36 (by decide) ?_
    refine lv_iadd hx hb dX2_addEntry_37 ?_
    refine lv_topi (fun y_4 ey_4 => ?_)
    have h := xl_at ey_4 h
    refine va_put (ci := 2) (v := .int y_4) (ty := .int) (C := RX2) (T := TX2) (N := 7) hx hb hts (fun w h => .tail _ (u_inX2 w h)) tyX2 tyX2_ok nmX2 hown hK.1 hP hD hS 0 rfl rfl 1 (by decide) (hts _ (.tail _ u_fl_X2_15)) (fun _ h9 => h9) rfl (tyX2_ok 1 (by decide)) rfl rfl (Nat.le_of_ble_eq_true rfl) dX2_addEntry_38 (fun H locs hP hD hS => ?_)
    have hP : va_P g.1 vwCl [oX2 q_t Q_t (F_t 0 0) y_4, ia g (Q_t 5) 15 (upd (F_t 5) (F_t 1 0).toNatClampNeg x1), ia g (Q_t 6) 15 (upd (F_t 6) (F_t 1 0).toNatClampNeg x2)] H := hP
    have hD : va_D A [oX2 q_t Q_t (F_t 0 0) y_4, ia g (Q_t 5) 15 (upd (F_t 5) (F_t 1 0).toNatClampNeg x1), ia g (Q_t 6) 15 (upd (F_t 6) (F_t 1 0).toNatClampNeg x2)] := hD
    refine lv_iconst (v := (1 : Int32)) hx hb dX2_addEntry_41 (by decide) ?_
    obtain rfl := Option.some.inj h
    exact k_zret hx hb hr hlk (.inr rfl) hP hD hS dX2_addEntry_42
  · have h := ox_f c_1 h
    refine lv_iconst (v := (0 : Int32)) hx hb dX2_addEntry_9 (by decide) ?_
    obtain rfl := Option.some.inj h
    exact k_zret hx hb hr hlk (.inl rfl) hP hD hS dX2_addEntry_10
set_option maxRecDepth 100000 in
theorem c_X2_addEntry (l : Launch) (g : gG) (q_t : Nat) (Q_t : Ad) (F_t : St) (x1 : Int32) (x2 : Int32) (o : Int32 × Int32 × (Nat → Int32) × (Nat → Int32)) (h : x_X2_addEntry F_t x1 x2 = some o) (sz : Nat) : MetI l yX2_addEntry (.code yX2_addEntry cX2_addEntry 3 (some .boolean) :: gW) 0 0 [.ref q_t, .int x1, .int x2] o.1 g [oX2 q_t Q_t (F_t 0 0) (F_t 1 0), ia g (Q_t 5) 15 (F_t 5), ia g (Q_t 6) 15 (F_t 6)] [oX2 q_t Q_t (F_t 0 0) o.2.1, ia g (Q_t 5) 15 o.2.2.1, ia g (Q_t 6) 15 o.2.2.2] sz :=
  mkI (av := [.ref q_t, .int x1, .int x2]) (by decide +kernel) rfl (fun p e s m below meth c A E H locs ls hP hD hS hl => t_X2_addEntry E q_t Q_t F_t x1 x2 o h H locs ls hP hD hS hl) sz
def x_X2_firstWrong_b2 (N : Nat) (F_t : St) (F_a1 : St) (x2 : Int32) : Option ((Int32) ⊕ ((Int32) ⊕ (Unit))) :=
  if (F_t 1 0) ≤ x2 then (some (.inr (.inr ()))) else (if x2 < 0 ∨ 15 ≤ x2.toNatClampNeg then none else if ((F_t 5) x2.toNatClampNeg) < 0 ∨ 8 ≤ ((F_t 5) x2.toNatClampNeg).toNatClampNeg then none else if x2 < 0 ∨ 15 ≤ x2.toNatClampNeg then none else if ((F_a1 4) ((F_t 5) x2.toNatClampNeg).toNatClampNeg) = ((F_t 6) x2.toNatClampNeg) then (some (.inl (x2 + (1 : Int32)))) else (some (.inr (.inl x2))))
set_option maxHeartbeats 4000000 in
set_option maxRecDepth 100000 in
theorem t_X2_firstWrong_b2 {p : Program} {l : Launch} {e : Env} {s : State} {m : MethodId} {args : Array Value} {below : List Frame} {meth : Method} {c : Code} {g : gG} {A : Nat → Prop} {Q : State → Prop} (E : En p s m args meth c g A cX2_firstWrong 3 (.code yX2_firstWrong cX2_firstWrong 3 (some .int) :: gW) RX2 (some .int)) (q_t : Nat) (Q_t : Ad) (q_a1 : Nat) (Q_a1 : Ad) (N : Nat) (F_t : St) (F_a1 : St) (x2 : Int32) (o : (Int32) ⊕ ((Int32) ⊕ (Unit))) (h : x_X2_firstWrong_b2 N F_t F_a1 x2 = some o) (hc : ∀ z, o = .inl z → WA p l e (rM 0 0) s m args below meth c g A Q 3 2 [oX2 q_t Q_t (F_t 0 0) (F_t 1 0), ia g (Q_t 5) 15 (F_t 5), ia g (Q_t 6) 15 (F_t 6), oX0 q_a1 Q_a1 (F_a1 0 0) (F_a1 1 0), ia g (Q_a1 4) 8 (F_a1 4)] [(0, .ref q_t), (1, .ref q_a1), (2, .int z)] []) (he0 : ∀ v, o = .inr (.inl v) → WA p l e (rM 0 0) s m args below meth c g A Q 3 30 [oX2 q_t Q_t (F_t 0 0) (F_t 1 0), ia g (Q_t 5) 15 (F_t 5), ia g (Q_t 6) 15 (F_t 6), oX0 q_a1 Q_a1 (F_a1 0 0) (F_a1 1 0), ia g (Q_a1 4) 8 (F_a1 4)] [(2, .int v)] []) (he1 : ∀ v, o = .inr (.inr v) → WA p l e (rM 0 0) s m args below meth c g A Q 3 38 [oX2 q_t Q_t (F_t 0 0) (F_t 1 0), ia g (Q_t 5) 15 (F_t 5), ia g (Q_t 6) 15 (F_t 6), oX0 q_a1 Q_a1 (F_a1 0 0) (F_a1 1 0), ia g (Q_a1 4) 8 (F_a1 4)] [] []) : WA p l e (rM 0 0) s m args below meth c g A Q 3 2 [oX2 q_t Q_t (F_t 0 0) (F_t 1 0), ia g (Q_t 5) 15 (F_t 5), ia g (Q_t 6) 15 (F_t 6), oX0 q_a1 Q_a1 (F_a1 0 0) (F_a1 1 0), ia g (Q_a1 4) 8 (F_a1 4)] [(0, .ref q_t), (1, .ref q_a1), (2, .int x2)] [] := by
  obtain ⟨⟨hx, hb, hml, hown, hts⟩, hr, hK, hA, hlk⟩ := id E
  intro H locs ls hP hD hS hl
  refine lv_iload_n hx hb dX2_firstWrong_2 rfl (lv_at hl 2 rfl) ?_
  refine lv_aload_n hx hb dX2_firstWrong_3 rfl (lv_at hl 0 rfl) ?_
  refine va_get (ci := 2) (v := .int (F_t 1 0)) (C := RX2) (T := TX2) (N := 7) hx hb hts (fun w h => .tail _ (u_inX2 w h)) hown hK.1 hP 0 rfl rfl 1 (by decide) (hts _ (.tail _ u_fl_X2_15)) (fun _ h9 => h9) rfl dX2_firstWrong_4 ?_
  refine lv_icmp_ge (tgt := 38) hx hb dX2_firstWrong_7 (by decide) (fun c_1 => ?_) (fun c_1 => ?_)
  · have h := ox_t c_1 h
    obtain rfl := Option.some.inj h
    exact he1 _ rfl H locs ls hP hD hS (lv_sub hl [] rfl)
  · have h := ox_f c_1 h
    refine lv_aload_n hx hb dX2_firstWrong_10 rfl (lv_at hl 1 rfl) ?_
    refine va_get (ci := 0) (v := .ref (Q_a1 4)) (C := RX0) (T := TX0) (N := 7) hx hb hts (fun w h => .tail _ (u_inX0 w h)) hown hK.1 hP 3 rfl rfl 4 (by decide) (hts _ (.tail _ u_fl_X2_34)) (fun _ h9 => h9) rfl dX2_firstWrong_11 ?_
    refine lv_aload_n hx hb dX2_firstWrong_14 rfl (lv_at hl 0 rfl) ?_
    refine va_get (ci := 2) (v := .ref (Q_t 5)) (C := RX2) (T := TX2) (N := 7) hx hb hts (fun w h => .tail _ (u_inX2 w h)) hown hK.1 hP 0 rfl rfl 5 (by decide) (hts _ (.tail _ u_fl_X2_28)) (fun _ h9 => h9) rfl dX2_firstWrong_15 ?_
    refine lv_iload_n hx hb dX2_firstWrong_18 rfl (lv_at hl 2 rfl) ?_
    obtain ⟨hi_2, h⟩ := ox_chk h
    refine va_iald hx hb hK.1 hP 1 0 rfl rfl hi_2 dX2_firstWrong_19 ?_
    obtain ⟨hi_3, h⟩ := ox_chk h
    refine va_iald hx hb hK.1 hP 4 0 rfl rfl hi_3 dX2_firstWrong_20 ?_
    refine lv_aload_n hx hb dX2_firstWrong_21 rfl (lv_at hl 0 rfl) ?_
    refine va_get (ci := 2) (v := .ref (Q_t 6)) (C := RX2) (T := TX2) (N := 7) hx hb hts (fun w h => .tail _ (u_inX2 w h)) hown hK.1 hP 0 rfl rfl 6 (by decide) (hts _ (.tail _ u_fl_X2_31)) (fun _ h9 => h9) rfl dX2_firstWrong_22 ?_
    refine lv_iload_n hx hb dX2_firstWrong_25 rfl (lv_at hl 2 rfl) ?_
    obtain ⟨hi_4, h⟩ := ox_chk h
    refine va_iald hx hb hK.1 hP 2 0 rfl rfl hi_4 dX2_firstWrong_26 ?_
    refine lv_icmp_eq (tgt := 32) hx hb dX2_firstWrong_27 (by decide) (fun c_5 => ?_) (fun c_5 => ?_)
    · have h := ox_t c_5 h
      refine lv_iinc (v := (x2 + (1 : Int32))) (lv' := [(2, .int (x2 + (1 : Int32))), (0, .ref q_t), (1, .ref q_a1)]) hx hb dX2_firstWrong_32 hl (k := 2) rfl rfl (by decide) rfl (fun ls hl => ?_)
      refine lv_goto (tgt := 2) hx hb dX2_firstWrong_35 (by decide) ?_
      obtain rfl := Option.some.inj h
      exact hc _ rfl H locs ls hP hD hS (lv_sub hl [1, 2, 0] rfl)
    · have h := ox_f c_5 h
      obtain rfl := Option.some.inj h
      exact he0 _ rfl H locs ls hP hD hS (lv_sub hl [2] rfl)
def x_X2_firstWrong (N : Nat) (F_t : St) (F_a1 : St) : Option (Int32) :=
  Option.bind (lpc (fun (z : Int32) => x_X2_firstWrong_b2 N F_t F_a1 z) N (0 : Int32)) (fun v_6 => Sum.elim (fun v_6 => some v_6) (fun v_6 => some (-1 : Int32)) v_6)
set_option maxHeartbeats 4000000 in
set_option maxRecDepth 100000 in
theorem t_X2_firstWrong {p : Program} {l : Launch} {e : Env} {s : State} {m : MethodId} {args : Array Value} {below : List Frame} {meth : Method} {c : Code} {g : gG} {A : Nat → Prop} (E : En p s m args meth c g A cX2_firstWrong 3 (.code yX2_firstWrong cX2_firstWrong 3 (some .int) :: gW) RX2 (some .int)) (q_t : Nat) (Q_t : Ad) (q_a1 : Nat) (Q_a1 : Ad) (N : Nat) (F_t : St) (F_a1 : St) (o : Int32) (h : x_X2_firstWrong N F_t F_a1 = some o) : WA p l e (rM 0 0) s m args below meth c g A (MQ below (QI g A o [oX2 q_t Q_t (F_t 0 0) (F_t 1 0), ia g (Q_t 5) 15 (F_t 5), ia g (Q_t 6) 15 (F_t 6), oX0 q_a1 Q_a1 (F_a1 0 0) (F_a1 1 0), ia g (Q_a1 4) 8 (F_a1 4)]) args s 0 0 A) 3 0 [oX2 q_t Q_t (F_t 0 0) (F_t 1 0), ia g (Q_t 5) 15 (F_t 5), ia g (Q_t 6) 15 (F_t 6), oX0 q_a1 Q_a1 (F_a1 0 0) (F_a1 1 0), ia g (Q_a1 4) 8 (F_a1 4)] [(0, .ref q_t), (1, .ref q_a1)] [] := by
  obtain ⟨⟨hx, hb, hml, hown, hts⟩, hr, hK, hA, hlk⟩ := id E
  intro H locs ls hP hD hS hl
  refine lv_iconst (v := (0 : Int32)) hx hb dX2_firstWrong_0 (by decide) ?_
  refine lv_istore_n (lv' := [(2, .int (0 : Int32)), (0, .ref q_t), (1, .ref q_a1)]) hx hb dX2_firstWrong_1 rfl hl (by decide) rfl (fun ls hl => ?_)
  obtain ⟨v_6, hv_6, h⟩ := ox_bind h
  refine lpc_W (Wh := fun (z : Int32) => WA p l e (rM 0 0) s m args below meth c g A (MQ below (QI g A o [oX2 q_t Q_t (F_t 0 0) (F_t 1 0), ia g (Q_t 5) 15 (F_t 5), ia g (Q_t 6) 15 (F_t 6), oX0 q_a1 Q_a1 (F_a1 0 0) (F_a1 1 0), ia g (Q_a1 4) 8 (F_a1 4)]) args s 0 0 A) 3 2 [oX2 q_t Q_t (F_t 0 0) (F_t 1 0), ia g (Q_t 5) 15 (F_t 5), ia g (Q_t 6) 15 (F_t 6), oX0 q_a1 Q_a1 (F_a1 0 0) (F_a1 1 0), ia g (Q_a1 4) 8 (F_a1 4)] [(0, .ref q_t), (1, .ref q_a1), (2, .int z)] []) (We := Sum.elim (fun (v : Int32) => WA p l e (rM 0 0) s m args below meth c g A (MQ below (QI g A o [oX2 q_t Q_t (F_t 0 0) (F_t 1 0), ia g (Q_t 5) 15 (F_t 5), ia g (Q_t 6) 15 (F_t 6), oX0 q_a1 Q_a1 (F_a1 0 0) (F_a1 1 0), ia g (Q_a1 4) 8 (F_a1 4)]) args s 0 0 A) 3 30 [oX2 q_t Q_t (F_t 0 0) (F_t 1 0), ia g (Q_t 5) 15 (F_t 5), ia g (Q_t 6) 15 (F_t 6), oX0 q_a1 Q_a1 (F_a1 0 0) (F_a1 1 0), ia g (Q_a1 4) 8 (F_a1 4)] [(2, .int v)] []) (fun (v : Unit) => WA p l e (rM 0 0) s m args below meth c g A (MQ below (QI g A o [oX2 q_t Q_t (F_t 0 0) (F_t 1 0), ia g (Q_t 5) 15 (F_t 5), ia g (Q_t 6) 15 (F_t 6), oX0 q_a1 Q_a1 (F_a1 0 0) (F_a1 1 0), ia g (Q_a1 4) 8 (F_a1 4)]) args s 0 0 A) 3 38 [oX2 q_t Q_t (F_t 0 0) (F_t 1 0), ia g (Q_t 5) 15 (F_t 5), ia g (Q_t 6) 15 (F_t 6), oX0 q_a1 Q_a1 (F_a1 0 0) (F_a1 1 0), ia g (Q_a1 4) 8 (F_a1 4)] [] [])) (fun z r hb hc he => t_X2_firstWrong_b2 E q_t Q_t q_a1 Q_a1 N F_t F_a1 z r hb hc (fun v hv => he (.inl v) hv) (fun v hv => he (.inr v) hv)) N (0 : Int32) v_6 hv_6 ?_ H locs ls hP hD hS (lv_sub hl [1, 2, 0] rfl)
  rcases v_6 with v_6 | v_6
  · have h := ox_inl h
    intro H locs ls hP hD hS hl
    refine lv_iload_n hx hb dX2_firstWrong_30 rfl (lv_at hl 0 rfl) ?_
    obtain rfl := Option.some.inj h
    exact k_iret hx hb hr hlk hP hD hS dX2_firstWrong_31
  · have h := ox_inr h
    intro H locs ls hP hD hS hl
    refine lv_iconst (v := (-1 : Int32)) hx hb dX2_firstWrong_38 (by decide) ?_
    obtain rfl := Option.some.inj h
    exact k_iret hx hb hr hlk hP hD hS dX2_firstWrong_39
set_option maxRecDepth 100000 in
theorem c_X2_firstWrong (l : Launch) (g : gG) (q_t : Nat) (Q_t : Ad) (q_a1 : Nat) (Q_a1 : Ad) (N : Nat) (F_t : St) (F_a1 : St) (o : Int32) (h : x_X2_firstWrong N F_t F_a1 = some o) (sz : Nat) : MetI l yX2_firstWrong (.code yX2_firstWrong cX2_firstWrong 3 (some .int) :: gW) 0 0 [.ref q_t, .ref q_a1] o g [oX2 q_t Q_t (F_t 0 0) (F_t 1 0), ia g (Q_t 5) 15 (F_t 5), ia g (Q_t 6) 15 (F_t 6), oX0 q_a1 Q_a1 (F_a1 0 0) (F_a1 1 0), ia g (Q_a1 4) 8 (F_a1 4)] [oX2 q_t Q_t (F_t 0 0) (F_t 1 0), ia g (Q_t 5) 15 (F_t 5), ia g (Q_t 6) 15 (F_t 6), oX0 q_a1 Q_a1 (F_a1 0 0) (F_a1 1 0), ia g (Q_a1 4) 8 (F_a1 4)] sz :=
  mkI (av := [.ref q_t, .ref q_a1]) (by decide +kernel) rfl (fun p e s m below meth c A E H locs ls hP hD hS hl => t_X2_firstWrong E q_t Q_t q_a1 Q_a1 N F_t F_a1 o h H locs ls hP hD hS hl) sz
def x_X6_follow_b32 (N : Nat) (F_t : St) (F_a1 : St) (x2 : Int32) (x3 : Int32) : Option ((Int32 × (Nat → Int32) × (Nat → Int32)) ⊕ ((Nat → Int32) × (Nat → Int32))) :=
  if (F_a1 2 0) ≤ x3 then (some (.inr ((F_t 0), (F_t 1)))) else (if x3 < 0 ∨ 10 ≤ x3.toNatClampNeg then none else xl ((F_a1 8) x3.toNatClampNeg) (fun y_5 => if y_5 < 0 ∨ 10 ≤ y_5.toNatClampNeg then none else xl ((F_a1 5) y_5.toNatClampNeg) (fun y_7 => if y_5 < 0 ∨ 10 ≤ y_5.toNatClampNeg then none else xl ((F_a1 6) y_5.toNatClampNeg) (fun y_9 => if y_7 < 0 ∨ 8 ≤ y_7.toNatClampNeg then none else if ((F_t 1) y_7.toNatClampNeg) ≤ 0 then (some (.inl ((x3 + (1 : Int32)), (F_t 0), (F_t 1)))) else (Option.bind (x_X9_has x2 y_5) (fun v_12 => if v_12 = 0 then (if y_9 < 0 ∨ 8 ≤ y_9.toNatClampNeg then none else if y_7 < 0 ∨ 8 ≤ y_7.toNatClampNeg then none else if y_5 < 0 ∨ 10 ≤ y_5.toNatClampNeg then none else if y_9 < 0 ∨ 8 ≤ y_9.toNatClampNeg then none else xl (if ((F_t 0) y_9.toNatClampNeg) < (((F_t 0) y_7.toNatClampNeg) + ((F_a1 7) y_5.toNatClampNeg)) then (((F_t 0) y_7.toNatClampNeg) + ((F_a1 7) y_5.toNatClampNeg)) else ((F_t 0) y_9.toNatClampNeg)) (fun y_18 => if y_9 < 0 ∨ 8 ≤ y_9.toNatClampNeg then none else if y_7 < 0 ∨ 8 ≤ y_7.toNatClampNeg then none else if y_9 < 0 ∨ 8 ≤ y_9.toNatClampNeg then none else xl (((F_t 1) y_9.toNatClampNeg) + ((F_t 1) y_7.toNatClampNeg)) (fun y_22 => some (.inl ((x3 + (1 : Int32)), (upd (F_t 0) y_9.toNatClampNeg y_18), (upd (F_t 1) y_9.toNatClampNeg y_22)))))) else (some (.inl ((x3 + (1 : Int32)), (F_t 0), (F_t 1))))))))))
set_option maxHeartbeats 4000000 in
set_option maxRecDepth 100000 in
theorem t_X6_follow_b32 {p : Program} {l : Launch} {e : Env} {s : State} {m : MethodId} {args : Array Value} {below : List Frame} {meth : Method} {c : Code} {g : gG} {A : Nat → Prop} {Q : State → Prop} (E : En p s m args meth c g A cX6_follow 7 (.code yX6_follow cX6_follow 7 none :: gW) RX6 none) (q_t : Nat) (Q_t : Ad) (q_a1 : Nat) (Q_a1 : Ad) (N : Nat) (F_t : St) (F_a1 : St) (x2 : Int32) (x3 : Int32) (o : (Int32 × (Nat → Int32) × (Nat → Int32)) ⊕ ((Nat → Int32) × (Nat → Int32))) (h : x_X6_follow_b32 N F_t F_a1 x2 x3 = some o) (hc : ∀ z, o = .inl z → WA p l e (rM 1 23) s m args below meth c g A Q 7 32 [oX6 q_t Q_t, ia g (Q_t 0) 8 z.2.1, ia g (Q_t 1) 8 z.2.2, oX4 q_a1 Q_a1 (F_a1 0 0) (F_a1 1 0) (F_a1 2 0), ia g (Q_a1 5) 10 (F_a1 5), ia g (Q_a1 6) 10 (F_a1 6), ia g (Q_a1 7) 10 (F_a1 7), ia g (Q_a1 8) 10 (F_a1 8)] [(0, .ref q_t), (1, .ref q_a1), (2, .int x2), (3, .int z.1)] []) (he : ∀ v, o = .inr v → WA p l e (rM 1 23) s m args below meth c g A Q 7 140 [oX6 q_t Q_t, ia g (Q_t 0) 8 v.1, ia g (Q_t 1) 8 v.2, oX4 q_a1 Q_a1 (F_a1 0 0) (F_a1 1 0) (F_a1 2 0), ia g (Q_a1 5) 10 (F_a1 5), ia g (Q_a1 6) 10 (F_a1 6), ia g (Q_a1 7) 10 (F_a1 7), ia g (Q_a1 8) 10 (F_a1 8)] [] []) : WA p l e (rM 1 23) s m args below meth c g A Q 7 32 [oX6 q_t Q_t, ia g (Q_t 0) 8 (F_t 0), ia g (Q_t 1) 8 (F_t 1), oX4 q_a1 Q_a1 (F_a1 0 0) (F_a1 1 0) (F_a1 2 0), ia g (Q_a1 5) 10 (F_a1 5), ia g (Q_a1 6) 10 (F_a1 6), ia g (Q_a1 7) 10 (F_a1 7), ia g (Q_a1 8) 10 (F_a1 8)] [(0, .ref q_t), (1, .ref q_a1), (2, .int x2), (3, .int x3)] [] := by
  obtain ⟨⟨hx, hb, hml, hown, hts⟩, hr, hK, hA, hlk⟩ := id E
  intro H locs ls hP hD hS hl
  refine lv_iload_n hx hb dX6_follow_32 rfl (lv_at hl 3 rfl) ?_
  refine lv_aload_n hx hb dX6_follow_33 rfl (lv_at hl 1 rfl) ?_
  refine va_get (ci := 4) (v := .int (F_a1 2 0)) (C := RX4) (T := TX4) (N := 9) hx hb hts (fun w h => .tail _ (u_inX4 w h)) hown hK.1 hP 3 rfl rfl 2 (by decide) (hts _ (.tail _ u_fl_X6_24)) (fun _ h9 => h9) rfl dX6_follow_34 ?_
  refine lv_icmp_ge (tgt := 140) hx hb dX6_follow_37 (by decide) (fun c_3 => ?_) (fun c_3 => ?_)
  · have h := ox_t c_3 h
    obtain rfl := Option.some.inj h
    exact he _ rfl H locs ls hP hD hS (lv_sub hl [] rfl)
  · have h := ox_f c_3 h
    refine lv_aload_n hx hb dX6_follow_40 rfl (lv_at hl 1 rfl) ?_
    refine va_get (ci := 4) (v := .ref (Q_a1 8)) (C := RX4) (T := TX4) (N := 9) hx hb hts (fun w h => .tail _ (u_inX4 w h)) hown hK.1 hP 3 rfl rfl 8 (by decide) (hts _ (.tail _ u_fl_X6_30)) (fun _ h9 => h9) rfl dX6_follow_41 ?_
    refine lv_iload_n hx hb dX6_follow_44 rfl (lv_at hl 3 rfl) ?_
    obtain ⟨hi_4, h⟩ := ox_chk h
    refine va_iald hx hb hK.1 hP 7 0 rfl rfl hi_4 dX6_follow_45 ?_
    refine lv_topi (fun y_5 ey_5 => ?_)
    have h := xl_at ey_5 h
    refine lv_istore (lv' := [(4, .int y_5), (0, .ref q_t), (1, .ref q_a1), (2, .int x2), (3, .int x3)]) hx hb dX6_follow_46 hl (by decide) rfl (fun ls hl => ?_)
    refine lv_aload_n hx hb dX6_follow_48 rfl (lv_at hl 2 rfl) ?_
    refine va_get (ci := 4) (v := .ref (Q_a1 5)) (C := RX4) (T := TX4) (N := 9) hx hb hts (fun w h => .tail _ (u_inX4 w h)) hown hK.1 hP 3 rfl rfl 5 (by decide) (hts _ (.tail _ u_fl_X6_33)) (fun _ h9 => h9) rfl dX6_follow_49 ?_
    refine lv_iload hx hb dX6_follow_52 (lv_at hl 0 rfl) ?_
    obtain ⟨hi_6, h⟩ := ox_chk h
    refine va_iald hx hb hK.1 hP 4 0 rfl rfl hi_6 dX6_follow_54 ?_
    refine lv_topi (fun y_7 ey_7 => ?_)
    have h := xl_at ey_7 h
    refine lv_istore (lv' := [(5, .int y_7), (4, .int y_5), (0, .ref q_t), (1, .ref q_a1), (2, .int x2), (3, .int x3)]) hx hb dX6_follow_55 hl (by decide) rfl (fun ls hl => ?_)
    refine lv_aload_n hx hb dX6_follow_57 rfl (lv_at hl 3 rfl) ?_
    refine va_get (ci := 4) (v := .ref (Q_a1 6)) (C := RX4) (T := TX4) (N := 9) hx hb hts (fun w h => .tail _ (u_inX4 w h)) hown hK.1 hP 3 rfl rfl 6 (by decide) (hts _ (.tail _ u_fl_X6_36)) (fun _ h9 => h9) rfl dX6_follow_58 ?_
    refine lv_iload hx hb dX6_follow_61 (lv_at hl 1 rfl) ?_
    obtain ⟨hi_8, h⟩ := ox_chk h
    refine va_iald hx hb hK.1 hP 5 0 rfl rfl hi_8 dX6_follow_63 ?_
    refine lv_topi (fun y_9 ey_9 => ?_)
    have h := xl_at ey_9 h
    refine lv_istore (lv' := [(6, .int y_9), (5, .int y_7), (4, .int y_5), (0, .ref q_t), (1, .ref q_a1), (2, .int x2), (3, .int x3)]) hx hb dX6_follow_64 hl (by decide) rfl (fun ls hl => ?_)
    refine lv_aload_n hx hb dX6_follow_66 rfl (lv_at hl 3 rfl) ?_
    refine va_get (ci := 6) (v := .ref (Q_t 1)) (C := RX6) (T := TX6) (N := 2) hx hb hts (fun w h => .tail _ (u_inX6 w h)) hown hK.1 hP 0 rfl rfl 1 (by decide) (hts _ (.tail _ u_fl_X6_15)) (fun _ h9 => h9) rfl dX6_follow_67 ?_
    refine lv_iload hx hb dX6_follow_70 (lv_at hl 1 rfl) ?_
    obtain ⟨hi_10, h⟩ := ox_chk h
    refine va_iald hx hb hK.1 hP 2 0 rfl rfl hi_10 dX6_follow_72 ?_
    refine lv_if_le (tgt := 134) hx hb dX6_follow_73 (by decide) (fun c_11 => ?_) (fun c_11 => ?_)
    · have h := ox_t c_11 h
      refine lv_iinc (v := (x3 + (1 : Int32))) (lv' := [(3, .int (x3 + (1 : Int32))), (6, .int y_9), (5, .int y_7), (4, .int y_5), (0, .ref q_t), (1, .ref q_a1), (2, .int x2)]) hx hb dX6_follow_134 hl (k := 6) rfl rfl (by decide) rfl (fun ls hl => ?_)
      refine lv_goto (tgt := 32) hx hb dX6_follow_137 (by decide) ?_
      obtain rfl := Option.some.inj h
      exact hc _ rfl H locs ls hP hD hS (lv_sub hl [4, 5, 6, 0] rfl)
    · have h := ox_f c_11 h
      refine lv_iload_n hx hb dX6_follow_76 rfl (lv_at hl 5 rfl) ?_
      refine lv_iload hx hb dX6_follow_77 (lv_at hl 2 rfl) ?_
      obtain ⟨v_12, hv_12, h⟩ := ox_bind h
      refine kNi ⟨hx, hb, hml, hown, hts⟩ (c_X9_has l g x2 y_5 v_12 hv_12 H.size) u_co_X9_has u_st_X9_has u_ini_X9 n_X6_39 hd_X9_has ⟨rfl, rfl⟩ hK hP hD hS hA [] [0, 1, 2, 3, 4, 5, 6, 7] rfl rfl 0 rfl (w2 := [oX6 q_t Q_t, ia g (Q_t 0) 8 (F_t 0), ia g (Q_t 1) 8 (F_t 1), oX4 q_a1 Q_a1 (F_a1 0 0) (F_a1 1 0) (F_a1 2 0), ia g (Q_a1 5) 10 (F_a1 5), ia g (Q_a1 6) 10 (F_a1 6), ia g (Q_a1 7) 10 (F_a1 7), ia g (Q_a1 8) 10 (F_a1 8)]) rfl rfl (As := [.int x2, .int y_5]) (rest := []) rfl hl.1 rfl rfl dX6_follow_79 (fun H locs hP hD hS => ?_)
      refine lv_if_ne (tgt := 134) hx hb dX6_follow_82 (by decide) (fun c_13 => ?_) (fun c_13 => ?_)
      · have h := ox_f c_13 h
        refine lv_iinc (v := (x3 + (1 : Int32))) (lv' := [(3, .int (x3 + (1 : Int32))), (6, .int y_9), (5, .int y_7), (4, .int y_5), (0, .ref q_t), (1, .ref q_a1), (2, .int x2)]) hx hb dX6_follow_134 hl (k := 6) rfl rfl (by decide) rfl (fun ls hl => ?_)
        refine lv_goto (tgt := 32) hx hb dX6_follow_137 (by decide) ?_
        obtain rfl := Option.some.inj h
        exact hc _ rfl H locs ls hP hD hS (lv_sub hl [4, 5, 6, 0] rfl)
      · have h := ox_t c_13 h
        refine lv_aload_n hx hb dX6_follow_85 rfl (lv_at hl 3 rfl) ?_
        refine va_get (ci := 6) (v := .ref (Q_t 0)) (C := RX6) (T := TX6) (N := 2) hx hb hts (fun w h => .tail _ (u_inX6 w h)) hown hK.1 hP 0 rfl rfl 0 (by decide) (hts _ (.tail _ u_fl_X6_9)) (fun _ h9 => h9) rfl dX6_follow_86 ?_
        refine lv_iload hx hb dX6_follow_89 (lv_at hl 0 rfl) ?_
        refine lv_aload_n hx hb dX6_follow_91 rfl (lv_at hl 3 rfl) ?_
        refine va_get (ci := 6) (v := .ref (Q_t 0)) (C := RX6) (T := TX6) (N := 2) hx hb hts (fun w h => .tail _ (u_inX6 w h)) hown hK.1 hP 0 rfl rfl 0 (by decide) (hts _ (.tail _ u_fl_X6_9)) (fun _ h9 => h9) rfl dX6_follow_92 ?_
        refine lv_iload hx hb dX6_follow_95 (lv_at hl 0 rfl) ?_
        obtain ⟨hi_14, h⟩ := ox_chk h
        refine va_iald hx hb hK.1 hP 1 0 rfl rfl hi_14 dX6_follow_97 ?_
        refine lv_aload_n hx hb dX6_follow_98 rfl (lv_at hl 3 rfl) ?_
        refine va_get (ci := 6) (v := .ref (Q_t 0)) (C := RX6) (T := TX6) (N := 2) hx hb hts (fun w h => .tail _ (u_inX6 w h)) hown hK.1 hP 0 rfl rfl 0 (by decide) (hts _ (.tail _ u_fl_X6_9)) (fun _ h9 => h9) rfl dX6_follow_99 ?_
        refine lv_iload hx hb dX6_follow_102 (lv_at hl 1 rfl) ?_
        obtain ⟨hi_15, h⟩ := ox_chk h
        refine va_iald hx hb hK.1 hP 1 0 rfl rfl hi_15 dX6_follow_104 ?_
        refine lv_aload_n hx hb dX6_follow_105 rfl (lv_at hl 4 rfl) ?_
        refine va_get (ci := 4) (v := .ref (Q_a1 7)) (C := RX4) (T := TX4) (N := 9) hx hb hts (fun w h => .tail _ (u_inX4 w h)) hown hK.1 hP 3 rfl rfl 7 (by decide) (hts _ (.tail _ u_fl_X6_43)) (fun _ h9 => h9) rfl dX6_follow_106 ?_
        refine lv_iload hx hb dX6_follow_109 (lv_at hl 2 rfl) ?_
        obtain ⟨hi_16, h⟩ := ox_chk h
        refine va_iald hx hb hK.1 hP 6 0 rfl rfl hi_16 dX6_follow_111 ?_
        refine lv_iadd hx hb dX6_follow_112 ?_
        refine va_mmax hx hb (hml.trans hl.1.symm) hown (hts _ (.tail _ u_ml_X6_46)) (hts _ (.tail _ u_st_J9_max_7cf53)) (hts _ (.tail _ u_ini_J9)) (hts _ (.tail _ u_co_J9_max_7cf53)) (Nat.le_of_ble_eq_true rfl) (Nat.le_of_ble_eq_true rfl) (Nat.le_refl _) (Nat.le_refl _) dX6_follow_113 ?_
        obtain ⟨hi_17, h⟩ := ox_chk h
        refine lv_topi (fun y_18 ey_18 => ?_)
        have h := xl_at ey_18 h
        refine va_iast hx hb hK.1 hP hD hS 1 0 rfl rfl hi_17 dX6_follow_116 (fun H locs hP hD hS => ?_)
        have hP : va_P g.1 vwCl [oX6 q_t Q_t, ia g (Q_t 0) 8 (upd (F_t 0) y_9.toNatClampNeg y_18), ia g (Q_t 1) 8 (F_t 1), oX4 q_a1 Q_a1 (F_a1 0 0) (F_a1 1 0) (F_a1 2 0), ia g (Q_a1 5) 10 (F_a1 5), ia g (Q_a1 6) 10 (F_a1 6), ia g (Q_a1 7) 10 (F_a1 7), ia g (Q_a1 8) 10 (F_a1 8)] H := hP
        have hD : va_D A [oX6 q_t Q_t, ia g (Q_t 0) 8 (upd (F_t 0) y_9.toNatClampNeg y_18), ia g (Q_t 1) 8 (F_t 1), oX4 q_a1 Q_a1 (F_a1 0 0) (F_a1 1 0) (F_a1 2 0), ia g (Q_a1 5) 10 (F_a1 5), ia g (Q_a1 6) 10 (F_a1 6), ia g (Q_a1 7) 10 (F_a1 7), ia g (Q_a1 8) 10 (F_a1 8)] := hD
        refine lv_aload_n hx hb dX6_follow_117 rfl (lv_at hl 3 rfl) ?_
        refine va_get (ci := 6) (v := .ref (Q_t 1)) (C := RX6) (T := TX6) (N := 2) hx hb hts (fun w h => .tail _ (u_inX6 w h)) hown hK.1 hP 0 rfl rfl 1 (by decide) (hts _ (.tail _ u_fl_X6_15)) (fun _ h9 => h9) rfl dX6_follow_118 ?_
        refine lv_iload hx hb dX6_follow_121 (lv_at hl 0 rfl) ?_
        refine lv_dup2_11 hx hb dX6_follow_123 rfl rfl ?_
        obtain ⟨hi_19, h⟩ := ox_chk h
        refine va_iald hx hb hK.1 hP 2 0 rfl rfl hi_19 dX6_follow_124 ?_
        refine lv_aload_n hx hb dX6_follow_125 rfl (lv_at hl 3 rfl) ?_
        refine va_get (ci := 6) (v := .ref (Q_t 1)) (C := RX6) (T := TX6) (N := 2) hx hb hts (fun w h => .tail _ (u_inX6 w h)) hown hK.1 hP 0 rfl rfl 1 (by decide) (hts _ (.tail _ u_fl_X6_15)) (fun _ h9 => h9) rfl dX6_follow_126 ?_
        refine lv_iload hx hb dX6_follow_129 (lv_at hl 1 rfl) ?_
        obtain ⟨hi_20, h⟩ := ox_chk h
        refine va_iald hx hb hK.1 hP 2 0 rfl rfl hi_20 dX6_follow_131 ?_
        refine lv_iadd hx hb dX6_follow_132 ?_
        obtain ⟨hi_21, h⟩ := ox_chk h
        refine lv_topi (fun y_22 ey_22 => ?_)
        have h := xl_at ey_22 h
        refine va_iast hx hb hK.1 hP hD hS 2 0 rfl rfl hi_21 dX6_follow_133 (fun H locs hP hD hS => ?_)
        have hP : va_P g.1 vwCl [oX6 q_t Q_t, ia g (Q_t 0) 8 (upd (F_t 0) y_9.toNatClampNeg y_18), ia g (Q_t 1) 8 (upd (F_t 1) y_9.toNatClampNeg y_22), oX4 q_a1 Q_a1 (F_a1 0 0) (F_a1 1 0) (F_a1 2 0), ia g (Q_a1 5) 10 (F_a1 5), ia g (Q_a1 6) 10 (F_a1 6), ia g (Q_a1 7) 10 (F_a1 7), ia g (Q_a1 8) 10 (F_a1 8)] H := hP
        have hD : va_D A [oX6 q_t Q_t, ia g (Q_t 0) 8 (upd (F_t 0) y_9.toNatClampNeg y_18), ia g (Q_t 1) 8 (upd (F_t 1) y_9.toNatClampNeg y_22), oX4 q_a1 Q_a1 (F_a1 0 0) (F_a1 1 0) (F_a1 2 0), ia g (Q_a1 5) 10 (F_a1 5), ia g (Q_a1 6) 10 (F_a1 6), ia g (Q_a1 7) 10 (F_a1 7), ia g (Q_a1 8) 10 (F_a1 8)] := hD
        refine lv_iinc (v := (x3 + (1 : Int32))) (lv' := [(3, .int (x3 + (1 : Int32))), (6, .int y_9), (5, .int y_7), (4, .int y_5), (0, .ref q_t), (1, .ref q_a1), (2, .int x2)]) hx hb dX6_follow_134 hl (k := 6) rfl rfl (by decide) rfl (fun ls hl => ?_)
        refine lv_goto (tgt := 32) hx hb dX6_follow_137 (by decide) ?_
        obtain rfl := Option.some.inj h
        exact hc _ rfl H locs ls hP hD hS (lv_sub hl [4, 5, 6, 0] rfl)
def x_X6_follow (N : Nat) (F_t : St) (F_a1 : St) (x2 : Int32) : Option ((Nat → Int32) × (Nat → Int32)) :=
  Option.bind (x_J7_fill_53178 N 8 (F_t 0) (-1 : Int32)) (fun v_1 => Option.bind (x_J7_fill_53178 N 8 (F_t 1) (0 : Int32)) (fun v_2 => Option.bind (lpc (fun (z : Int32 × (Nat → Int32) × (Nat → Int32)) => x_X6_follow_b32 N (va_up (va_up F_t 0 z.2.1) 1 z.2.2) F_a1 x2 z.1) N ((0 : Int32), (upd v_1 (0 : Int32).toNatClampNeg (0 : Int32)), (upd v_2 (0 : Int32).toNatClampNeg (1 : Int32)))) (fun v_23 => some (v_23.1, v_23.2))))
set_option maxHeartbeats 4000000 in
set_option maxRecDepth 100000 in
theorem t_X6_follow {p : Program} {l : Launch} {e : Env} {s : State} {m : MethodId} {args : Array Value} {below : List Frame} {meth : Method} {c : Code} {g : gG} {A : Nat → Prop} (E : En p s m args meth c g A cX6_follow 7 (.code yX6_follow cX6_follow 7 none :: gW) RX6 none) (q_t : Nat) (Q_t : Ad) (q_a1 : Nat) (Q_a1 : Ad) (N : Nat) (F_t : St) (F_a1 : St) (x2 : Int32) (o : (Nat → Int32) × (Nat → Int32)) (h : x_X6_follow N F_t F_a1 x2 = some o) : WA p l e (rM 1 23) s m args below meth c g A (MQ below (QV g A [oX6 q_t Q_t, ia g (Q_t 0) 8 o.1, ia g (Q_t 1) 8 o.2, oX4 q_a1 Q_a1 (F_a1 0 0) (F_a1 1 0) (F_a1 2 0), ia g (Q_a1 5) 10 (F_a1 5), ia g (Q_a1 6) 10 (F_a1 6), ia g (Q_a1 7) 10 (F_a1 7), ia g (Q_a1 8) 10 (F_a1 8)]) args s 0 0 A) 7 0 [oX6 q_t Q_t, ia g (Q_t 0) 8 (F_t 0), ia g (Q_t 1) 8 (F_t 1), oX4 q_a1 Q_a1 (F_a1 0 0) (F_a1 1 0) (F_a1 2 0), ia g (Q_a1 5) 10 (F_a1 5), ia g (Q_a1 6) 10 (F_a1 6), ia g (Q_a1 7) 10 (F_a1 7), ia g (Q_a1 8) 10 (F_a1 8)] [(0, .ref q_t), (1, .ref q_a1), (2, .int x2)] [] := by
  obtain ⟨⟨hx, hb, hml, hown, hts⟩, hr, hK, hA, hlk⟩ := id E
  intro H locs ls hP hD hS hl
  refine lv_aload_n hx hb dX6_follow_0 rfl (lv_at hl 0 rfl) ?_
  refine va_get (ci := 6) (v := .ref (Q_t 0)) (C := RX6) (T := TX6) (N := 2) hx hb hts (fun w h => .tail _ (u_inX6 w h)) hown hK.1 hP 0 rfl rfl 0 (by decide) (hts _ (.tail _ u_fl_X6_9)) (fun _ h9 => h9) rfl dX6_follow_1 ?_
  refine lv_iconst (v := (-1 : Int32)) hx hb dX6_follow_4 (by decide) ?_
  obtain ⟨v_1, hv_1, h⟩ := ox_bind h
  refine kSv ⟨hx, hb, hml, hown, hts⟩ (c_J7_fill_53178 l g (Q_t 0) N 8 (F_t 0) (-1 : Int32) v_1 hv_1 H.size) (gS u_ml_X6_18 u_st_J7_fill_53178 u_ini_J7 u_co_J7_fill_53178) hd_J7_fill_53178 ⟨rfl, rfl⟩ hK hP hD hS hA [1] [1, 0, 3, 4, 5, 6, 7, 8] rfl rfl 1 rfl (w2 := [oX6 q_t Q_t, ia g (Q_t 0) 8 v_1, ia g (Q_t 1) 8 (F_t 1), oX4 q_a1 Q_a1 (F_a1 0 0) (F_a1 1 0) (F_a1 2 0), ia g (Q_a1 5) 10 (F_a1 5), ia g (Q_a1 6) 10 (F_a1 6), ia g (Q_a1 7) 10 (F_a1 7), ia g (Q_a1 8) 10 (F_a1 8)]) rfl rfl (As := [.ref (Q_t 0), .int (-1 : Int32)]) (rest := []) rfl hl.1 rfl rfl dX6_follow_5 (fun H locs hP hD hS => ?_)
  refine lv_aload_n hx hb dX6_follow_8 rfl (lv_at hl 0 rfl) ?_
  refine va_get (ci := 6) (v := .ref (Q_t 1)) (C := RX6) (T := TX6) (N := 2) hx hb hts (fun w h => .tail _ (u_inX6 w h)) hown hK.1 hP 0 rfl rfl 1 (by decide) (hts _ (.tail _ u_fl_X6_15)) (fun _ h9 => h9) rfl dX6_follow_9 ?_
  refine lv_iconst (v := (0 : Int32)) hx hb dX6_follow_12 (by decide) ?_
  obtain ⟨v_2, hv_2, h⟩ := ox_bind h
  refine kSv ⟨hx, hb, hml, hown, hts⟩ (c_J7_fill_53178 l g (Q_t 1) N 8 (F_t 1) (0 : Int32) v_2 hv_2 H.size) (gS u_ml_X6_18 u_st_J7_fill_53178 u_ini_J7 u_co_J7_fill_53178) hd_J7_fill_53178 ⟨rfl, rfl⟩ hK hP hD hS hA [2] [1, 2, 0, 4, 5, 6, 7, 8] rfl rfl 1 rfl (w2 := [oX6 q_t Q_t, ia g (Q_t 0) 8 v_1, ia g (Q_t 1) 8 v_2, oX4 q_a1 Q_a1 (F_a1 0 0) (F_a1 1 0) (F_a1 2 0), ia g (Q_a1 5) 10 (F_a1 5), ia g (Q_a1 6) 10 (F_a1 6), ia g (Q_a1 7) 10 (F_a1 7), ia g (Q_a1 8) 10 (F_a1 8)]) rfl rfl (As := [.ref (Q_t 1), .int (0 : Int32)]) (rest := []) rfl hl.1 rfl rfl dX6_follow_13 (fun H locs hP hD hS => ?_)
  refine lv_aload_n hx hb dX6_follow_16 rfl (lv_at hl 0 rfl) ?_
  refine va_get (ci := 6) (v := .ref (Q_t 0)) (C := RX6) (T := TX6) (N := 2) hx hb hts (fun w h => .tail _ (u_inX6 w h)) hown hK.1 hP 0 rfl rfl 0 (by decide) (hts _ (.tail _ u_fl_X6_9)) (fun _ h9 => h9) rfl dX6_follow_17 ?_
  refine lv_iconst (v := (0 : Int32)) hx hb dX6_follow_20 (by decide) ?_
  refine lv_iconst (v := (0 : Int32)) hx hb dX6_follow_21 (by decide) ?_
  refine va_iast hx hb hK.1 hP hD hS 1 0 rfl rfl (by unfold vp_in; decide) dX6_follow_22 (fun H locs hP hD hS => ?_)
  have hP : va_P g.1 vwCl [oX6 q_t Q_t, ia g (Q_t 0) 8 (upd v_1 (0 : Int32).toNatClampNeg (0 : Int32)), ia g (Q_t 1) 8 v_2, oX4 q_a1 Q_a1 (F_a1 0 0) (F_a1 1 0) (F_a1 2 0), ia g (Q_a1 5) 10 (F_a1 5), ia g (Q_a1 6) 10 (F_a1 6), ia g (Q_a1 7) 10 (F_a1 7), ia g (Q_a1 8) 10 (F_a1 8)] H := hP
  have hD : va_D A [oX6 q_t Q_t, ia g (Q_t 0) 8 (upd v_1 (0 : Int32).toNatClampNeg (0 : Int32)), ia g (Q_t 1) 8 v_2, oX4 q_a1 Q_a1 (F_a1 0 0) (F_a1 1 0) (F_a1 2 0), ia g (Q_a1 5) 10 (F_a1 5), ia g (Q_a1 6) 10 (F_a1 6), ia g (Q_a1 7) 10 (F_a1 7), ia g (Q_a1 8) 10 (F_a1 8)] := hD
  refine lv_aload_n hx hb dX6_follow_23 rfl (lv_at hl 0 rfl) ?_
  refine va_get (ci := 6) (v := .ref (Q_t 1)) (C := RX6) (T := TX6) (N := 2) hx hb hts (fun w h => .tail _ (u_inX6 w h)) hown hK.1 hP 0 rfl rfl 1 (by decide) (hts _ (.tail _ u_fl_X6_15)) (fun _ h9 => h9) rfl dX6_follow_24 ?_
  refine lv_iconst (v := (0 : Int32)) hx hb dX6_follow_27 (by decide) ?_
  refine lv_iconst (v := (1 : Int32)) hx hb dX6_follow_28 (by decide) ?_
  refine va_iast hx hb hK.1 hP hD hS 2 0 rfl rfl (by unfold vp_in; decide) dX6_follow_29 (fun H locs hP hD hS => ?_)
  have hP : va_P g.1 vwCl [oX6 q_t Q_t, ia g (Q_t 0) 8 (upd v_1 (0 : Int32).toNatClampNeg (0 : Int32)), ia g (Q_t 1) 8 (upd v_2 (0 : Int32).toNatClampNeg (1 : Int32)), oX4 q_a1 Q_a1 (F_a1 0 0) (F_a1 1 0) (F_a1 2 0), ia g (Q_a1 5) 10 (F_a1 5), ia g (Q_a1 6) 10 (F_a1 6), ia g (Q_a1 7) 10 (F_a1 7), ia g (Q_a1 8) 10 (F_a1 8)] H := hP
  have hD : va_D A [oX6 q_t Q_t, ia g (Q_t 0) 8 (upd v_1 (0 : Int32).toNatClampNeg (0 : Int32)), ia g (Q_t 1) 8 (upd v_2 (0 : Int32).toNatClampNeg (1 : Int32)), oX4 q_a1 Q_a1 (F_a1 0 0) (F_a1 1 0) (F_a1 2 0), ia g (Q_a1 5) 10 (F_a1 5), ia g (Q_a1 6) 10 (F_a1 6), ia g (Q_a1 7) 10 (F_a1 7), ia g (Q_a1 8) 10 (F_a1 8)] := hD
  refine lv_iconst (v := (0 : Int32)) hx hb dX6_follow_30 (by decide) ?_
  refine lv_istore_n (lv' := [(3, .int (0 : Int32)), (0, .ref q_t), (1, .ref q_a1), (2, .int x2)]) hx hb dX6_follow_31 rfl hl (by decide) rfl (fun ls hl => ?_)
  obtain ⟨v_23, hv_23, h⟩ := ox_bind h
  refine lpc_W (Wh := fun (z : Int32 × (Nat → Int32) × (Nat → Int32)) => WA p l e (rM 1 23) s m args below meth c g A (MQ below (QV g A [oX6 q_t Q_t, ia g (Q_t 0) 8 o.1, ia g (Q_t 1) 8 o.2, oX4 q_a1 Q_a1 (F_a1 0 0) (F_a1 1 0) (F_a1 2 0), ia g (Q_a1 5) 10 (F_a1 5), ia g (Q_a1 6) 10 (F_a1 6), ia g (Q_a1 7) 10 (F_a1 7), ia g (Q_a1 8) 10 (F_a1 8)]) args s 0 0 A) 7 32 [oX6 q_t Q_t, ia g (Q_t 0) 8 z.2.1, ia g (Q_t 1) 8 z.2.2, oX4 q_a1 Q_a1 (F_a1 0 0) (F_a1 1 0) (F_a1 2 0), ia g (Q_a1 5) 10 (F_a1 5), ia g (Q_a1 6) 10 (F_a1 6), ia g (Q_a1 7) 10 (F_a1 7), ia g (Q_a1 8) 10 (F_a1 8)] [(0, .ref q_t), (1, .ref q_a1), (2, .int x2), (3, .int z.1)] []) (We := fun (v : (Nat → Int32) × (Nat → Int32)) => WA p l e (rM 1 23) s m args below meth c g A (MQ below (QV g A [oX6 q_t Q_t, ia g (Q_t 0) 8 o.1, ia g (Q_t 1) 8 o.2, oX4 q_a1 Q_a1 (F_a1 0 0) (F_a1 1 0) (F_a1 2 0), ia g (Q_a1 5) 10 (F_a1 5), ia g (Q_a1 6) 10 (F_a1 6), ia g (Q_a1 7) 10 (F_a1 7), ia g (Q_a1 8) 10 (F_a1 8)]) args s 0 0 A) 7 140 [oX6 q_t Q_t, ia g (Q_t 0) 8 v.1, ia g (Q_t 1) 8 v.2, oX4 q_a1 Q_a1 (F_a1 0 0) (F_a1 1 0) (F_a1 2 0), ia g (Q_a1 5) 10 (F_a1 5), ia g (Q_a1 6) 10 (F_a1 6), ia g (Q_a1 7) 10 (F_a1 7), ia g (Q_a1 8) 10 (F_a1 8)] [] []) (fun z r hb hc he => t_X6_follow_b32 E q_t Q_t q_a1 Q_a1 N (va_up (va_up F_t 0 z.2.1) 1 z.2.2) F_a1 x2 z.1 r hb hc he) N ((0 : Int32), (upd v_1 (0 : Int32).toNatClampNeg (0 : Int32)), (upd v_2 (0 : Int32).toNatClampNeg (1 : Int32))) v_23 hv_23 ?_ H locs ls hP hD hS (lv_sub hl [1, 2, 3, 0] rfl)
  intro H locs ls hP hD hS hl
  obtain rfl := Option.some.inj h
  exact k_vret hx hb hr hlk hP hD hS dX6_follow_140
set_option maxRecDepth 100000 in
theorem c_X6_follow (l : Launch) (g : gG) (q_t : Nat) (Q_t : Ad) (q_a1 : Nat) (Q_a1 : Ad) (N : Nat) (F_t : St) (F_a1 : St) (x2 : Int32) (o : (Nat → Int32) × (Nat → Int32)) (h : x_X6_follow N F_t F_a1 x2 = some o) (sz : Nat) : MetV l yX6_follow (.code yX6_follow cX6_follow 7 none :: gW) 1 23 [.ref q_t, .ref q_a1, .int x2] g [oX6 q_t Q_t, ia g (Q_t 0) 8 (F_t 0), ia g (Q_t 1) 8 (F_t 1), oX4 q_a1 Q_a1 (F_a1 0 0) (F_a1 1 0) (F_a1 2 0), ia g (Q_a1 5) 10 (F_a1 5), ia g (Q_a1 6) 10 (F_a1 6), ia g (Q_a1 7) 10 (F_a1 7), ia g (Q_a1 8) 10 (F_a1 8)] [oX6 q_t Q_t, ia g (Q_t 0) 8 o.1, ia g (Q_t 1) 8 o.2, oX4 q_a1 Q_a1 (F_a1 0 0) (F_a1 1 0) (F_a1 2 0), ia g (Q_a1 5) 10 (F_a1 5), ia g (Q_a1 6) 10 (F_a1 6), ia g (Q_a1 7) 10 (F_a1 7), ia g (Q_a1 8) 10 (F_a1 8)] sz :=
  mkV (av := [.ref q_t, .ref q_a1, .int x2]) (by decide +kernel) rfl (fun p e s m below meth c A E H locs ls hP hD hS hl => t_X6_follow E q_t Q_t q_a1 Q_a1 N F_t F_a1 x2 o h H locs ls hP hD hS hl) sz
def x_X8_run_b37 (N : Nat) (L_t : SL) (F_a1 : St) (f_a4 : (Nat → Int32)) (x2 : Int32) (x3 : Int32) (x5 : Int32) : Option ((Int32 × (Nat → Int64) × (Nat → Int64)) ⊕ ((Nat → Int64) × (Nat → Int64))) :=
  if (F_a1 2 0) ≤ x5 then (some (.inr ((L_t 0), (L_t 1)))) else (if x5 < 0 ∨ 10 ≤ x5.toNatClampNeg then none else xl ((F_a1 8) x5.toNatClampNeg) (fun y_4 => if y_4 < 0 ∨ 10 ≤ y_4.toNatClampNeg then none else xl ((F_a1 5) y_4.toNatClampNeg) (fun y_6 => if y_6 < 0 ∨ 8 ≤ y_6.toNatClampNeg then none else if (lg_cmp ((L_t 0) y_6.toNatClampNeg) (0 : Int64)) = 0 then (some (.inl ((x5 + (1 : Int32)), (L_t 0), (L_t 1)))) else (Option.bind (x_X9_has x3 y_4) (fun v_9 => if v_9 = 0 then (Option.bind (x_X4_goingOn F_a1 y_6 ((1 : Int32) <<< (x2 &&& 31))) (fun v_11 => if v_11 = 0 then (some (.inl ((x5 + (1 : Int32)), (L_t 0), (L_t 1)))) else (if y_4 < 0 ∨ 10 ≤ y_4.toNatClampNeg then none else if ((F_a1 6) y_4.toNatClampNeg) < 0 ∨ 8 ≤ ((F_a1 6) y_4.toNatClampNeg).toNatClampNeg then none else if y_6 < 0 ∨ 8 ≤ y_6.toNatClampNeg then none else if y_4 < 0 ∨ 10 ≤ y_4.toNatClampNeg then none else if ((F_a1 6) y_4.toNatClampNeg) < 0 ∨ 8 ≤ ((F_a1 6) y_4.toNatClampNeg).toNatClampNeg then none else xl (((L_t 0) ((F_a1 6) y_4.toNatClampNeg).toNatClampNeg) ||| ((((L_t 0) y_6.toNatClampNeg) <<< (((F_a1 7) y_4.toNatClampNeg).toInt64 &&& 63)) &&& (2305843009213693951 : Int64))) (fun y_18 => if y_4 < 0 ∨ 10 ≤ y_4.toNatClampNeg then none else if (f_a4 y_4.toNatClampNeg) < 0 then (some (.inl ((x5 + (1 : Int32)), (vp_updL (L_t 0) ((F_a1 6) y_4.toNatClampNeg).toNatClampNeg y_18), (L_t 1)))) else (if y_4 < 0 ∨ 10 ≤ y_4.toNatClampNeg then none else if (8 : Int32) ≤ (f_a4 y_4.toNatClampNeg) then (some (.inl ((x5 + (1 : Int32)), (vp_updL (L_t 0) ((F_a1 6) y_4.toNatClampNeg).toNatClampNeg y_18), (L_t 1)))) else (if y_4 < 0 ∨ 10 ≤ y_4.toNatClampNeg then none else if (f_a4 y_4.toNatClampNeg) < 0 ∨ 8 ≤ (f_a4 y_4.toNatClampNeg).toNatClampNeg then none else if y_6 < 0 ∨ 8 ≤ y_6.toNatClampNeg then none else if (f_a4 y_4.toNatClampNeg) < 0 ∨ 8 ≤ (f_a4 y_4.toNatClampNeg).toNatClampNeg then none else xl (((L_t 1) (f_a4 y_4.toNatClampNeg).toNatClampNeg) ||| ((vp_updL (L_t 0) ((F_a1 6) y_4.toNatClampNeg).toNatClampNeg y_18) y_6.toNatClampNeg)) (fun y_27 => some (.inl ((x5 + (1 : Int32)), (vp_updL (L_t 0) ((F_a1 6) y_4.toNatClampNeg).toNatClampNeg y_18), (vp_updL (L_t 1) (f_a4 y_4.toNatClampNeg).toNatClampNeg y_27)))))))))) else (some (.inl ((x5 + (1 : Int32)), (L_t 0), (L_t 1)))))))))
set_option maxHeartbeats 4000000 in
set_option maxRecDepth 100000 in
theorem t_X8_run_b37 {p : Program} {l : Launch} {e : Env} {s : State} {m : MethodId} {args : Array Value} {below : List Frame} {meth : Method} {c : Code} {g : gG} {A : Nat → Prop} {Q : State → Prop} (E : En p s m args meth c g A cX8_run 8 (.code yX8_run cX8_run 8 none :: gW) RX8 none) (q_t : Nat) (Q_t : Ad) (q_a1 : Nat) (Q_a1 : Ad) (q_a4 : Nat) (N : Nat) (L_t : SL) (F_a1 : St) (f_a4 : (Nat → Int32)) (x2 : Int32) (x3 : Int32) (x5 : Int32) (o : (Int32 × (Nat → Int64) × (Nat → Int64)) ⊕ ((Nat → Int64) × (Nat → Int64))) (h : x_X8_run_b37 N L_t F_a1 f_a4 x2 x3 x5 = some o) (hc : ∀ z, o = .inl z → WA p l e (rM 2 43) s m args below meth c g A Q 8 37 [oX8 q_t Q_t, la g (Q_t 0) 8 z.2.1, la g (Q_t 1) 8 z.2.2, oX4 q_a1 Q_a1 (F_a1 0 0) (F_a1 1 0) (F_a1 2 0), ia g (Q_a1 3) 8 (F_a1 3), ia g (Q_a1 5) 10 (F_a1 5), ia g (Q_a1 6) 10 (F_a1 6), ia g (Q_a1 7) 10 (F_a1 7), ia g (Q_a1 8) 10 (F_a1 8), ia g q_a4 10 f_a4] [(0, .ref q_t), (1, .ref q_a1), (2, .int x2), (3, .int x3), (4, .ref q_a4), (5, .int z.1)] []) (he : ∀ v, o = .inr v → WA p l e (rM 2 43) s m args below meth c g A Q 8 175 [oX8 q_t Q_t, la g (Q_t 0) 8 v.1, la g (Q_t 1) 8 v.2, oX4 q_a1 Q_a1 (F_a1 0 0) (F_a1 1 0) (F_a1 2 0), ia g (Q_a1 3) 8 (F_a1 3), ia g (Q_a1 5) 10 (F_a1 5), ia g (Q_a1 6) 10 (F_a1 6), ia g (Q_a1 7) 10 (F_a1 7), ia g (Q_a1 8) 10 (F_a1 8), ia g q_a4 10 f_a4] [] []) : WA p l e (rM 2 43) s m args below meth c g A Q 8 37 [oX8 q_t Q_t, la g (Q_t 0) 8 (L_t 0), la g (Q_t 1) 8 (L_t 1), oX4 q_a1 Q_a1 (F_a1 0 0) (F_a1 1 0) (F_a1 2 0), ia g (Q_a1 3) 8 (F_a1 3), ia g (Q_a1 5) 10 (F_a1 5), ia g (Q_a1 6) 10 (F_a1 6), ia g (Q_a1 7) 10 (F_a1 7), ia g (Q_a1 8) 10 (F_a1 8), ia g q_a4 10 f_a4] [(0, .ref q_t), (1, .ref q_a1), (2, .int x2), (3, .int x3), (4, .ref q_a4), (5, .int x5)] [] := by
  obtain ⟨⟨hx, hb, hml, hown, hts⟩, hr, hK, hA, hlk⟩ := id E
  intro H locs ls hP hD hS hl
  refine lv_iload hx hb dX8_run_37 (lv_at hl 5 rfl) ?_
  refine lv_aload_n hx hb dX8_run_39 rfl (lv_at hl 1 rfl) ?_
  refine va_get (ci := 4) (v := .int (F_a1 2 0)) (C := RX4) (T := TX4) (N := 9) hx hb hts (fun w h => .tail _ (u_inX4 w h)) hown hK.1 hP 3 rfl rfl 2 (by decide) (hts _ (.tail _ u_fl_X8_30)) (fun _ h9 => h9) rfl dX8_run_40 ?_
  refine lv_icmp_ge (tgt := 175) hx hb dX8_run_43 (by decide) (fun c_2 => ?_) (fun c_2 => ?_)
  · have h := ox_t c_2 h
    obtain rfl := Option.some.inj h
    exact he _ rfl H locs ls hP hD hS (lv_sub hl [] rfl)
  · have h := ox_f c_2 h
    refine lv_aload_n hx hb dX8_run_46 rfl (lv_at hl 1 rfl) ?_
    refine va_get (ci := 4) (v := .ref (Q_a1 8)) (C := RX4) (T := TX4) (N := 9) hx hb hts (fun w h => .tail _ (u_inX4 w h)) hown hK.1 hP 3 rfl rfl 8 (by decide) (hts _ (.tail _ u_fl_X8_33)) (fun _ h9 => h9) rfl dX8_run_47 ?_
    refine lv_iload hx hb dX8_run_50 (lv_at hl 5 rfl) ?_
    obtain ⟨hi_3, h⟩ := ox_chk h
    refine va_iald hx hb hK.1 hP 8 0 rfl rfl hi_3 dX8_run_52 ?_
    refine lv_topi (fun y_4 ey_4 => ?_)
    have h := xl_at ey_4 h
    refine lv_istore (lv' := [(6, .int y_4), (0, .ref q_t), (1, .ref q_a1), (2, .int x2), (3, .int x3), (4, .ref q_a4), (5, .int x5)]) hx hb dX8_run_53 hl (by decide) rfl (fun ls hl => ?_)
    refine lv_aload_n hx hb dX8_run_55 rfl (lv_at hl 2 rfl) ?_
    refine va_get (ci := 4) (v := .ref (Q_a1 5)) (C := RX4) (T := TX4) (N := 9) hx hb hts (fun w h => .tail _ (u_inX4 w h)) hown hK.1 hP 3 rfl rfl 5 (by decide) (hts _ (.tail _ u_fl_X8_37)) (fun _ h9 => h9) rfl dX8_run_56 ?_
    refine lv_iload hx hb dX8_run_59 (lv_at hl 0 rfl) ?_
    obtain ⟨hi_5, h⟩ := ox_chk h
    refine va_iald hx hb hK.1 hP 5 0 rfl rfl hi_5 dX8_run_61 ?_
    refine lv_topi (fun y_6 ey_6 => ?_)
    have h := xl_at ey_6 h
    refine lv_istore (lv' := [(7, .int y_6), (6, .int y_4), (0, .ref q_t), (1, .ref q_a1), (2, .int x2), (3, .int x3), (4, .ref q_a4), (5, .int x5)]) hx hb dX8_run_62 hl (by decide) rfl (fun ls hl => ?_)
    refine lv_aload_n hx hb dX8_run_64 rfl (lv_at hl 2 rfl) ?_
    refine va_get (ci := 8) (v := .ref (Q_t 0)) (C := RX8) (T := TX8) (N := 2) hx hb hts (fun w h => .tail _ (u_inX8 w h)) hown hK.1 hP 0 rfl rfl 0 (by decide) (hts _ (.tail _ u_fl_X8_9)) (fun _ h9 => h9) rfl dX8_run_65 ?_
    refine lv_iload hx hb dX8_run_68 (lv_at hl 0 rfl) ?_
    obtain ⟨hi_7, h⟩ := ox_chk h
    refine va_lald hx hb hK.1 hP 1 1 rfl rfl hi_7 dX8_run_70 ?_
    refine lv_lconst (v := (0 : Int64)) hx hb dX8_run_71 (by decide) ?_
    refine W.lcmp hx hb dX8_run_72 ?_
    refine lv_if_eq (tgt := 169) hx hb dX8_run_73 (by decide) (fun c_8 => ?_) (fun c_8 => ?_)
    · have h := ox_t c_8 h
      refine lv_iinc (v := (x5 + (1 : Int32))) (lv' := [(5, .int (x5 + (1 : Int32))), (7, .int y_6), (6, .int y_4), (0, .ref q_t), (1, .ref q_a1), (2, .int x2), (3, .int x3), (4, .ref q_a4)]) hx hb dX8_run_169 hl (k := 7) rfl rfl (by decide) rfl (fun ls hl => ?_)
      refine lv_goto (tgt := 37) hx hb dX8_run_172 (by decide) ?_
      obtain rfl := Option.some.inj h
      exact hc _ rfl H locs ls hP hD hS (lv_sub hl [3, 4, 5, 6, 7, 0] rfl)
    · have h := ox_f c_8 h
      refine lv_iload_n hx hb dX8_run_76 rfl (lv_at hl 5 rfl) ?_
      refine lv_iload hx hb dX8_run_77 (lv_at hl 1 rfl) ?_
      obtain ⟨v_9, hv_9, h⟩ := ox_bind h
      refine kNi ⟨hx, hb, hml, hown, hts⟩ (c_X9_has l g x3 y_4 v_9 hv_9 H.size) u_co_X9_has u_st_X9_has u_ini_X9 n_X8_40 hd_X9_has ⟨rfl, rfl⟩ hK hP hD hS hA [] [0, 1, 2, 3, 4, 5, 6, 7, 8, 9] rfl rfl 0 rfl (w2 := [oX8 q_t Q_t, la g (Q_t 0) 8 (L_t 0), la g (Q_t 1) 8 (L_t 1), oX4 q_a1 Q_a1 (F_a1 0 0) (F_a1 1 0) (F_a1 2 0), ia g (Q_a1 3) 8 (F_a1 3), ia g (Q_a1 5) 10 (F_a1 5), ia g (Q_a1 6) 10 (F_a1 6), ia g (Q_a1 7) 10 (F_a1 7), ia g (Q_a1 8) 10 (F_a1 8), ia g q_a4 10 f_a4]) rfl rfl (As := [.int x3, .int y_4]) (rest := []) rfl hl.1 rfl rfl dX8_run_79 (fun H locs hP hD hS => ?_)
      refine lv_if_ne (tgt := 169) hx hb dX8_run_82 (by decide) (fun c_10 => ?_) (fun c_10 => ?_)
      · have h := ox_f c_10 h
        refine lv_iinc (v := (x5 + (1 : Int32))) (lv' := [(5, .int (x5 + (1 : Int32))), (7, .int y_6), (6, .int y_4), (0, .ref q_t), (1, .ref q_a1), (2, .int x2), (3, .int x3), (4, .ref q_a4)]) hx hb dX8_run_169 hl (k := 7) rfl rfl (by decide) rfl (fun ls hl => ?_)
        refine lv_goto (tgt := 37) hx hb dX8_run_172 (by decide) ?_
        obtain rfl := Option.some.inj h
        exact hc _ rfl H locs ls hP hD hS (lv_sub hl [3, 4, 5, 6, 7, 0] rfl)
      · have h := ox_t c_10 h
        refine lv_aload_n hx hb dX8_run_85 rfl (lv_at hl 3 rfl) ?_
        refine lv_iload hx hb dX8_run_86 (lv_at hl 0 rfl) ?_
        refine lv_iconst (v := (1 : Int32)) hx hb dX8_run_88 (by decide) ?_
        refine lv_iload_n hx hb dX8_run_89 rfl (lv_at hl 4 rfl) ?_
        refine lv_ishl hx hb dX8_run_90 ?_
        obtain ⟨v_11, hv_11, h⟩ := ox_bind h
        refine kVi ⟨hx, hb, hml, hown, hts⟩ (c_X4_goingOn l g q_a1 Q_a1 F_a1 y_6 ((1 : Int32) <<< (x2 &&& 31)) v_11 hv_11 H.size) (gV u_ml_X8_44 u_im_X4_goingOn u_se_X4_goingOn u_ini_X4 u_co_X4_goingOn) hd_X4_goingOn ⟨rfl, rfl⟩ hK hP hD hS hA 3 4 rfl rfl [3, 4] [2, 3, 4, 0, 1, 7, 8, 9, 10, 11] rfl rfl 2 rfl (w2 := [oX8 q_t Q_t, la g (Q_t 0) 8 (L_t 0), la g (Q_t 1) 8 (L_t 1), oX4 q_a1 Q_a1 (F_a1 0 0) (F_a1 1 0) (F_a1 2 0), ia g (Q_a1 3) 8 (F_a1 3), ia g (Q_a1 5) 10 (F_a1 5), ia g (Q_a1 6) 10 (F_a1 6), ia g (Q_a1 7) 10 (F_a1 7), ia g (Q_a1 8) 10 (F_a1 8), ia g q_a4 10 f_a4]) rfl rfl (As := [.int y_6, .int ((1 : Int32) <<< (x2 &&& 31))]) (rest := []) rfl hl.1 rfl rfl dX8_run_91 (fun H locs hP hD hS => ?_)
        refine lv_if_eq (tgt := 169) hx hb dX8_run_94 (by decide) (fun c_12 => ?_) (fun c_12 => ?_)
        · have h := ox_t c_12 h
          refine lv_iinc (v := (x5 + (1 : Int32))) (lv' := [(5, .int (x5 + (1 : Int32))), (7, .int y_6), (6, .int y_4), (0, .ref q_t), (1, .ref q_a1), (2, .int x2), (3, .int x3), (4, .ref q_a4)]) hx hb dX8_run_169 hl (k := 7) rfl rfl (by decide) rfl (fun ls hl => ?_)
          refine lv_goto (tgt := 37) hx hb dX8_run_172 (by decide) ?_
          obtain rfl := Option.some.inj h
          exact hc _ rfl H locs ls hP hD hS (lv_sub hl [3, 4, 5, 6, 7, 0] rfl)
        · have h := ox_f c_12 h
          refine lv_aload_n hx hb dX8_run_97 rfl (lv_at hl 2 rfl) ?_
          refine va_get (ci := 8) (v := .ref (Q_t 0)) (C := RX8) (T := TX8) (N := 2) hx hb hts (fun w h => .tail _ (u_inX8 w h)) hown hK.1 hP 0 rfl rfl 0 (by decide) (hts _ (.tail _ u_fl_X8_9)) (fun _ h9 => h9) rfl dX8_run_98 ?_
          refine lv_aload_n hx hb dX8_run_101 rfl (lv_at hl 3 rfl) ?_
          refine va_get (ci := 4) (v := .ref (Q_a1 6)) (C := RX4) (T := TX4) (N := 9) hx hb hts (fun w h => .tail _ (u_inX4 w h)) hown hK.1 hP 3 rfl rfl 6 (by decide) (hts _ (.tail _ u_fl_X8_48)) (fun _ h9 => h9) rfl dX8_run_102 ?_
          refine lv_iload hx hb dX8_run_105 (lv_at hl 1 rfl) ?_
          obtain ⟨hi_13, h⟩ := ox_chk h
          refine va_iald hx hb hK.1 hP 6 0 rfl rfl hi_13 dX8_run_107 ?_
          refine lv_dup2_11 hx hb dX8_run_108 rfl rfl ?_
          obtain ⟨hi_14, h⟩ := ox_chk h
          refine va_lald hx hb hK.1 hP 1 1 rfl rfl hi_14 dX8_run_109 ?_
          refine lv_aload_n hx hb dX8_run_110 rfl (lv_at hl 2 rfl) ?_
          refine va_get (ci := 8) (v := .ref (Q_t 0)) (C := RX8) (T := TX8) (N := 2) hx hb hts (fun w h => .tail _ (u_inX8 w h)) hown hK.1 hP 0 rfl rfl 0 (by decide) (hts _ (.tail _ u_fl_X8_9)) (fun _ h9 => h9) rfl dX8_run_111 ?_
          refine lv_iload hx hb dX8_run_114 (lv_at hl 0 rfl) ?_
          obtain ⟨hi_15, h⟩ := ox_chk h
          refine va_lald hx hb hK.1 hP 1 1 rfl rfl hi_15 dX8_run_116 ?_
          refine lv_aload_n hx hb dX8_run_117 rfl (lv_at hl 3 rfl) ?_
          refine va_get (ci := 4) (v := .ref (Q_a1 7)) (C := RX4) (T := TX4) (N := 9) hx hb hts (fun w h => .tail _ (u_inX4 w h)) hown hK.1 hP 3 rfl rfl 7 (by decide) (hts _ (.tail _ u_fl_X8_51)) (fun _ h9 => h9) rfl dX8_run_118 ?_
          refine lv_iload hx hb dX8_run_121 (lv_at hl 1 rfl) ?_
          obtain ⟨hi_16, h⟩ := ox_chk h
          refine va_iald hx hb hK.1 hP 7 0 rfl rfl hi_16 dX8_run_123 ?_
          refine lv_lshl (v := (((L_t 0) y_6.toNatClampNeg) <<< (((F_a1 7) y_4.toNatClampNeg).toInt64 &&& 63))) hx hb dX8_run_124 rfl ?_
          refine lv_ldc2 (v := (2305843009213693951 : Int64)) hx hb hown (hts _ (.tail _ u_kl_X8_54)) dX8_run_125 ?_
          refine lv_land hx hb dX8_run_128 ?_
          refine lv_lor hx hb dX8_run_129 ?_
          obtain ⟨hi_17, h⟩ := ox_chk h
          refine lv_topl (fun y_18 ey_18 => ?_)
          have h := xl_at ey_18 h
          refine va_last hx hb hK.1 hP hD hS 1 1 rfl rfl hi_17 dX8_run_130 (fun H locs hP hD hS => ?_)
          have hP : va_P g.1 vwCl [oX8 q_t Q_t, la g (Q_t 0) 8 (vp_updL (L_t 0) ((F_a1 6) y_4.toNatClampNeg).toNatClampNeg y_18), la g (Q_t 1) 8 (L_t 1), oX4 q_a1 Q_a1 (F_a1 0 0) (F_a1 1 0) (F_a1 2 0), ia g (Q_a1 3) 8 (F_a1 3), ia g (Q_a1 5) 10 (F_a1 5), ia g (Q_a1 6) 10 (F_a1 6), ia g (Q_a1 7) 10 (F_a1 7), ia g (Q_a1 8) 10 (F_a1 8), ia g q_a4 10 f_a4] H := hP
          have hD : va_D A [oX8 q_t Q_t, la g (Q_t 0) 8 (vp_updL (L_t 0) ((F_a1 6) y_4.toNatClampNeg).toNatClampNeg y_18), la g (Q_t 1) 8 (L_t 1), oX4 q_a1 Q_a1 (F_a1 0 0) (F_a1 1 0) (F_a1 2 0), ia g (Q_a1 3) 8 (F_a1 3), ia g (Q_a1 5) 10 (F_a1 5), ia g (Q_a1 6) 10 (F_a1 6), ia g (Q_a1 7) 10 (F_a1 7), ia g (Q_a1 8) 10 (F_a1 8), ia g q_a4 10 f_a4] := hD
          refine lv_aload hx hb dX8_run_131 (lv_at hl 6 rfl) ?_
          refine lv_iload hx hb dX8_run_133 (lv_at hl 1 rfl) ?_
          obtain ⟨hi_19, h⟩ := ox_chk h
          refine va_iald hx hb hK.1 hP 9 0 rfl rfl hi_19 dX8_run_135 ?_
          refine lv_if_lt (tgt := 169) hx hb dX8_run_136 (by decide) (fun c_20 => ?_) (fun c_20 => ?_)
          · have h := ox_t c_20 h
            refine lv_iinc (v := (x5 + (1 : Int32))) (lv' := [(5, .int (x5 + (1 : Int32))), (7, .int y_6), (6, .int y_4), (0, .ref q_t), (1, .ref q_a1), (2, .int x2), (3, .int x3), (4, .ref q_a4)]) hx hb dX8_run_169 hl (k := 7) rfl rfl (by decide) rfl (fun ls hl => ?_)
            refine lv_goto (tgt := 37) hx hb dX8_run_172 (by decide) ?_
            obtain rfl := Option.some.inj h
            exact hc _ rfl H locs ls hP hD hS (lv_sub hl [3, 4, 5, 6, 7, 0] rfl)
          · have h := ox_f c_20 h
            refine lv_aload hx hb dX8_run_139 (lv_at hl 6 rfl) ?_
            refine lv_iload hx hb dX8_run_141 (lv_at hl 1 rfl) ?_
            obtain ⟨hi_21, h⟩ := ox_chk h
            refine va_iald hx hb hK.1 hP 9 0 rfl rfl hi_21 dX8_run_143 ?_
            refine lv_bipush (v := (8 : Int32)) hx hb dX8_run_144 (by decide) ?_
            refine lv_icmp_ge (tgt := 169) hx hb dX8_run_146 (by decide) (fun c_22 => ?_) (fun c_22 => ?_)
            · have h := ox_t c_22 h
              refine lv_iinc (v := (x5 + (1 : Int32))) (lv' := [(5, .int (x5 + (1 : Int32))), (7, .int y_6), (6, .int y_4), (0, .ref q_t), (1, .ref q_a1), (2, .int x2), (3, .int x3), (4, .ref q_a4)]) hx hb dX8_run_169 hl (k := 7) rfl rfl (by decide) rfl (fun ls hl => ?_)
              refine lv_goto (tgt := 37) hx hb dX8_run_172 (by decide) ?_
              obtain rfl := Option.some.inj h
              exact hc _ rfl H locs ls hP hD hS (lv_sub hl [3, 4, 5, 6, 7, 0] rfl)
            · have h := ox_f c_22 h
              refine lv_aload_n hx hb dX8_run_149 rfl (lv_at hl 2 rfl) ?_
              refine va_get (ci := 8) (v := .ref (Q_t 1)) (C := RX8) (T := TX8) (N := 2) hx hb hts (fun w h => .tail _ (u_inX8 w h)) hown hK.1 hP 0 rfl rfl 1 (by decide) (hts _ (.tail _ u_fl_X8_15)) (fun _ h9 => h9) rfl dX8_run_150 ?_
              refine lv_aload hx hb dX8_run_153 (lv_at hl 6 rfl) ?_
              refine lv_iload hx hb dX8_run_155 (lv_at hl 1 rfl) ?_
              obtain ⟨hi_23, h⟩ := ox_chk h
              refine va_iald hx hb hK.1 hP 9 0 rfl rfl hi_23 dX8_run_157 ?_
              refine lv_dup2_11 hx hb dX8_run_158 rfl rfl ?_
              obtain ⟨hi_24, h⟩ := ox_chk h
              refine va_lald hx hb hK.1 hP 2 1 rfl rfl hi_24 dX8_run_159 ?_
              refine lv_aload_n hx hb dX8_run_160 rfl (lv_at hl 2 rfl) ?_
              refine va_get (ci := 8) (v := .ref (Q_t 0)) (C := RX8) (T := TX8) (N := 2) hx hb hts (fun w h => .tail _ (u_inX8 w h)) hown hK.1 hP 0 rfl rfl 0 (by decide) (hts _ (.tail _ u_fl_X8_9)) (fun _ h9 => h9) rfl dX8_run_161 ?_
              refine lv_iload hx hb dX8_run_164 (lv_at hl 0 rfl) ?_
              obtain ⟨hi_25, h⟩ := ox_chk h
              refine va_lald hx hb hK.1 hP 1 1 rfl rfl hi_25 dX8_run_166 ?_
              refine lv_lor hx hb dX8_run_167 ?_
              obtain ⟨hi_26, h⟩ := ox_chk h
              refine lv_topl (fun y_27 ey_27 => ?_)
              have h := xl_at ey_27 h
              refine va_last hx hb hK.1 hP hD hS 2 1 rfl rfl hi_26 dX8_run_168 (fun H locs hP hD hS => ?_)
              have hP : va_P g.1 vwCl [oX8 q_t Q_t, la g (Q_t 0) 8 (vp_updL (L_t 0) ((F_a1 6) y_4.toNatClampNeg).toNatClampNeg y_18), la g (Q_t 1) 8 (vp_updL (L_t 1) (f_a4 y_4.toNatClampNeg).toNatClampNeg y_27), oX4 q_a1 Q_a1 (F_a1 0 0) (F_a1 1 0) (F_a1 2 0), ia g (Q_a1 3) 8 (F_a1 3), ia g (Q_a1 5) 10 (F_a1 5), ia g (Q_a1 6) 10 (F_a1 6), ia g (Q_a1 7) 10 (F_a1 7), ia g (Q_a1 8) 10 (F_a1 8), ia g q_a4 10 f_a4] H := hP
              have hD : va_D A [oX8 q_t Q_t, la g (Q_t 0) 8 (vp_updL (L_t 0) ((F_a1 6) y_4.toNatClampNeg).toNatClampNeg y_18), la g (Q_t 1) 8 (vp_updL (L_t 1) (f_a4 y_4.toNatClampNeg).toNatClampNeg y_27), oX4 q_a1 Q_a1 (F_a1 0 0) (F_a1 1 0) (F_a1 2 0), ia g (Q_a1 3) 8 (F_a1 3), ia g (Q_a1 5) 10 (F_a1 5), ia g (Q_a1 6) 10 (F_a1 6), ia g (Q_a1 7) 10 (F_a1 7), ia g (Q_a1 8) 10 (F_a1 8), ia g q_a4 10 f_a4] := hD
              refine lv_iinc (v := (x5 + (1 : Int32))) (lv' := [(5, .int (x5 + (1 : Int32))), (7, .int y_6), (6, .int y_4), (0, .ref q_t), (1, .ref q_a1), (2, .int x2), (3, .int x3), (4, .ref q_a4)]) hx hb dX8_run_169 hl (k := 7) rfl rfl (by decide) rfl (fun ls hl => ?_)
              refine lv_goto (tgt := 37) hx hb dX8_run_172 (by decide) ?_
              obtain rfl := Option.some.inj h
              exact hc _ rfl H locs ls hP hD hS (lv_sub hl [3, 4, 5, 6, 7, 0] rfl)
def x_X8_run_k33 (N : Nat) (L_t : SL) (F_a1 : St) (f_a4 : (Nat → Int32)) (x2 : Int32) (x3 : Int32) (s1 : Int32) (s2 : Int64) : Option ((Nat → Int64) × (Nat → Int64)) :=
  if s1 < 0 ∨ 8 ≤ s1.toNatClampNeg then none else Option.bind (lpc (fun (z : Int32 × (Nat → Int64) × (Nat → Int64)) => x_X8_run_b37 N (va_up (va_up L_t 0 z.2.1) 1 z.2.2) F_a1 f_a4 x2 x3 z.1) N ((0 : Int32), (vp_updL (L_t 0) s1.toNatClampNeg s2), (L_t 1))) (fun v_28 => some (v_28.1, v_28.2))
set_option maxHeartbeats 4000000 in
set_option maxRecDepth 100000 in
theorem t_X8_run_k33 {p : Program} {l : Launch} {e : Env} {s : State} {m : MethodId} {args : Array Value} {below : List Frame} {meth : Method} {c : Code} {g : gG} {A : Nat → Prop} (E : En p s m args meth c g A cX8_run 8 (.code yX8_run cX8_run 8 none :: gW) RX8 none) (q_t : Nat) (Q_t : Ad) (q_a1 : Nat) (Q_a1 : Ad) (q_a4 : Nat) (N : Nat) (L_t : SL) (F_a1 : St) (f_a4 : (Nat → Int32)) (x2 : Int32) (x3 : Int32) (s1 : Int32) (s2 : Int64) (o : (Nat → Int64) × (Nat → Int64)) (h : x_X8_run_k33 N L_t F_a1 f_a4 x2 x3 s1 s2 = some o) : WA p l e (rM 2 43) s m args below meth c g A (MQ below (QV g A [oX8 q_t Q_t, la g (Q_t 0) 8 o.1, la g (Q_t 1) 8 o.2, oX4 q_a1 Q_a1 (F_a1 0 0) (F_a1 1 0) (F_a1 2 0), ia g (Q_a1 3) 8 (F_a1 3), ia g (Q_a1 5) 10 (F_a1 5), ia g (Q_a1 6) 10 (F_a1 6), ia g (Q_a1 7) 10 (F_a1 7), ia g (Q_a1 8) 10 (F_a1 8), ia g q_a4 10 f_a4]) args s 0 0 A) 8 33 [oX8 q_t Q_t, la g (Q_t 0) 8 (L_t 0), la g (Q_t 1) 8 (L_t 1), oX4 q_a1 Q_a1 (F_a1 0 0) (F_a1 1 0) (F_a1 2 0), ia g (Q_a1 3) 8 (F_a1 3), ia g (Q_a1 5) 10 (F_a1 5), ia g (Q_a1 6) 10 (F_a1 6), ia g (Q_a1 7) 10 (F_a1 7), ia g (Q_a1 8) 10 (F_a1 8), ia g q_a4 10 f_a4] [(0, .ref q_t), (1, .ref q_a1), (2, .int x2), (3, .int x3), (4, .ref q_a4)] [.long s2, .int s1, .ref (Q_t 0)] := by
  obtain ⟨⟨hx, hb, hml, hown, hts⟩, hr, hK, hA, hlk⟩ := id E
  intro H locs ls hP hD hS hl
  obtain ⟨hi_1, h⟩ := ox_chk h
  refine va_last hx hb hK.1 hP hD hS 1 1 rfl rfl hi_1 dX8_run_33 (fun H locs hP hD hS => ?_)
  have hP : va_P g.1 vwCl [oX8 q_t Q_t, la g (Q_t 0) 8 (vp_updL (L_t 0) s1.toNatClampNeg s2), la g (Q_t 1) 8 (L_t 1), oX4 q_a1 Q_a1 (F_a1 0 0) (F_a1 1 0) (F_a1 2 0), ia g (Q_a1 3) 8 (F_a1 3), ia g (Q_a1 5) 10 (F_a1 5), ia g (Q_a1 6) 10 (F_a1 6), ia g (Q_a1 7) 10 (F_a1 7), ia g (Q_a1 8) 10 (F_a1 8), ia g q_a4 10 f_a4] H := hP
  have hD : va_D A [oX8 q_t Q_t, la g (Q_t 0) 8 (vp_updL (L_t 0) s1.toNatClampNeg s2), la g (Q_t 1) 8 (L_t 1), oX4 q_a1 Q_a1 (F_a1 0 0) (F_a1 1 0) (F_a1 2 0), ia g (Q_a1 3) 8 (F_a1 3), ia g (Q_a1 5) 10 (F_a1 5), ia g (Q_a1 6) 10 (F_a1 6), ia g (Q_a1 7) 10 (F_a1 7), ia g (Q_a1 8) 10 (F_a1 8), ia g q_a4 10 f_a4] := hD
  refine lv_iconst (v := (0 : Int32)) hx hb dX8_run_34 (by decide) ?_
  refine lv_istore (lv' := [(5, .int (0 : Int32)), (0, .ref q_t), (1, .ref q_a1), (2, .int x2), (3, .int x3), (4, .ref q_a4)]) hx hb dX8_run_35 hl (by decide) rfl (fun ls hl => ?_)
  obtain ⟨v_28, hv_28, h⟩ := ox_bind h
  refine lpc_W (Wh := fun (z : Int32 × (Nat → Int64) × (Nat → Int64)) => WA p l e (rM 2 43) s m args below meth c g A (MQ below (QV g A [oX8 q_t Q_t, la g (Q_t 0) 8 o.1, la g (Q_t 1) 8 o.2, oX4 q_a1 Q_a1 (F_a1 0 0) (F_a1 1 0) (F_a1 2 0), ia g (Q_a1 3) 8 (F_a1 3), ia g (Q_a1 5) 10 (F_a1 5), ia g (Q_a1 6) 10 (F_a1 6), ia g (Q_a1 7) 10 (F_a1 7), ia g (Q_a1 8) 10 (F_a1 8), ia g q_a4 10 f_a4]) args s 0 0 A) 8 37 [oX8 q_t Q_t, la g (Q_t 0) 8 z.2.1, la g (Q_t 1) 8 z.2.2, oX4 q_a1 Q_a1 (F_a1 0 0) (F_a1 1 0) (F_a1 2 0), ia g (Q_a1 3) 8 (F_a1 3), ia g (Q_a1 5) 10 (F_a1 5), ia g (Q_a1 6) 10 (F_a1 6), ia g (Q_a1 7) 10 (F_a1 7), ia g (Q_a1 8) 10 (F_a1 8), ia g q_a4 10 f_a4] [(0, .ref q_t), (1, .ref q_a1), (2, .int x2), (3, .int x3), (4, .ref q_a4), (5, .int z.1)] []) (We := fun (v : (Nat → Int64) × (Nat → Int64)) => WA p l e (rM 2 43) s m args below meth c g A (MQ below (QV g A [oX8 q_t Q_t, la g (Q_t 0) 8 o.1, la g (Q_t 1) 8 o.2, oX4 q_a1 Q_a1 (F_a1 0 0) (F_a1 1 0) (F_a1 2 0), ia g (Q_a1 3) 8 (F_a1 3), ia g (Q_a1 5) 10 (F_a1 5), ia g (Q_a1 6) 10 (F_a1 6), ia g (Q_a1 7) 10 (F_a1 7), ia g (Q_a1 8) 10 (F_a1 8), ia g q_a4 10 f_a4]) args s 0 0 A) 8 175 [oX8 q_t Q_t, la g (Q_t 0) 8 v.1, la g (Q_t 1) 8 v.2, oX4 q_a1 Q_a1 (F_a1 0 0) (F_a1 1 0) (F_a1 2 0), ia g (Q_a1 3) 8 (F_a1 3), ia g (Q_a1 5) 10 (F_a1 5), ia g (Q_a1 6) 10 (F_a1 6), ia g (Q_a1 7) 10 (F_a1 7), ia g (Q_a1 8) 10 (F_a1 8), ia g q_a4 10 f_a4] [] []) (fun z r hb hc he => t_X8_run_b37 E q_t Q_t q_a1 Q_a1 q_a4 N (va_up (va_up L_t 0 z.2.1) 1 z.2.2) F_a1 f_a4 x2 x3 z.1 r hb hc he) N ((0 : Int32), (vp_updL (L_t 0) s1.toNatClampNeg s2), (L_t 1)) v_28 hv_28 ?_ H locs ls hP hD hS (lv_sub hl [1, 2, 3, 4, 5, 0] rfl)
  intro H locs ls hP hD hS hl
  obtain rfl := Option.some.inj h
  exact k_vret hx hb hr hlk hP hD hS dX8_run_175
def x_X8_run (N : Nat) (L_t : SL) (F_a1 : St) (f_a4 : (Nat → Int32)) (x2 : Int32) (x3 : Int32) : Option ((Nat → Int64) × (Nat → Int64)) :=
  Option.bind (x_J7_fill_d0a16 N 8 (L_t 0) (0 : Int64)) (fun v_29 => Option.bind (x_J7_fill_d0a16 N 8 (L_t 1) (0 : Int64)) (fun v_30 => if (F_a1 1 0) = 0 then (x_X8_run_k33 N (va_up (va_up L_t 0 v_29) 1 v_30) F_a1 f_a4 x2 x3 (0 : Int32) (0 : Int64)) else (x_X8_run_k33 N (va_up (va_up L_t 0 v_29) 1 v_30) F_a1 f_a4 x2 x3 (0 : Int32) (1 : Int64))))
set_option maxHeartbeats 4000000 in
set_option maxRecDepth 100000 in
theorem t_X8_run {p : Program} {l : Launch} {e : Env} {s : State} {m : MethodId} {args : Array Value} {below : List Frame} {meth : Method} {c : Code} {g : gG} {A : Nat → Prop} (E : En p s m args meth c g A cX8_run 8 (.code yX8_run cX8_run 8 none :: gW) RX8 none) (q_t : Nat) (Q_t : Ad) (q_a1 : Nat) (Q_a1 : Ad) (q_a4 : Nat) (N : Nat) (L_t : SL) (F_a1 : St) (f_a4 : (Nat → Int32)) (x2 : Int32) (x3 : Int32) (o : (Nat → Int64) × (Nat → Int64)) (h : x_X8_run N L_t F_a1 f_a4 x2 x3 = some o) : WA p l e (rM 2 43) s m args below meth c g A (MQ below (QV g A [oX8 q_t Q_t, la g (Q_t 0) 8 o.1, la g (Q_t 1) 8 o.2, oX4 q_a1 Q_a1 (F_a1 0 0) (F_a1 1 0) (F_a1 2 0), ia g (Q_a1 3) 8 (F_a1 3), ia g (Q_a1 5) 10 (F_a1 5), ia g (Q_a1 6) 10 (F_a1 6), ia g (Q_a1 7) 10 (F_a1 7), ia g (Q_a1 8) 10 (F_a1 8), ia g q_a4 10 f_a4]) args s 0 0 A) 8 0 [oX8 q_t Q_t, la g (Q_t 0) 8 (L_t 0), la g (Q_t 1) 8 (L_t 1), oX4 q_a1 Q_a1 (F_a1 0 0) (F_a1 1 0) (F_a1 2 0), ia g (Q_a1 3) 8 (F_a1 3), ia g (Q_a1 5) 10 (F_a1 5), ia g (Q_a1 6) 10 (F_a1 6), ia g (Q_a1 7) 10 (F_a1 7), ia g (Q_a1 8) 10 (F_a1 8), ia g q_a4 10 f_a4] [(0, .ref q_t), (1, .ref q_a1), (2, .int x2), (3, .int x3), (4, .ref q_a4)] [] := by
  obtain ⟨⟨hx, hb, hml, hown, hts⟩, hr, hK, hA, hlk⟩ := id E
  intro H locs ls hP hD hS hl
  refine lv_aload_n hx hb dX8_run_0 rfl (lv_at hl 0 rfl) ?_
  refine va_get (ci := 8) (v := .ref (Q_t 0)) (C := RX8) (T := TX8) (N := 2) hx hb hts (fun w h => .tail _ (u_inX8 w h)) hown hK.1 hP 0 rfl rfl 0 (by decide) (hts _ (.tail _ u_fl_X8_9)) (fun _ h9 => h9) rfl dX8_run_1 ?_
  refine lv_lconst (v := (0 : Int64)) hx hb dX8_run_4 (by decide) ?_
  obtain ⟨v_29, hv_29, h⟩ := ox_bind h
  refine kSv ⟨hx, hb, hml, hown, hts⟩ (c_J7_fill_d0a16 l g (Q_t 0) N 8 (L_t 0) (0 : Int64) v_29 hv_29 H.size) (gS u_ml_X8_18 u_st_J7_fill_d0a16 u_ini_J7 u_co_J7_fill_d0a16) hd_J7_fill_d0a16 ⟨rfl, rfl⟩ hK hP hD hS hA [1] [1, 0, 3, 4, 5, 6, 7, 8, 9, 10] rfl rfl 1 rfl (w2 := [oX8 q_t Q_t, la g (Q_t 0) 8 v_29, la g (Q_t 1) 8 (L_t 1), oX4 q_a1 Q_a1 (F_a1 0 0) (F_a1 1 0) (F_a1 2 0), ia g (Q_a1 3) 8 (F_a1 3), ia g (Q_a1 5) 10 (F_a1 5), ia g (Q_a1 6) 10 (F_a1 6), ia g (Q_a1 7) 10 (F_a1 7), ia g (Q_a1 8) 10 (F_a1 8), ia g q_a4 10 f_a4]) rfl rfl (As := [.ref (Q_t 0), .long (0 : Int64)]) (rest := []) rfl hl.1 rfl rfl dX8_run_5 (fun H locs hP hD hS => ?_)
  refine lv_aload_n hx hb dX8_run_8 rfl (lv_at hl 0 rfl) ?_
  refine va_get (ci := 8) (v := .ref (Q_t 1)) (C := RX8) (T := TX8) (N := 2) hx hb hts (fun w h => .tail _ (u_inX8 w h)) hown hK.1 hP 0 rfl rfl 1 (by decide) (hts _ (.tail _ u_fl_X8_15)) (fun _ h9 => h9) rfl dX8_run_9 ?_
  refine lv_lconst (v := (0 : Int64)) hx hb dX8_run_12 (by decide) ?_
  obtain ⟨v_30, hv_30, h⟩ := ox_bind h
  refine kSv ⟨hx, hb, hml, hown, hts⟩ (c_J7_fill_d0a16 l g (Q_t 1) N 8 (L_t 1) (0 : Int64) v_30 hv_30 H.size) (gS u_ml_X8_18 u_st_J7_fill_d0a16 u_ini_J7 u_co_J7_fill_d0a16) hd_J7_fill_d0a16 ⟨rfl, rfl⟩ hK hP hD hS hA [2] [1, 2, 0, 4, 5, 6, 7, 8, 9, 10] rfl rfl 1 rfl (w2 := [oX8 q_t Q_t, la g (Q_t 0) 8 v_29, la g (Q_t 1) 8 v_30, oX4 q_a1 Q_a1 (F_a1 0 0) (F_a1 1 0) (F_a1 2 0), ia g (Q_a1 3) 8 (F_a1 3), ia g (Q_a1 5) 10 (F_a1 5), ia g (Q_a1 6) 10 (F_a1 6), ia g (Q_a1 7) 10 (F_a1 7), ia g (Q_a1 8) 10 (F_a1 8), ia g q_a4 10 f_a4]) rfl rfl (As := [.ref (Q_t 1), .long (0 : Int64)]) (rest := []) rfl hl.1 rfl rfl dX8_run_13 (fun H locs hP hD hS => ?_)
  refine lv_aload_n hx hb dX8_run_16 rfl (lv_at hl 0 rfl) ?_
  refine va_get (ci := 8) (v := .ref (Q_t 0)) (C := RX8) (T := TX8) (N := 2) hx hb hts (fun w h => .tail _ (u_inX8 w h)) hown hK.1 hP 0 rfl rfl 0 (by decide) (hts _ (.tail _ u_fl_X8_9)) (fun _ h9 => h9) rfl dX8_run_17 ?_
  refine lv_iconst (v := (0 : Int32)) hx hb dX8_run_20 (by decide) ?_
  refine lv_aload_n hx hb dX8_run_21 rfl (lv_at hl 1 rfl) ?_
  refine va_get (ci := 4) (v := .int (F_a1 1 0)) (C := RX4) (T := TX4) (N := 9) hx hb hts (fun w h => .tail _ (u_inX4 w h)) hown hK.1 hP 3 rfl rfl 1 (by decide) (hts _ (.tail _ u_fl_X8_24)) (fun _ h9 => h9) rfl dX8_run_22 ?_
  refine lv_if_ne (tgt := 32) hx hb dX8_run_25 (by decide) (fun c_31 => ?_) (fun c_31 => ?_)
  · have h := ox_f c_31 h
    refine lv_lconst (v := (1 : Int64)) hx hb dX8_run_32 (by decide) ?_
    exact t_X8_run_k33 E q_t Q_t q_a1 Q_a1 q_a4 N (va_up (va_up L_t 0 v_29) 1 v_30) F_a1 f_a4 x2 x3 (0 : Int32) (1 : Int64) _ h H locs ls hP hD hS hl
  · have h := ox_t c_31 h
    refine lv_lconst (v := (0 : Int64)) hx hb dX8_run_28 (by decide) ?_
    refine lv_goto (tgt := 33) hx hb dX8_run_29 (by decide) ?_
    exact t_X8_run_k33 E q_t Q_t q_a1 Q_a1 q_a4 N (va_up (va_up L_t 0 v_29) 1 v_30) F_a1 f_a4 x2 x3 (0 : Int32) (0 : Int64) _ h H locs ls hP hD hS hl
set_option maxRecDepth 100000 in
theorem c_X8_run (l : Launch) (g : gG) (q_t : Nat) (Q_t : Ad) (q_a1 : Nat) (Q_a1 : Ad) (q_a4 : Nat) (N : Nat) (L_t : SL) (F_a1 : St) (f_a4 : (Nat → Int32)) (x2 : Int32) (x3 : Int32) (o : (Nat → Int64) × (Nat → Int64)) (h : x_X8_run N L_t F_a1 f_a4 x2 x3 = some o) (sz : Nat) : MetV l yX8_run (.code yX8_run cX8_run 8 none :: gW) 2 43 [.ref q_t, .ref q_a1, .int x2, .int x3, .ref q_a4] g [oX8 q_t Q_t, la g (Q_t 0) 8 (L_t 0), la g (Q_t 1) 8 (L_t 1), oX4 q_a1 Q_a1 (F_a1 0 0) (F_a1 1 0) (F_a1 2 0), ia g (Q_a1 3) 8 (F_a1 3), ia g (Q_a1 5) 10 (F_a1 5), ia g (Q_a1 6) 10 (F_a1 6), ia g (Q_a1 7) 10 (F_a1 7), ia g (Q_a1 8) 10 (F_a1 8), ia g q_a4 10 f_a4] [oX8 q_t Q_t, la g (Q_t 0) 8 o.1, la g (Q_t 1) 8 o.2, oX4 q_a1 Q_a1 (F_a1 0 0) (F_a1 1 0) (F_a1 2 0), ia g (Q_a1 3) 8 (F_a1 3), ia g (Q_a1 5) 10 (F_a1 5), ia g (Q_a1 6) 10 (F_a1 6), ia g (Q_a1 7) 10 (F_a1 7), ia g (Q_a1 8) 10 (F_a1 8), ia g q_a4 10 f_a4] sz :=
  mkV (av := [.ref q_t, .ref q_a1, .int x2, .int x3, .ref q_a4]) (by decide +kernel) rfl (fun p e s m below meth c A E H locs ls hP hD hS hl => t_X8_run E q_t Q_t q_a1 Q_a1 q_a4 N L_t F_a1 f_a4 x2 x3 o h H locs ls hP hD hS hl) sz
def x_X8_firstHour (L_t : SL) (x1 : Int32) : Option (Int32) :=
  if x1 < 0 ∨ 8 ≤ x1.toNatClampNeg then none else if x1 < 0 ∨ 8 ≤ x1.toNatClampNeg then none else xl (((L_t 0) x1.toNatClampNeg) ||| ((L_t 1) x1.toNatClampNeg)) (fun y_3 => if (lg_cmp y_3 (0 : Int64)) = 0 then (some (99 : Int32)) else (Option.bind (x_J13_numberOfTrailingZeros_95d88 y_3) (fun v_5 => some v_5)))
set_option maxHeartbeats 4000000 in
set_option maxRecDepth 100000 in
theorem t_X8_firstHour {p : Program} {l : Launch} {e : Env} {s : State} {m : MethodId} {args : Array Value} {below : List Frame} {meth : Method} {c : Code} {g : gG} {A : Nat → Prop} (E : En p s m args meth c g A cX8_firstHour 4 (.code yX8_firstHour cX8_firstHour 4 (some .int) :: gW) RX8 (some .int)) (q_t : Nat) (Q_t : Ad) (L_t : SL) (x1 : Int32) (o : Int32) (h : x_X8_firstHour L_t x1 = some o) : WA p l e (rM 2 43) s m args below meth c g A (MQ below (QI g A o [oX8 q_t Q_t, la g (Q_t 0) 8 (L_t 0), la g (Q_t 1) 8 (L_t 1)]) args s 0 0 A) 4 0 [oX8 q_t Q_t, la g (Q_t 0) 8 (L_t 0), la g (Q_t 1) 8 (L_t 1)] [(0, .ref q_t), (1, .int x1)] [] := by
  obtain ⟨⟨hx, hb, hml, hown, hts⟩, hr, hK, hA, hlk⟩ := id E
  intro H locs ls hP hD hS hl
  refine lv_aload_n hx hb dX8_firstHour_0 rfl (lv_at hl 0 rfl) ?_
  refine va_get (ci := 8) (v := .ref (Q_t 0)) (C := RX8) (T := TX8) (N := 2) hx hb hts (fun w h => .tail _ (u_inX8 w h)) hown hK.1 hP 0 rfl rfl 0 (by decide) (hts _ (.tail _ u_fl_X8_9)) (fun _ h9 => h9) rfl dX8_firstHour_1 ?_
  refine lv_iload_n hx hb dX8_firstHour_4 rfl (lv_at hl 1 rfl) ?_
  obtain ⟨hi_1, h⟩ := ox_chk h
  refine va_lald hx hb hK.1 hP 1 1 rfl rfl hi_1 dX8_firstHour_5 ?_
  refine lv_aload_n hx hb dX8_firstHour_6 rfl (lv_at hl 0 rfl) ?_
  refine va_get (ci := 8) (v := .ref (Q_t 1)) (C := RX8) (T := TX8) (N := 2) hx hb hts (fun w h => .tail _ (u_inX8 w h)) hown hK.1 hP 0 rfl rfl 1 (by decide) (hts _ (.tail _ u_fl_X8_15)) (fun _ h9 => h9) rfl dX8_firstHour_7 ?_
  refine lv_iload_n hx hb dX8_firstHour_10 rfl (lv_at hl 1 rfl) ?_
  obtain ⟨hi_2, h⟩ := ox_chk h
  refine va_lald hx hb hK.1 hP 2 1 rfl rfl hi_2 dX8_firstHour_11 ?_
  refine lv_lor hx hb dX8_firstHour_12 ?_
  refine lv_topl (fun y_3 ey_3 => ?_)
  have h := xl_at ey_3 h
  refine lv_lstore_n (lv' := [(2, .long y_3), (0, .ref q_t), (1, .int x1)]) hx hb dX8_firstHour_13 rfl hl (by decide) rfl (fun ls hl => ?_)
  refine lv_lload_n hx hb dX8_firstHour_14 rfl (lv_at hl 0 rfl) ?_
  refine lv_lconst (v := (0 : Int64)) hx hb dX8_firstHour_15 (by decide) ?_
  refine W.lcmp hx hb dX8_firstHour_16 ?_
  refine lv_if_ne (tgt := 25) hx hb dX8_firstHour_17 (by decide) (fun c_4 => ?_) (fun c_4 => ?_)
  · have h := ox_f c_4 h
    refine lv_lload_n hx hb dX8_firstHour_25 rfl (lv_at hl 0 rfl) ?_
    obtain ⟨v_5, hv_5, h⟩ := ox_bind h
    refine kSi ⟨hx, hb, hml, hown, hts⟩ (c_J13_numberOfTrailingZeros_95d88 l g y_3 v_5 hv_5 H.size) (gS u_ml_X8_56 u_st_J13_numberOfTrailingZeros_95d88 u_ini_J13 u_co_J13_numberOfTrailingZeros_95d88) hd_J13_numberOfTrailingZeros_95d88 ⟨rfl, rfl⟩ hK hP hD hS hA [] [0, 1, 2] rfl rfl 0 rfl (w2 := [oX8 q_t Q_t, la g (Q_t 0) 8 (L_t 0), la g (Q_t 1) 8 (L_t 1)]) rfl rfl (As := [.long y_3]) (rest := []) rfl hl.1 rfl rfl dX8_firstHour_26 (fun H locs hP hD hS => ?_)
    obtain rfl := Option.some.inj h
    exact k_iret hx hb hr hlk hP hD hS dX8_firstHour_29
  · have h := ox_t c_4 h
    refine lv_bipush (v := (99 : Int32)) hx hb dX8_firstHour_20 (by decide) ?_
    refine lv_goto (tgt := 29) hx hb dX8_firstHour_22 (by decide) ?_
    obtain rfl := Option.some.inj h
    exact k_iret hx hb hr hlk hP hD hS dX8_firstHour_29
set_option maxRecDepth 100000 in
theorem c_X8_firstHour (l : Launch) (g : gG) (q_t : Nat) (Q_t : Ad) (L_t : SL) (x1 : Int32) (o : Int32) (h : x_X8_firstHour L_t x1 = some o) (sz : Nat) : MetI l yX8_firstHour (.code yX8_firstHour cX8_firstHour 4 (some .int) :: gW) 2 43 [.ref q_t, .int x1] o g [oX8 q_t Q_t, la g (Q_t 0) 8 (L_t 0), la g (Q_t 1) 8 (L_t 1)] [oX8 q_t Q_t, la g (Q_t 0) 8 (L_t 0), la g (Q_t 1) 8 (L_t 1)] sz :=
  mkI (av := [.ref q_t, .int x1]) (by decide +kernel) rfl (fun p e s m below meth c A E H locs ls hP hD hS hl => t_X8_firstHour E q_t Q_t L_t x1 o h H locs ls hP hD hS hl) sz
def x_X8_heardAtPlaces_b4 (N : Nat) (L_t : SL) (x1 : Int32) (x2 : Int32) : Option ((Int32 × Int32) ⊕ (Int32)) :=
  if (8 : Int32) ≤ x2 then (some (.inr x1)) else (if x2 < 0 ∨ 8 ≤ x2.toNatClampNeg then none else if x2 < 0 ∨ 8 ≤ x2.toNatClampNeg then none else if (lg_cmp (((L_t 0) x2.toNatClampNeg) ||| ((L_t 1) x2.toNatClampNeg)) (0 : Int64)) = 0 then (some (.inl (x1, (x2 + (1 : Int32))))) else (xl (x1 ||| ((1 : Int32) <<< (x2 &&& 31))) (fun y_5 => some (.inl (y_5, (x2 + (1 : Int32)))))))
set_option maxHeartbeats 4000000 in
set_option maxRecDepth 100000 in
theorem t_X8_heardAtPlaces_b4 {p : Program} {l : Launch} {e : Env} {s : State} {m : MethodId} {args : Array Value} {below : List Frame} {meth : Method} {c : Code} {g : gG} {A : Nat → Prop} {Q : State → Prop} (E : En p s m args meth c g A cX8_heardAtPlaces 3 (.code yX8_heardAtPlaces cX8_heardAtPlaces 3 (some .int) :: gW) RX8 (some .int)) (q_t : Nat) (Q_t : Ad) (N : Nat) (L_t : SL) (x1 : Int32) (x2 : Int32) (o : (Int32 × Int32) ⊕ (Int32)) (h : x_X8_heardAtPlaces_b4 N L_t x1 x2 = some o) (hc : ∀ z, o = .inl z → WA p l e (rM 0 0) s m args below meth c g A Q 3 4 [oX8 q_t Q_t, la g (Q_t 0) 8 (L_t 0), la g (Q_t 1) 8 (L_t 1)] [(0, .ref q_t), (1, .int z.1), (2, .int z.2)] []) (he : ∀ v, o = .inr v → WA p l e (rM 0 0) s m args below meth c g A Q 3 40 [oX8 q_t Q_t, la g (Q_t 0) 8 (L_t 0), la g (Q_t 1) 8 (L_t 1)] [(1, .int v)] []) : WA p l e (rM 0 0) s m args below meth c g A Q 3 4 [oX8 q_t Q_t, la g (Q_t 0) 8 (L_t 0), la g (Q_t 1) 8 (L_t 1)] [(0, .ref q_t), (1, .int x1), (2, .int x2)] [] := by
  obtain ⟨⟨hx, hb, hml, hown, hts⟩, hr, hK, hA, hlk⟩ := id E
  intro H locs ls hP hD hS hl
  refine lv_iload_n hx hb dX8_heardAtPlaces_4 rfl (lv_at hl 2 rfl) ?_
  refine lv_bipush (v := (8 : Int32)) hx hb dX8_heardAtPlaces_5 (by decide) ?_
  refine lv_icmp_ge (tgt := 40) hx hb dX8_heardAtPlaces_7 (by decide) (fun c_1 => ?_) (fun c_1 => ?_)
  · have h := ox_t c_1 h
    obtain rfl := Option.some.inj h
    exact he _ rfl H locs ls hP hD hS (lv_sub hl [1] rfl)
  · have h := ox_f c_1 h
    refine lv_aload_n hx hb dX8_heardAtPlaces_10 rfl (lv_at hl 0 rfl) ?_
    refine va_get (ci := 8) (v := .ref (Q_t 0)) (C := RX8) (T := TX8) (N := 2) hx hb hts (fun w h => .tail _ (u_inX8 w h)) hown hK.1 hP 0 rfl rfl 0 (by decide) (hts _ (.tail _ u_fl_X8_9)) (fun _ h9 => h9) rfl dX8_heardAtPlaces_11 ?_
    refine lv_iload_n hx hb dX8_heardAtPlaces_14 rfl (lv_at hl 2 rfl) ?_
    obtain ⟨hi_2, h⟩ := ox_chk h
    refine va_lald hx hb hK.1 hP 1 1 rfl rfl hi_2 dX8_heardAtPlaces_15 ?_
    refine lv_aload_n hx hb dX8_heardAtPlaces_16 rfl (lv_at hl 0 rfl) ?_
    refine va_get (ci := 8) (v := .ref (Q_t 1)) (C := RX8) (T := TX8) (N := 2) hx hb hts (fun w h => .tail _ (u_inX8 w h)) hown hK.1 hP 0 rfl rfl 1 (by decide) (hts _ (.tail _ u_fl_X8_15)) (fun _ h9 => h9) rfl dX8_heardAtPlaces_17 ?_
    refine lv_iload_n hx hb dX8_heardAtPlaces_20 rfl (lv_at hl 2 rfl) ?_
    obtain ⟨hi_3, h⟩ := ox_chk h
    refine va_lald hx hb hK.1 hP 2 1 rfl rfl hi_3 dX8_heardAtPlaces_21 ?_
    refine lv_lor hx hb dX8_heardAtPlaces_22 ?_
    refine lv_lconst (v := (0 : Int64)) hx hb dX8_heardAtPlaces_23 (by decide) ?_
    refine W.lcmp hx hb dX8_heardAtPlaces_24 ?_
    refine lv_if_eq (tgt := 34) hx hb dX8_heardAtPlaces_25 (by decide) (fun c_4 => ?_) (fun c_4 => ?_)
    · have h := ox_t c_4 h
      refine lv_iinc (v := (x2 + (1 : Int32))) (lv' := [(2, .int (x2 + (1 : Int32))), (0, .ref q_t), (1, .int x1)]) hx hb dX8_heardAtPlaces_34 hl (k := 2) rfl rfl (by decide) rfl (fun ls hl => ?_)
      refine lv_goto (tgt := 4) hx hb dX8_heardAtPlaces_37 (by decide) ?_
      obtain rfl := Option.some.inj h
      exact hc _ rfl H locs ls hP hD hS (lv_sub hl [1, 2, 0] rfl)
    · have h := ox_f c_4 h
      refine lv_iload_n hx hb dX8_heardAtPlaces_28 rfl (lv_at hl 1 rfl) ?_
      refine lv_iconst (v := (1 : Int32)) hx hb dX8_heardAtPlaces_29 (by decide) ?_
      refine lv_iload_n hx hb dX8_heardAtPlaces_30 rfl (lv_at hl 2 rfl) ?_
      refine lv_ishl hx hb dX8_heardAtPlaces_31 ?_
      refine lv_ior hx hb dX8_heardAtPlaces_32 ?_
      refine lv_topi (fun y_5 ey_5 => ?_)
      have h := xl_at ey_5 h
      refine lv_istore_n (lv' := [(1, .int y_5), (0, .ref q_t), (2, .int x2)]) hx hb dX8_heardAtPlaces_33 rfl hl (by decide) rfl (fun ls hl => ?_)
      refine lv_iinc (v := (x2 + (1 : Int32))) (lv' := [(2, .int (x2 + (1 : Int32))), (1, .int y_5), (0, .ref q_t)]) hx hb dX8_heardAtPlaces_34 hl (k := 2) rfl rfl (by decide) rfl (fun ls hl => ?_)
      refine lv_goto (tgt := 4) hx hb dX8_heardAtPlaces_37 (by decide) ?_
      obtain rfl := Option.some.inj h
      exact hc _ rfl H locs ls hP hD hS (lv_sub hl [2, 1, 0] rfl)
def x_X8_heardAtPlaces (N : Nat) (L_t : SL) : Option (Int32) :=
  Option.bind (lpc (fun (z : Int32 × Int32) => x_X8_heardAtPlaces_b4 N L_t z.1 z.2) N ((0 : Int32), (0 : Int32))) (fun v_6 => some v_6)
set_option maxHeartbeats 4000000 in
set_option maxRecDepth 100000 in
theorem t_X8_heardAtPlaces {p : Program} {l : Launch} {e : Env} {s : State} {m : MethodId} {args : Array Value} {below : List Frame} {meth : Method} {c : Code} {g : gG} {A : Nat → Prop} (E : En p s m args meth c g A cX8_heardAtPlaces 3 (.code yX8_heardAtPlaces cX8_heardAtPlaces 3 (some .int) :: gW) RX8 (some .int)) (q_t : Nat) (Q_t : Ad) (N : Nat) (L_t : SL) (o : Int32) (h : x_X8_heardAtPlaces N L_t = some o) : WA p l e (rM 0 0) s m args below meth c g A (MQ below (QI g A o [oX8 q_t Q_t, la g (Q_t 0) 8 (L_t 0), la g (Q_t 1) 8 (L_t 1)]) args s 0 0 A) 3 0 [oX8 q_t Q_t, la g (Q_t 0) 8 (L_t 0), la g (Q_t 1) 8 (L_t 1)] [(0, .ref q_t)] [] := by
  obtain ⟨⟨hx, hb, hml, hown, hts⟩, hr, hK, hA, hlk⟩ := id E
  intro H locs ls hP hD hS hl
  refine lv_iconst (v := (0 : Int32)) hx hb dX8_heardAtPlaces_0 (by decide) ?_
  refine lv_istore_n (lv' := [(1, .int (0 : Int32)), (0, .ref q_t)]) hx hb dX8_heardAtPlaces_1 rfl hl (by decide) rfl (fun ls hl => ?_)
  refine lv_iconst (v := (0 : Int32)) hx hb dX8_heardAtPlaces_2 (by decide) ?_
  refine lv_istore_n (lv' := [(2, .int (0 : Int32)), (1, .int (0 : Int32)), (0, .ref q_t)]) hx hb dX8_heardAtPlaces_3 rfl hl (by decide) rfl (fun ls hl => ?_)
  obtain ⟨v_6, hv_6, h⟩ := ox_bind h
  refine lpc_W (Wh := fun (z : Int32 × Int32) => WA p l e (rM 0 0) s m args below meth c g A (MQ below (QI g A o [oX8 q_t Q_t, la g (Q_t 0) 8 (L_t 0), la g (Q_t 1) 8 (L_t 1)]) args s 0 0 A) 3 4 [oX8 q_t Q_t, la g (Q_t 0) 8 (L_t 0), la g (Q_t 1) 8 (L_t 1)] [(0, .ref q_t), (1, .int z.1), (2, .int z.2)] []) (We := fun (v : Int32) => WA p l e (rM 0 0) s m args below meth c g A (MQ below (QI g A o [oX8 q_t Q_t, la g (Q_t 0) 8 (L_t 0), la g (Q_t 1) 8 (L_t 1)]) args s 0 0 A) 3 40 [oX8 q_t Q_t, la g (Q_t 0) 8 (L_t 0), la g (Q_t 1) 8 (L_t 1)] [(1, .int v)] []) (fun z r hb hc he => t_X8_heardAtPlaces_b4 E q_t Q_t N L_t z.1 z.2 r hb hc he) N ((0 : Int32), (0 : Int32)) v_6 hv_6 ?_ H locs ls hP hD hS (lv_sub hl [2, 1, 0] rfl)
  intro H locs ls hP hD hS hl
  refine lv_iload_n hx hb dX8_heardAtPlaces_40 rfl (lv_at hl 0 rfl) ?_
  obtain rfl := Option.some.inj h
  exact k_iret hx hb hr hlk hP hD hS dX8_heardAtPlaces_41
set_option maxRecDepth 100000 in
theorem c_X8_heardAtPlaces (l : Launch) (g : gG) (q_t : Nat) (Q_t : Ad) (N : Nat) (L_t : SL) (o : Int32) (h : x_X8_heardAtPlaces N L_t = some o) (sz : Nat) : MetI l yX8_heardAtPlaces (.code yX8_heardAtPlaces cX8_heardAtPlaces 3 (some .int) :: gW) 0 0 [.ref q_t] o g [oX8 q_t Q_t, la g (Q_t 0) 8 (L_t 0), la g (Q_t 1) 8 (L_t 1)] [oX8 q_t Q_t, la g (Q_t 0) 8 (L_t 0), la g (Q_t 1) 8 (L_t 1)] sz :=
  mkI (av := [.ref q_t]) (by decide +kernel) rfl (fun p e s m below meth c A E H locs ls hP hD hS hl => t_X8_heardAtPlaces E q_t Q_t N L_t o h H locs ls hP hD hS hl) sz
def x_X7_crackAlone (N : Nat) (F_t : St) (x1 : Int32) (x2 : Int32) : Option ((Nat → Int32)) :=
  Option.bind (x_J7_fill_53178 N 10 (F_t 2) (-1 : Int32)) (fun v_1 => if x1 < 0 then (some v_1) else (if (10 : Int32) ≤ x1 then (some v_1) else (if x1 < 0 ∨ 10 ≤ x1.toNatClampNeg then none else some (upd v_1 x1.toNatClampNeg x2))))
set_option maxHeartbeats 4000000 in
set_option maxRecDepth 100000 in
theorem t_X7_crackAlone {p : Program} {l : Launch} {e : Env} {s : State} {m : MethodId} {args : Array Value} {below : List Frame} {meth : Method} {c : Code} {g : gG} {A : Nat → Prop} (E : En p s m args meth c g A cX7_crackAlone 3 (.code yX7_crackAlone cX7_crackAlone 3 none :: gW) RX7 none) (q_t : Nat) (Q_t : Ad) (N : Nat) (F_t : St) (x1 : Int32) (x2 : Int32) (o : (Nat → Int32)) (h : x_X7_crackAlone N F_t x1 x2 = some o) : WA p l e (rM 1 23) s m args below meth c g A (MQ below (QV g A [oX7 q_t Q_t, ia g (Q_t 2) 10 o]) args s 0 0 A) 3 0 [oX7 q_t Q_t, ia g (Q_t 2) 10 (F_t 2)] [(0, .ref q_t), (1, .int x1), (2, .int x2)] [] := by
  obtain ⟨⟨hx, hb, hml, hown, hts⟩, hr, hK, hA, hlk⟩ := id E
  intro H locs ls hP hD hS hl
  refine lv_aload_n hx hb dX7_crackAlone_0 rfl (lv_at hl 0 rfl) ?_
  refine va_get (ci := 7) (v := .ref (Q_t 2)) (C := RX7) (T := TX7) (N := 4) hx hb hts (fun w h => .tail _ (u_inX7 w h)) hown hK.1 hP 0 rfl rfl 2 (by decide) (hts _ (.tail _ u_fl_X7_21)) (fun _ h9 => h9) rfl dX7_crackAlone_1 ?_
  refine lv_iconst (v := (-1 : Int32)) hx hb dX7_crackAlone_4 (by decide) ?_
  obtain ⟨v_1, hv_1, h⟩ := ox_bind h
  refine kSv ⟨hx, hb, hml, hown, hts⟩ (c_J7_fill_53178 l g (Q_t 2) N 10 (F_t 2) (-1 : Int32) v_1 hv_1 H.size) (gS u_ml_X7_94 u_st_J7_fill_53178 u_ini_J7 u_co_J7_fill_53178) hd_J7_fill_53178 ⟨rfl, rfl⟩ hK hP hD hS hA [1] [1, 0] rfl rfl 1 rfl (w2 := [oX7 q_t Q_t, ia g (Q_t 2) 10 v_1]) rfl rfl (As := [.ref (Q_t 2), .int (-1 : Int32)]) (rest := []) rfl hl.1 rfl rfl dX7_crackAlone_5 (fun H locs hP hD hS => ?_)
  refine lv_iload_n hx hb dX7_crackAlone_8 rfl (lv_at hl 1 rfl) ?_
  refine lv_if_lt (tgt := 28) hx hb dX7_crackAlone_9 (by decide) (fun c_2 => ?_) (fun c_2 => ?_)
  · have h := ox_t c_2 h
    obtain rfl := Option.some.inj h
    exact k_vret hx hb hr hlk hP hD hS dX7_crackAlone_28
  · have h := ox_f c_2 h
    refine lv_iload_n hx hb dX7_crackAlone_12 rfl (lv_at hl 1 rfl) ?_
    refine lv_aload_n hx hb dX7_crackAlone_13 rfl (lv_at hl 0 rfl) ?_
    refine va_get (ci := 7) (v := .ref (Q_t 2)) (C := RX7) (T := TX7) (N := 4) hx hb hts (fun w h => .tail _ (u_inX7 w h)) hown hK.1 hP 0 rfl rfl 2 (by decide) (hts _ (.tail _ u_fl_X7_21)) (fun _ h9 => h9) rfl dX7_crackAlone_14 ?_
    refine va_alen hx hb hK.1 hP 1 0 rfl rfl (v := (10 : Int32)) rfl dX7_crackAlone_17 ?_
    refine lv_icmp_ge (tgt := 28) hx hb dX7_crackAlone_18 (by decide) (fun c_3 => ?_) (fun c_3 => ?_)
    · have h := ox_t c_3 h
      obtain rfl := Option.some.inj h
      exact k_vret hx hb hr hlk hP hD hS dX7_crackAlone_28
    · have h := ox_f c_3 h
      refine lv_aload_n hx hb dX7_crackAlone_21 rfl (lv_at hl 0 rfl) ?_
      refine va_get (ci := 7) (v := .ref (Q_t 2)) (C := RX7) (T := TX7) (N := 4) hx hb hts (fun w h => .tail _ (u_inX7 w h)) hown hK.1 hP 0 rfl rfl 2 (by decide) (hts _ (.tail _ u_fl_X7_21)) (fun _ h9 => h9) rfl dX7_crackAlone_22 ?_
      refine lv_iload_n hx hb dX7_crackAlone_25 rfl (lv_at hl 1 rfl) ?_
      refine lv_iload_n hx hb dX7_crackAlone_26 rfl (lv_at hl 2 rfl) ?_
      obtain ⟨hi_4, h⟩ := ox_chk h
      refine va_iast hx hb hK.1 hP hD hS 1 0 rfl rfl hi_4 dX7_crackAlone_27 (fun H locs hP hD hS => ?_)
      have hP : va_P g.1 vwCl [oX7 q_t Q_t, ia g (Q_t 2) 10 (upd v_1 x1.toNatClampNeg x2)] H := hP
      have hD : va_D A [oX7 q_t Q_t, ia g (Q_t 2) 10 (upd v_1 x1.toNatClampNeg x2)] := hD
      obtain rfl := Option.some.inj h
      exact k_vret hx hb hr hlk hP hD hS dX7_crackAlone_28
set_option maxRecDepth 100000 in
theorem c_X7_crackAlone (l : Launch) (g : gG) (q_t : Nat) (Q_t : Ad) (N : Nat) (F_t : St) (x1 : Int32) (x2 : Int32) (o : (Nat → Int32)) (h : x_X7_crackAlone N F_t x1 x2 = some o) (sz : Nat) : MetV l yX7_crackAlone (.code yX7_crackAlone cX7_crackAlone 3 none :: gW) 1 23 [.ref q_t, .int x1, .int x2] g [oX7 q_t Q_t, ia g (Q_t 2) 10 (F_t 2)] [oX7 q_t Q_t, ia g (Q_t 2) 10 o] sz :=
  mkV (av := [.ref q_t, .int x1, .int x2]) (by decide +kernel) rfl (fun p e s m below meth c A E H locs ls hP hD hS hl => t_X7_crackAlone E q_t Q_t N F_t x1 x2 o h H locs ls hP hD hS hl) sz
def x_X7_fewestGates_b24 (N : Nat) (L_t_one : SL) (F_a1 : St) (F_a2 : St) (x4 : Int32) (x5 : Int32) (x6 : Int32) (x7 : Int32) (x8 : Int32) (x9 : Int32) : Option ((Int32 × Int32 × Int32 × (Nat → Int64) × (Nat → Int64)) ⊕ (Int32 × (Nat → Int64) × (Nat → Int64))) :=
  if ((1 : Int32) <<< ((F_a1 2 0) &&& 31)) ≤ x9 then (some (.inr (x6, (L_t_one 0), (L_t_one 1)))) else (Option.bind (x_J6_bitCount_0f7a4 x9) (fun v_2 => if x7 ≤ v_2 then (some (.inl (x6, x7, (x9 + (1 : Int32)), (L_t_one 0), (L_t_one 1)))) else (if (x9 &&& (F_a2 1 0)) = 0 then (Option.bind (x_X8_run N L_t_one F_a1 (F_a2 3) x4 (x9 ||| (F_a2 1 0))) (fun v_5 => Option.bind (x_X8_heardAtPlaces N (va_up (va_up L_t_one 0 v_5.1) 1 v_5.2)) (fun v_6 => if (v_6 &&& x5) = 0 then (if (v_6 &&& x8) = x8 then (Option.bind (x_J6_bitCount_0f7a4 x9) (fun v_9 => some (.inl (x9, v_9, (x9 + (1 : Int32)), v_5.1, v_5.2)))) else (some (.inl (x6, x7, (x9 + (1 : Int32)), v_5.1, v_5.2)))) else (some (.inl (x6, x7, (x9 + (1 : Int32)), v_5.1, v_5.2)))))) else (some (.inl (x6, x7, (x9 + (1 : Int32)), (L_t_one 0), (L_t_one 1)))))))
set_option maxHeartbeats 4000000 in
set_option maxRecDepth 100000 in
theorem t_X7_fewestGates_b24 {p : Program} {l : Launch} {e : Env} {s : State} {m : MethodId} {args : Array Value} {below : List Frame} {meth : Method} {c : Code} {g : gG} {A : Nat → Prop} {Q : State → Prop} (E : En p s m args meth c g A cX7_fewestGates 11 (.code yX7_fewestGates cX7_fewestGates 11 (some .int) :: gW) RX7 (some .int)) (q_t : Nat) (Q_t : Ad) (Q_t_one : Ad) (q_a1 : Nat) (Q_a1 : Ad) (q_a2 : Nat) (Q_a2 : Ad) (N : Nat) (L_t_one : SL) (F_a1 : St) (F_a2 : St) (x4 : Int32) (x5 : Int32) (x6 : Int32) (x7 : Int32) (x8 : Int32) (x9 : Int32) (o : (Int32 × Int32 × Int32 × (Nat → Int64) × (Nat → Int64)) ⊕ (Int32 × (Nat → Int64) × (Nat → Int64))) (h : x_X7_fewestGates_b24 N L_t_one F_a1 F_a2 x4 x5 x6 x7 x8 x9 = some o) (hc : ∀ z, o = .inl z → WA p l e (rM 3 70) s m args below meth c g A Q 11 24 [oX7 q_t Q_t, oX8 (Q_t 0) Q_t_one, la g (Q_t_one 0) 8 z.2.2.2.1, la g (Q_t_one 1) 8 z.2.2.2.2, oX4 q_a1 Q_a1 (F_a1 0 0) (F_a1 1 0) (F_a1 2 0), ia g (Q_a1 3) 8 (F_a1 3), ia g (Q_a1 5) 10 (F_a1 5), ia g (Q_a1 6) 10 (F_a1 6), ia g (Q_a1 7) 10 (F_a1 7), ia g (Q_a1 8) 10 (F_a1 8), oX0 q_a2 Q_a2 (F_a2 0 0) (F_a2 1 0), ia g (Q_a2 3) 10 (F_a2 3)] [(0, .ref q_t), (1, .ref q_a1), (2, .ref q_a2), (4, .int x4), (5, .int x5), (6, .int z.1), (7, .int z.2.1), (8, .int x8), (9, .int z.2.2.1)] []) (he : ∀ v, o = .inr v → WA p l e (rM 3 70) s m args below meth c g A Q 11 120 [oX7 q_t Q_t, oX8 (Q_t 0) Q_t_one, la g (Q_t_one 0) 8 v.2.1, la g (Q_t_one 1) 8 v.2.2, oX4 q_a1 Q_a1 (F_a1 0 0) (F_a1 1 0) (F_a1 2 0), ia g (Q_a1 3) 8 (F_a1 3), ia g (Q_a1 5) 10 (F_a1 5), ia g (Q_a1 6) 10 (F_a1 6), ia g (Q_a1 7) 10 (F_a1 7), ia g (Q_a1 8) 10 (F_a1 8), oX0 q_a2 Q_a2 (F_a2 0 0) (F_a2 1 0), ia g (Q_a2 3) 10 (F_a2 3)] [(6, .int v.1)] []) : WA p l e (rM 3 70) s m args below meth c g A Q 11 24 [oX7 q_t Q_t, oX8 (Q_t 0) Q_t_one, la g (Q_t_one 0) 8 (L_t_one 0), la g (Q_t_one 1) 8 (L_t_one 1), oX4 q_a1 Q_a1 (F_a1 0 0) (F_a1 1 0) (F_a1 2 0), ia g (Q_a1 3) 8 (F_a1 3), ia g (Q_a1 5) 10 (F_a1 5), ia g (Q_a1 6) 10 (F_a1 6), ia g (Q_a1 7) 10 (F_a1 7), ia g (Q_a1 8) 10 (F_a1 8), oX0 q_a2 Q_a2 (F_a2 0 0) (F_a2 1 0), ia g (Q_a2 3) 10 (F_a2 3)] [(0, .ref q_t), (1, .ref q_a1), (2, .ref q_a2), (4, .int x4), (5, .int x5), (6, .int x6), (7, .int x7), (8, .int x8), (9, .int x9)] [] := by
  obtain ⟨⟨hx, hb, hml, hown, hts⟩, hr, hK, hA, hlk⟩ := id E
  intro H locs ls hP hD hS hl
  refine lv_iload hx hb dX7_fewestGates_24 (lv_at hl 8 rfl) ?_
  refine lv_iconst (v := (1 : Int32)) hx hb dX7_fewestGates_26 (by decide) ?_
  refine lv_aload_n hx hb dX7_fewestGates_27 rfl (lv_at hl 1 rfl) ?_
  refine va_get (ci := 4) (v := .int (F_a1 2 0)) (C := RX4) (T := TX4) (N := 9) hx hb hts (fun w h => .tail _ (u_inX4 w h)) hown hK.1 hP 4 rfl rfl 2 (by decide) (hts _ (.tail _ u_fl_X7_28)) (fun _ h9 => h9) rfl dX7_fewestGates_28 ?_
  refine lv_ishl hx hb dX7_fewestGates_31 ?_
  refine lv_icmp_ge (tgt := 120) hx hb dX7_fewestGates_32 (by decide) (fun c_1 => ?_) (fun c_1 => ?_)
  · have h := ox_t c_1 h
    obtain rfl := Option.some.inj h
    exact he _ rfl H locs ls hP hD hS (lv_sub hl [5] rfl)
  · have h := ox_f c_1 h
    refine lv_iload hx hb dX7_fewestGates_35 (lv_at hl 8 rfl) ?_
    obtain ⟨v_2, hv_2, h⟩ := ox_bind h
    refine kSi ⟨hx, hb, hml, hown, hts⟩ (c_J6_bitCount_0f7a4 l g x9 v_2 hv_2 H.size) (gS u_ml_X7_34 u_st_J6_bitCount_0f7a4 u_ini_J6 u_co_J6_bitCount_0f7a4) hd_J6_bitCount_0f7a4 ⟨rfl, rfl⟩ hK hP hD hS hA [] [0, 1, 2, 3, 4, 5, 6, 7, 8, 9, 10, 11] rfl rfl 0 rfl (w2 := [oX7 q_t Q_t, oX8 (Q_t 0) Q_t_one, la g (Q_t_one 0) 8 (L_t_one 0), la g (Q_t_one 1) 8 (L_t_one 1), oX4 q_a1 Q_a1 (F_a1 0 0) (F_a1 1 0) (F_a1 2 0), ia g (Q_a1 3) 8 (F_a1 3), ia g (Q_a1 5) 10 (F_a1 5), ia g (Q_a1 6) 10 (F_a1 6), ia g (Q_a1 7) 10 (F_a1 7), ia g (Q_a1 8) 10 (F_a1 8), oX0 q_a2 Q_a2 (F_a2 0 0) (F_a2 1 0), ia g (Q_a2 3) 10 (F_a2 3)]) rfl rfl (As := [.int x9]) (rest := []) rfl hl.1 rfl rfl dX7_fewestGates_37 (fun H locs hP hD hS => ?_)
    refine lv_iload hx hb dX7_fewestGates_40 (lv_at hl 6 rfl) ?_
    refine lv_icmp_ge (tgt := 114) hx hb dX7_fewestGates_42 (by decide) (fun c_3 => ?_) (fun c_3 => ?_)
    · have h := ox_t c_3 h
      refine lv_iinc (v := (x9 + (1 : Int32))) (lv' := [(9, .int (x9 + (1 : Int32))), (0, .ref q_t), (1, .ref q_a1), (2, .ref q_a2), (4, .int x4), (5, .int x5), (6, .int x6), (7, .int x7), (8, .int x8)]) hx hb dX7_fewestGates_114 hl (k := 8) rfl rfl (by decide) rfl (fun ls hl => ?_)
      refine lv_goto (tgt := 24) hx hb dX7_fewestGates_117 (by decide) ?_
      obtain rfl := Option.some.inj h
      exact hc _ rfl H locs ls hP hD hS (lv_sub hl [1, 2, 3, 4, 5, 6, 7, 8, 0] rfl)
    · have h := ox_f c_3 h
      refine lv_iload hx hb dX7_fewestGates_45 (lv_at hl 8 rfl) ?_
      refine lv_aload_n hx hb dX7_fewestGates_47 rfl (lv_at hl 2 rfl) ?_
      refine va_get (ci := 0) (v := .int (F_a2 1 0)) (C := RX0) (T := TX0) (N := 7) hx hb hts (fun w h => .tail _ (u_inX0 w h)) hown hK.1 hP 10 rfl rfl 1 (by decide) (hts _ (.tail _ u_fl_X7_40)) (fun _ h9 => h9) rfl dX7_fewestGates_48 ?_
      refine lv_iand hx hb dX7_fewestGates_51 ?_
      refine lv_if_ne (tgt := 114) hx hb dX7_fewestGates_52 (by decide) (fun c_4 => ?_) (fun c_4 => ?_)
      · have h := ox_f c_4 h
        refine lv_iinc (v := (x9 + (1 : Int32))) (lv' := [(9, .int (x9 + (1 : Int32))), (0, .ref q_t), (1, .ref q_a1), (2, .ref q_a2), (4, .int x4), (5, .int x5), (6, .int x6), (7, .int x7), (8, .int x8)]) hx hb dX7_fewestGates_114 hl (k := 8) rfl rfl (by decide) rfl (fun ls hl => ?_)
        refine lv_goto (tgt := 24) hx hb dX7_fewestGates_117 (by decide) ?_
        obtain rfl := Option.some.inj h
        exact hc _ rfl H locs ls hP hD hS (lv_sub hl [1, 2, 3, 4, 5, 6, 7, 8, 0] rfl)
      · have h := ox_t c_4 h
        refine lv_aload_n hx hb dX7_fewestGates_55 rfl (lv_at hl 0 rfl) ?_
        refine va_get (ci := 7) (v := .ref (Q_t 0)) (C := RX7) (T := TX7) (N := 4) hx hb hts (fun w h => .tail _ (u_inX7 w h)) hown hK.1 hP 0 rfl rfl 0 (by decide) (hts _ (.tail _ u_fl_X7_12)) (fun _ h9 => h9) rfl dX7_fewestGates_56 ?_
        refine lv_aload_n hx hb dX7_fewestGates_59 rfl (lv_at hl 1 rfl) ?_
        refine lv_iload hx hb dX7_fewestGates_60 (lv_at hl 3 rfl) ?_
        refine lv_iload hx hb dX7_fewestGates_62 (lv_at hl 8 rfl) ?_
        refine lv_aload_n hx hb dX7_fewestGates_64 rfl (lv_at hl 2 rfl) ?_
        refine va_get (ci := 0) (v := .int (F_a2 1 0)) (C := RX0) (T := TX0) (N := 7) hx hb hts (fun w h => .tail _ (u_inX0 w h)) hown hK.1 hP 10 rfl rfl 1 (by decide) (hts _ (.tail _ u_fl_X7_40)) (fun _ h9 => h9) rfl dX7_fewestGates_65 ?_
        refine lv_ior hx hb dX7_fewestGates_68 ?_
        refine lv_aload_n hx hb dX7_fewestGates_69 rfl (lv_at hl 2 rfl) ?_
        refine va_get (ci := 0) (v := .ref (Q_a2 3)) (C := RX0) (T := TX0) (N := 7) hx hb hts (fun w h => .tail _ (u_inX0 w h)) hown hK.1 hP 10 rfl rfl 3 (by decide) (hts _ (.tail _ u_fl_X7_45)) (fun _ h9 => h9) rfl dX7_fewestGates_70 ?_
        obtain ⟨v_5, hv_5, h⟩ := ox_bind h
        refine kVv ⟨hx, hb, hml, hown, hts⟩ (c_X8_run l g (Q_t 0) Q_t_one q_a1 Q_a1 (Q_a2 3) N L_t_one F_a1 (F_a2 3) x4 (x9 ||| (F_a2 1 0)) v_5 hv_5 H.size) (gV u_ml_X7_48 u_im_X8_run u_se_X8_run u_ini_X8 u_co_X8_run) hd_X8_run ⟨rfl, rfl⟩ hK hP hD hS hA 1 8 rfl rfl [1, 2, 3, 4, 5, 6, 7, 8, 9, 11] [10, 0, 1, 2, 3, 4, 5, 6, 7, 8, 20, 9] rfl rfl 10 rfl (w2 := [oX7 q_t Q_t, oX8 (Q_t 0) Q_t_one, la g (Q_t_one 0) 8 v_5.1, la g (Q_t_one 1) 8 v_5.2, oX4 q_a1 Q_a1 (F_a1 0 0) (F_a1 1 0) (F_a1 2 0), ia g (Q_a1 3) 8 (F_a1 3), ia g (Q_a1 5) 10 (F_a1 5), ia g (Q_a1 6) 10 (F_a1 6), ia g (Q_a1 7) 10 (F_a1 7), ia g (Q_a1 8) 10 (F_a1 8), oX0 q_a2 Q_a2 (F_a2 0 0) (F_a2 1 0), ia g (Q_a2 3) 10 (F_a2 3)]) rfl rfl (As := [.ref q_a1, .int x4, .int (x9 ||| (F_a2 1 0)), .ref (Q_a2 3)]) (rest := []) rfl hl.1 rfl rfl dX7_fewestGates_73 (fun H locs hP hD hS => ?_)
        refine lv_aload_n hx hb dX7_fewestGates_76 rfl (lv_at hl 0 rfl) ?_
        refine va_get (ci := 7) (v := .ref (Q_t 0)) (C := RX7) (T := TX7) (N := 4) hx hb hts (fun w h => .tail _ (u_inX7 w h)) hown hK.1 hP 0 rfl rfl 0 (by decide) (hts _ (.tail _ u_fl_X7_12)) (fun _ h9 => h9) rfl dX7_fewestGates_77 ?_
        obtain ⟨v_6, hv_6, h⟩ := ox_bind h
        refine kVi ⟨hx, hb, hml, hown, hts⟩ (c_X8_heardAtPlaces l g (Q_t 0) Q_t_one N (va_up (va_up L_t_one 0 v_5.1) 1 v_5.2) v_6 hv_6 H.size) (gV u_ml_X7_52 u_im_X8_heardAtPlaces u_se_X8_heardAtPlaces u_ini_X8 u_co_X8_heardAtPlaces) hd_X8_heardAtPlaces ⟨rfl, rfl⟩ hK hP hD hS hA 1 8 rfl rfl [1, 2, 3] [3, 0, 1, 2, 7, 8, 9, 10, 11, 12, 13, 14] rfl rfl 3 rfl (w2 := [oX7 q_t Q_t, oX8 (Q_t 0) Q_t_one, la g (Q_t_one 0) 8 v_5.1, la g (Q_t_one 1) 8 v_5.2, oX4 q_a1 Q_a1 (F_a1 0 0) (F_a1 1 0) (F_a1 2 0), ia g (Q_a1 3) 8 (F_a1 3), ia g (Q_a1 5) 10 (F_a1 5), ia g (Q_a1 6) 10 (F_a1 6), ia g (Q_a1 7) 10 (F_a1 7), ia g (Q_a1 8) 10 (F_a1 8), oX0 q_a2 Q_a2 (F_a2 0 0) (F_a2 1 0), ia g (Q_a2 3) 10 (F_a2 3)]) rfl rfl (As := []) (rest := []) rfl hl.1 rfl rfl dX7_fewestGates_80 (fun H locs hP hD hS => ?_)
        refine lv_istore (lv' := [(10, .int v_6), (0, .ref q_t), (1, .ref q_a1), (2, .ref q_a2), (4, .int x4), (5, .int x5), (6, .int x6), (7, .int x7), (8, .int x8), (9, .int x9)]) hx hb dX7_fewestGates_83 hl (by decide) rfl (fun ls hl => ?_)
        refine lv_iload hx hb dX7_fewestGates_85 (lv_at hl 0 rfl) ?_
        refine lv_iload hx hb dX7_fewestGates_87 (lv_at hl 5 rfl) ?_
        refine lv_iand hx hb dX7_fewestGates_89 ?_
        refine lv_if_ne (tgt := 114) hx hb dX7_fewestGates_90 (by decide) (fun c_7 => ?_) (fun c_7 => ?_)
        · have h := ox_f c_7 h
          refine lv_iinc (v := (x9 + (1 : Int32))) (lv' := [(9, .int (x9 + (1 : Int32))), (10, .int v_6), (0, .ref q_t), (1, .ref q_a1), (2, .ref q_a2), (4, .int x4), (5, .int x5), (6, .int x6), (7, .int x7), (8, .int x8)]) hx hb dX7_fewestGates_114 hl (k := 9) rfl rfl (by decide) rfl (fun ls hl => ?_)
          refine lv_goto (tgt := 24) hx hb dX7_fewestGates_117 (by decide) ?_
          obtain rfl := Option.some.inj h
          exact hc _ rfl H locs ls hP hD hS (lv_sub hl [2, 3, 4, 5, 6, 7, 8, 9, 0] rfl)
        · have h := ox_t c_7 h
          refine lv_iload hx hb dX7_fewestGates_93 (lv_at hl 0 rfl) ?_
          refine lv_iload hx hb dX7_fewestGates_95 (lv_at hl 8 rfl) ?_
          refine lv_iand hx hb dX7_fewestGates_97 ?_
          refine lv_iload hx hb dX7_fewestGates_98 (lv_at hl 8 rfl) ?_
          refine lv_icmp_ne (tgt := 114) hx hb dX7_fewestGates_100 (by decide) (fun c_8 => ?_) (fun c_8 => ?_)
          · have h := ox_f c_8 h
            refine lv_iinc (v := (x9 + (1 : Int32))) (lv' := [(9, .int (x9 + (1 : Int32))), (10, .int v_6), (0, .ref q_t), (1, .ref q_a1), (2, .ref q_a2), (4, .int x4), (5, .int x5), (6, .int x6), (7, .int x7), (8, .int x8)]) hx hb dX7_fewestGates_114 hl (k := 9) rfl rfl (by decide) rfl (fun ls hl => ?_)
            refine lv_goto (tgt := 24) hx hb dX7_fewestGates_117 (by decide) ?_
            obtain rfl := Option.some.inj h
            exact hc _ rfl H locs ls hP hD hS (lv_sub hl [2, 3, 4, 5, 6, 7, 8, 9, 0] rfl)
          · have h := ox_t c_8 h
            refine lv_iload hx hb dX7_fewestGates_103 (lv_at hl 9 rfl) ?_
            refine lv_istore (lv' := [(6, .int x9), (10, .int v_6), (0, .ref q_t), (1, .ref q_a1), (2, .ref q_a2), (4, .int x4), (5, .int x5), (7, .int x7), (8, .int x8), (9, .int x9)]) hx hb dX7_fewestGates_105 hl (by decide) rfl (fun ls hl => ?_)
            refine lv_iload hx hb dX7_fewestGates_107 (lv_at hl 9 rfl) ?_
            obtain ⟨v_9, hv_9, h⟩ := ox_bind h
            refine kSi ⟨hx, hb, hml, hown, hts⟩ (c_J6_bitCount_0f7a4 l g x9 v_9 hv_9 H.size) (gS u_ml_X7_34 u_st_J6_bitCount_0f7a4 u_ini_J6 u_co_J6_bitCount_0f7a4) hd_J6_bitCount_0f7a4 ⟨rfl, rfl⟩ hK hP hD hS hA [] [0, 1, 2, 3, 4, 5, 6, 7, 8, 9, 10, 11] rfl rfl 0 rfl (w2 := [oX7 q_t Q_t, oX8 (Q_t 0) Q_t_one, la g (Q_t_one 0) 8 v_5.1, la g (Q_t_one 1) 8 v_5.2, oX4 q_a1 Q_a1 (F_a1 0 0) (F_a1 1 0) (F_a1 2 0), ia g (Q_a1 3) 8 (F_a1 3), ia g (Q_a1 5) 10 (F_a1 5), ia g (Q_a1 6) 10 (F_a1 6), ia g (Q_a1 7) 10 (F_a1 7), ia g (Q_a1 8) 10 (F_a1 8), oX0 q_a2 Q_a2 (F_a2 0 0) (F_a2 1 0), ia g (Q_a2 3) 10 (F_a2 3)]) rfl rfl (As := [.int x9]) (rest := []) rfl hl.1 rfl rfl dX7_fewestGates_109 (fun H locs hP hD hS => ?_)
            refine lv_istore (lv' := [(7, .int v_9), (6, .int x9), (10, .int v_6), (0, .ref q_t), (1, .ref q_a1), (2, .ref q_a2), (4, .int x4), (5, .int x5), (8, .int x8), (9, .int x9)]) hx hb dX7_fewestGates_112 hl (by decide) rfl (fun ls hl => ?_)
            refine lv_iinc (v := (x9 + (1 : Int32))) (lv' := [(9, .int (x9 + (1 : Int32))), (7, .int v_9), (6, .int x9), (10, .int v_6), (0, .ref q_t), (1, .ref q_a1), (2, .ref q_a2), (4, .int x4), (5, .int x5), (8, .int x8)]) hx hb dX7_fewestGates_114 hl (k := 9) rfl rfl (by decide) rfl (fun ls hl => ?_)
            refine lv_goto (tgt := 24) hx hb dX7_fewestGates_117 (by decide) ?_
            obtain rfl := Option.some.inj h
            exact hc _ rfl H locs ls hP hD hS (lv_sub hl [4, 5, 6, 7, 8, 2, 1, 9, 0] rfl)
def x_X7_fewestGates_k19 (N : Nat) (L_t_one : SL) (F_a1 : St) (F_a2 : St) (x4 : Int32) (x5 : Int32) (x6 : Int32) (x7 : Int32) (s0 : Int32) : Option (Int32 × (Nat → Int64) × (Nat → Int64)) :=
  Option.bind (lpc (fun (z : Int32 × Int32 × Int32 × (Nat → Int64) × (Nat → Int64)) => x_X7_fewestGates_b24 N (va_up (va_up L_t_one 0 z.2.2.2.1) 1 z.2.2.2.2) F_a1 F_a2 x4 x5 z.1 z.2.1 s0 z.2.2.1) N (x6, x7, (0 : Int32), (L_t_one 0), (L_t_one 1))) (fun v_10 => some (v_10.1, v_10.2.1, v_10.2.2))
set_option maxHeartbeats 4000000 in
set_option maxRecDepth 100000 in
theorem t_X7_fewestGates_k19 {p : Program} {l : Launch} {e : Env} {s : State} {m : MethodId} {args : Array Value} {below : List Frame} {meth : Method} {c : Code} {g : gG} {A : Nat → Prop} (E : En p s m args meth c g A cX7_fewestGates 11 (.code yX7_fewestGates cX7_fewestGates 11 (some .int) :: gW) RX7 (some .int)) (q_t : Nat) (Q_t : Ad) (Q_t_one : Ad) (q_a1 : Nat) (Q_a1 : Ad) (q_a2 : Nat) (Q_a2 : Ad) (N : Nat) (L_t_one : SL) (F_a1 : St) (F_a2 : St) (x4 : Int32) (x5 : Int32) (x6 : Int32) (x7 : Int32) (s0 : Int32) (o : Int32 × (Nat → Int64) × (Nat → Int64)) (h : x_X7_fewestGates_k19 N L_t_one F_a1 F_a2 x4 x5 x6 x7 s0 = some o) : WA p l e (rM 3 70) s m args below meth c g A (MQ below (QI g A o.1 [oX7 q_t Q_t, oX8 (Q_t 0) Q_t_one, la g (Q_t_one 0) 8 o.2.1, la g (Q_t_one 1) 8 o.2.2, oX4 q_a1 Q_a1 (F_a1 0 0) (F_a1 1 0) (F_a1 2 0), ia g (Q_a1 3) 8 (F_a1 3), ia g (Q_a1 5) 10 (F_a1 5), ia g (Q_a1 6) 10 (F_a1 6), ia g (Q_a1 7) 10 (F_a1 7), ia g (Q_a1 8) 10 (F_a1 8), oX0 q_a2 Q_a2 (F_a2 0 0) (F_a2 1 0), ia g (Q_a2 3) 10 (F_a2 3)]) args s 0 0 A) 11 19 [oX7 q_t Q_t, oX8 (Q_t 0) Q_t_one, la g (Q_t_one 0) 8 (L_t_one 0), la g (Q_t_one 1) 8 (L_t_one 1), oX4 q_a1 Q_a1 (F_a1 0 0) (F_a1 1 0) (F_a1 2 0), ia g (Q_a1 3) 8 (F_a1 3), ia g (Q_a1 5) 10 (F_a1 5), ia g (Q_a1 6) 10 (F_a1 6), ia g (Q_a1 7) 10 (F_a1 7), ia g (Q_a1 8) 10 (F_a1 8), oX0 q_a2 Q_a2 (F_a2 0 0) (F_a2 1 0), ia g (Q_a2 3) 10 (F_a2 3)] [(0, .ref q_t), (1, .ref q_a1), (2, .ref q_a2), (4, .int x4), (5, .int x5), (6, .int x6), (7, .int x7)] [.int s0] := by
  obtain ⟨⟨hx, hb, hml, hown, hts⟩, hr, hK, hA, hlk⟩ := id E
  intro H locs ls hP hD hS hl
  refine lv_istore (lv' := [(8, .int s0), (0, .ref q_t), (1, .ref q_a1), (2, .ref q_a2), (4, .int x4), (5, .int x5), (6, .int x6), (7, .int x7)]) hx hb dX7_fewestGates_19 hl (by decide) rfl (fun ls hl => ?_)
  refine lv_iconst (v := (0 : Int32)) hx hb dX7_fewestGates_21 (by decide) ?_
  refine lv_istore (lv' := [(9, .int (0 : Int32)), (8, .int s0), (0, .ref q_t), (1, .ref q_a1), (2, .ref q_a2), (4, .int x4), (5, .int x5), (6, .int x6), (7, .int x7)]) hx hb dX7_fewestGates_22 hl (by decide) rfl (fun ls hl => ?_)
  obtain ⟨v_10, hv_10, h⟩ := ox_bind h
  refine lpc_W (Wh := fun (z : Int32 × Int32 × Int32 × (Nat → Int64) × (Nat → Int64)) => WA p l e (rM 3 70) s m args below meth c g A (MQ below (QI g A o.1 [oX7 q_t Q_t, oX8 (Q_t 0) Q_t_one, la g (Q_t_one 0) 8 o.2.1, la g (Q_t_one 1) 8 o.2.2, oX4 q_a1 Q_a1 (F_a1 0 0) (F_a1 1 0) (F_a1 2 0), ia g (Q_a1 3) 8 (F_a1 3), ia g (Q_a1 5) 10 (F_a1 5), ia g (Q_a1 6) 10 (F_a1 6), ia g (Q_a1 7) 10 (F_a1 7), ia g (Q_a1 8) 10 (F_a1 8), oX0 q_a2 Q_a2 (F_a2 0 0) (F_a2 1 0), ia g (Q_a2 3) 10 (F_a2 3)]) args s 0 0 A) 11 24 [oX7 q_t Q_t, oX8 (Q_t 0) Q_t_one, la g (Q_t_one 0) 8 z.2.2.2.1, la g (Q_t_one 1) 8 z.2.2.2.2, oX4 q_a1 Q_a1 (F_a1 0 0) (F_a1 1 0) (F_a1 2 0), ia g (Q_a1 3) 8 (F_a1 3), ia g (Q_a1 5) 10 (F_a1 5), ia g (Q_a1 6) 10 (F_a1 6), ia g (Q_a1 7) 10 (F_a1 7), ia g (Q_a1 8) 10 (F_a1 8), oX0 q_a2 Q_a2 (F_a2 0 0) (F_a2 1 0), ia g (Q_a2 3) 10 (F_a2 3)] [(0, .ref q_t), (1, .ref q_a1), (2, .ref q_a2), (4, .int x4), (5, .int x5), (6, .int z.1), (7, .int z.2.1), (8, .int s0), (9, .int z.2.2.1)] []) (We := fun (v : Int32 × (Nat → Int64) × (Nat → Int64)) => WA p l e (rM 3 70) s m args below meth c g A (MQ below (QI g A o.1 [oX7 q_t Q_t, oX8 (Q_t 0) Q_t_one, la g (Q_t_one 0) 8 o.2.1, la g (Q_t_one 1) 8 o.2.2, oX4 q_a1 Q_a1 (F_a1 0 0) (F_a1 1 0) (F_a1 2 0), ia g (Q_a1 3) 8 (F_a1 3), ia g (Q_a1 5) 10 (F_a1 5), ia g (Q_a1 6) 10 (F_a1 6), ia g (Q_a1 7) 10 (F_a1 7), ia g (Q_a1 8) 10 (F_a1 8), oX0 q_a2 Q_a2 (F_a2 0 0) (F_a2 1 0), ia g (Q_a2 3) 10 (F_a2 3)]) args s 0 0 A) 11 120 [oX7 q_t Q_t, oX8 (Q_t 0) Q_t_one, la g (Q_t_one 0) 8 v.2.1, la g (Q_t_one 1) 8 v.2.2, oX4 q_a1 Q_a1 (F_a1 0 0) (F_a1 1 0) (F_a1 2 0), ia g (Q_a1 3) 8 (F_a1 3), ia g (Q_a1 5) 10 (F_a1 5), ia g (Q_a1 6) 10 (F_a1 6), ia g (Q_a1 7) 10 (F_a1 7), ia g (Q_a1 8) 10 (F_a1 8), oX0 q_a2 Q_a2 (F_a2 0 0) (F_a2 1 0), ia g (Q_a2 3) 10 (F_a2 3)] [(6, .int v.1)] []) (fun z r hb hc he => t_X7_fewestGates_b24 E q_t Q_t Q_t_one q_a1 Q_a1 q_a2 Q_a2 N (va_up (va_up L_t_one 0 z.2.2.2.1) 1 z.2.2.2.2) F_a1 F_a2 x4 x5 z.1 z.2.1 s0 z.2.2.1 r hb hc he) N (x6, x7, (0 : Int32), (L_t_one 0), (L_t_one 1)) v_10 hv_10 ?_ H locs ls hP hD hS (lv_sub hl [2, 3, 4, 5, 6, 7, 8, 1, 0] rfl)
  intro H locs ls hP hD hS hl
  refine lv_iload hx hb dX7_fewestGates_120 (lv_at hl 0 rfl) ?_
  obtain rfl := Option.some.inj h
  exact k_iret hx hb hr hlk hP hD hS dX7_fewestGates_122
def x_X7_fewestGates (N : Nat) (L_t_one : SL) (F_a1 : St) (F_a2 : St) (x3 : Int32) (x4 : Int32) (x5 : Int32) : Option (Int32 × (Nat → Int64) × (Nat → Int64)) :=
  if x3 = (-1 : Int32) then (x_X7_fewestGates_k19 N L_t_one F_a1 F_a2 x4 x5 (-1 : Int32) (11 : Int32) (0 : Int32)) else (x_X7_fewestGates_k19 N L_t_one F_a1 F_a2 x4 x5 (-1 : Int32) (11 : Int32) ((1 : Int32) <<< (x3 &&& 31)))
set_option maxHeartbeats 4000000 in
set_option maxRecDepth 100000 in
theorem t_X7_fewestGates {p : Program} {l : Launch} {e : Env} {s : State} {m : MethodId} {args : Array Value} {below : List Frame} {meth : Method} {c : Code} {g : gG} {A : Nat → Prop} (E : En p s m args meth c g A cX7_fewestGates 11 (.code yX7_fewestGates cX7_fewestGates 11 (some .int) :: gW) RX7 (some .int)) (q_t : Nat) (Q_t : Ad) (Q_t_one : Ad) (q_a1 : Nat) (Q_a1 : Ad) (q_a2 : Nat) (Q_a2 : Ad) (N : Nat) (L_t_one : SL) (F_a1 : St) (F_a2 : St) (x3 : Int32) (x4 : Int32) (x5 : Int32) (o : Int32 × (Nat → Int64) × (Nat → Int64)) (h : x_X7_fewestGates N L_t_one F_a1 F_a2 x3 x4 x5 = some o) : WA p l e (rM 3 70) s m args below meth c g A (MQ below (QI g A o.1 [oX7 q_t Q_t, oX8 (Q_t 0) Q_t_one, la g (Q_t_one 0) 8 o.2.1, la g (Q_t_one 1) 8 o.2.2, oX4 q_a1 Q_a1 (F_a1 0 0) (F_a1 1 0) (F_a1 2 0), ia g (Q_a1 3) 8 (F_a1 3), ia g (Q_a1 5) 10 (F_a1 5), ia g (Q_a1 6) 10 (F_a1 6), ia g (Q_a1 7) 10 (F_a1 7), ia g (Q_a1 8) 10 (F_a1 8), oX0 q_a2 Q_a2 (F_a2 0 0) (F_a2 1 0), ia g (Q_a2 3) 10 (F_a2 3)]) args s 0 0 A) 11 0 [oX7 q_t Q_t, oX8 (Q_t 0) Q_t_one, la g (Q_t_one 0) 8 (L_t_one 0), la g (Q_t_one 1) 8 (L_t_one 1), oX4 q_a1 Q_a1 (F_a1 0 0) (F_a1 1 0) (F_a1 2 0), ia g (Q_a1 3) 8 (F_a1 3), ia g (Q_a1 5) 10 (F_a1 5), ia g (Q_a1 6) 10 (F_a1 6), ia g (Q_a1 7) 10 (F_a1 7), ia g (Q_a1 8) 10 (F_a1 8), oX0 q_a2 Q_a2 (F_a2 0 0) (F_a2 1 0), ia g (Q_a2 3) 10 (F_a2 3)] [(0, .ref q_t), (1, .ref q_a1), (2, .ref q_a2), (3, .int x3), (4, .int x4), (5, .int x5)] [] := by
  obtain ⟨⟨hx, hb, hml, hown, hts⟩, hr, hK, hA, hlk⟩ := id E
  intro H locs ls hP hD hS hl
  refine lv_iconst (v := (-1 : Int32)) hx hb dX7_fewestGates_0 (by decide) ?_
  refine lv_istore (lv' := [(6, .int (-1 : Int32)), (0, .ref q_t), (1, .ref q_a1), (2, .ref q_a2), (3, .int x3), (4, .int x4), (5, .int x5)]) hx hb dX7_fewestGates_1 hl (by decide) rfl (fun ls hl => ?_)
  refine lv_bipush (v := (11 : Int32)) hx hb dX7_fewestGates_3 (by decide) ?_
  refine lv_istore (lv' := [(7, .int (11 : Int32)), (6, .int (-1 : Int32)), (0, .ref q_t), (1, .ref q_a1), (2, .ref q_a2), (3, .int x3), (4, .int x4), (5, .int x5)]) hx hb dX7_fewestGates_5 hl (by decide) rfl (fun ls hl => ?_)
  refine lv_iload_n hx hb dX7_fewestGates_7 rfl (lv_at hl 5 rfl) ?_
  refine lv_iconst (v := (-1 : Int32)) hx hb dX7_fewestGates_8 (by decide) ?_
  refine lv_icmp_ne (tgt := 16) hx hb dX7_fewestGates_9 (by decide) (fun c_11 => ?_) (fun c_11 => ?_)
  · have h := ox_f c_11 h
    refine lv_iconst (v := (1 : Int32)) hx hb dX7_fewestGates_16 (by decide) ?_
    refine lv_iload_n hx hb dX7_fewestGates_17 rfl (lv_at hl 5 rfl) ?_
    refine lv_ishl hx hb dX7_fewestGates_18 ?_
    exact t_X7_fewestGates_k19 E q_t Q_t Q_t_one q_a1 Q_a1 q_a2 Q_a2 N L_t_one F_a1 F_a2 x4 x5 (-1 : Int32) (11 : Int32) ((1 : Int32) <<< (x3 &&& 31)) _ h H locs ls hP hD hS (lv_sub hl [2, 3, 4, 6, 7, 1, 0] rfl)
  · have h := ox_t c_11 h
    refine lv_iconst (v := (0 : Int32)) hx hb dX7_fewestGates_12 (by decide) ?_
    refine lv_goto (tgt := 19) hx hb dX7_fewestGates_13 (by decide) ?_
    exact t_X7_fewestGates_k19 E q_t Q_t Q_t_one q_a1 Q_a1 q_a2 Q_a2 N L_t_one F_a1 F_a2 x4 x5 (-1 : Int32) (11 : Int32) (0 : Int32) _ h H locs ls hP hD hS (lv_sub hl [2, 3, 4, 6, 7, 1, 0] rfl)
set_option maxRecDepth 100000 in
theorem c_X7_fewestGates (l : Launch) (g : gG) (q_t : Nat) (Q_t : Ad) (Q_t_one : Ad) (q_a1 : Nat) (Q_a1 : Ad) (q_a2 : Nat) (Q_a2 : Ad) (N : Nat) (L_t_one : SL) (F_a1 : St) (F_a2 : St) (x3 : Int32) (x4 : Int32) (x5 : Int32) (o : Int32 × (Nat → Int64) × (Nat → Int64)) (h : x_X7_fewestGates N L_t_one F_a1 F_a2 x3 x4 x5 = some o) (sz : Nat) : MetI l yX7_fewestGates (.code yX7_fewestGates cX7_fewestGates 11 (some .int) :: gW) 3 70 [.ref q_t, .ref q_a1, .ref q_a2, .int x3, .int x4, .int x5] o.1 g [oX7 q_t Q_t, oX8 (Q_t 0) Q_t_one, la g (Q_t_one 0) 8 (L_t_one 0), la g (Q_t_one 1) 8 (L_t_one 1), oX4 q_a1 Q_a1 (F_a1 0 0) (F_a1 1 0) (F_a1 2 0), ia g (Q_a1 3) 8 (F_a1 3), ia g (Q_a1 5) 10 (F_a1 5), ia g (Q_a1 6) 10 (F_a1 6), ia g (Q_a1 7) 10 (F_a1 7), ia g (Q_a1 8) 10 (F_a1 8), oX0 q_a2 Q_a2 (F_a2 0 0) (F_a2 1 0), ia g (Q_a2 3) 10 (F_a2 3)] [oX7 q_t Q_t, oX8 (Q_t 0) Q_t_one, la g (Q_t_one 0) 8 o.2.1, la g (Q_t_one 1) 8 o.2.2, oX4 q_a1 Q_a1 (F_a1 0 0) (F_a1 1 0) (F_a1 2 0), ia g (Q_a1 3) 8 (F_a1 3), ia g (Q_a1 5) 10 (F_a1 5), ia g (Q_a1 6) 10 (F_a1 6), ia g (Q_a1 7) 10 (F_a1 7), ia g (Q_a1 8) 10 (F_a1 8), oX0 q_a2 Q_a2 (F_a2 0 0) (F_a2 1 0), ia g (Q_a2 3) 10 (F_a2 3)] sz :=
  mkI (av := [.ref q_t, .ref q_a1, .ref q_a2, .int x3, .int x4, .int x5]) (by decide +kernel) rfl (fun p e s m below meth c A E H locs ls hP hD hS hl => t_X7_fewestGates E q_t Q_t Q_t_one q_a1 Q_a1 q_a2 Q_a2 N L_t_one F_a1 F_a2 x3 x4 x5 o h H locs ls hP hD hS hl) sz
def x_X7_meetingHour_b41 (N : Nat) (L_t_one : SL) (L_t_other : SL) (F_a1 : St) (F_a2 : St) (x5 : Int32) (x6 : Int64) (x8 : Int32) : Option ((Int64 × Int32) ⊕ (Int64)) :=
  if (F_a1 1 0) ≤ x8 then (some (.inr x6)) else (if x8 < 0 ∨ 8 ≤ x8.toNatClampNeg then none else if x8 < 0 ∨ 8 ≤ x8.toNatClampNeg then none else xl (x6 ||| (((L_t_one 0) x8.toNatClampNeg) &&& (((L_t_other 0) x8.toNatClampNeg) <<< (x5.toInt64 &&& 63)))) (fun y_6 => some (.inl (y_6, (x8 + (1 : Int32))))))
set_option maxHeartbeats 4000000 in
set_option maxRecDepth 100000 in
theorem t_X7_meetingHour_b41 {p : Program} {l : Launch} {e : Env} {s : State} {m : MethodId} {args : Array Value} {below : List Frame} {meth : Method} {c : Code} {g : gG} {A : Nat → Prop} {Q : State → Prop} (E : En p s m args meth c g A cX7_meetingHour 9 (.code yX7_meetingHour cX7_meetingHour 9 (some .int) :: gW) RX7 (some .int)) (q_t : Nat) (Q_t : Ad) (Q_t_one : Ad) (Q_t_other : Ad) (q_a1 : Nat) (Q_a1 : Ad) (q_a2 : Nat) (Q_a2 : Ad) (N : Nat) (L_t_one : SL) (L_t_other : SL) (F_a1 : St) (F_a2 : St) (x5 : Int32) (x6 : Int64) (x8 : Int32) (o : (Int64 × Int32) ⊕ (Int64)) (h : x_X7_meetingHour_b41 N L_t_one L_t_other F_a1 F_a2 x5 x6 x8 = some o) (hc : ∀ z, o = .inl z → WA p l e (rM 3 70) s m args below meth c g A Q 9 41 [oX7 q_t Q_t, oX8 (Q_t 0) Q_t_one, la g (Q_t_one 0) 8 (L_t_one 0), la g (Q_t_one 1) 8 (L_t_one 1), oX8 (Q_t 1) Q_t_other, la g (Q_t_other 0) 8 (L_t_other 0), la g (Q_t_other 1) 8 (L_t_other 1), oX4 q_a1 Q_a1 (F_a1 0 0) (F_a1 1 0) (F_a1 2 0), ia g (Q_a1 3) 8 (F_a1 3), ia g (Q_a1 5) 10 (F_a1 5), ia g (Q_a1 6) 10 (F_a1 6), ia g (Q_a1 7) 10 (F_a1 7), ia g (Q_a1 8) 10 (F_a1 8), oX0 q_a2 Q_a2 (F_a2 0 0) (F_a2 1 0), ia g (Q_a2 3) 10 (F_a2 3)] [(0, .ref q_t), (1, .ref q_a1), (5, .int x5), (6, .long z.1), (8, .int z.2)] []) (he : ∀ v, o = .inr v → WA p l e (rM 3 70) s m args below meth c g A Q 9 85 [oX7 q_t Q_t, oX8 (Q_t 0) Q_t_one, la g (Q_t_one 0) 8 (L_t_one 0), la g (Q_t_one 1) 8 (L_t_one 1), oX8 (Q_t 1) Q_t_other, la g (Q_t_other 0) 8 (L_t_other 0), la g (Q_t_other 1) 8 (L_t_other 1), oX4 q_a1 Q_a1 (F_a1 0 0) (F_a1 1 0) (F_a1 2 0), ia g (Q_a1 3) 8 (F_a1 3), ia g (Q_a1 5) 10 (F_a1 5), ia g (Q_a1 6) 10 (F_a1 6), ia g (Q_a1 7) 10 (F_a1 7), ia g (Q_a1 8) 10 (F_a1 8), oX0 q_a2 Q_a2 (F_a2 0 0) (F_a2 1 0), ia g (Q_a2 3) 10 (F_a2 3)] [(6, .long v)] []) : WA p l e (rM 3 70) s m args below meth c g A Q 9 41 [oX7 q_t Q_t, oX8 (Q_t 0) Q_t_one, la g (Q_t_one 0) 8 (L_t_one 0), la g (Q_t_one 1) 8 (L_t_one 1), oX8 (Q_t 1) Q_t_other, la g (Q_t_other 0) 8 (L_t_other 0), la g (Q_t_other 1) 8 (L_t_other 1), oX4 q_a1 Q_a1 (F_a1 0 0) (F_a1 1 0) (F_a1 2 0), ia g (Q_a1 3) 8 (F_a1 3), ia g (Q_a1 5) 10 (F_a1 5), ia g (Q_a1 6) 10 (F_a1 6), ia g (Q_a1 7) 10 (F_a1 7), ia g (Q_a1 8) 10 (F_a1 8), oX0 q_a2 Q_a2 (F_a2 0 0) (F_a2 1 0), ia g (Q_a2 3) 10 (F_a2 3)] [(0, .ref q_t), (1, .ref q_a1), (5, .int x5), (6, .long x6), (8, .int x8)] [] := by
  obtain ⟨⟨hx, hb, hml, hown, hts⟩, hr, hK, hA, hlk⟩ := id E
  intro H locs ls hP hD hS hl
  refine lv_iload hx hb dX7_meetingHour_41 (lv_at hl 4 rfl) ?_
  refine lv_aload_n hx hb dX7_meetingHour_43 rfl (lv_at hl 1 rfl) ?_
  refine va_get (ci := 4) (v := .int (F_a1 1 0)) (C := RX4) (T := TX4) (N := 9) hx hb hts (fun w h => .tail _ (u_inX4 w h)) hown hK.1 hP 7 rfl rfl 1 (by decide) (hts _ (.tail _ u_fl_X7_56)) (fun _ h9 => h9) rfl dX7_meetingHour_44 ?_
  refine lv_icmp_ge (tgt := 85) hx hb dX7_meetingHour_47 (by decide) (fun c_3 => ?_) (fun c_3 => ?_)
  · have h := ox_t c_3 h
    obtain rfl := Option.some.inj h
    exact he _ rfl H locs ls hP hD hS (lv_sub hl [3] rfl)
  · have h := ox_f c_3 h
    refine lv_lload hx hb dX7_meetingHour_50 (lv_at hl 3 rfl) ?_
    refine lv_aload_n hx hb dX7_meetingHour_52 rfl (lv_at hl 0 rfl) ?_
    refine va_get (ci := 7) (v := .ref (Q_t 0)) (C := RX7) (T := TX7) (N := 4) hx hb hts (fun w h => .tail _ (u_inX7 w h)) hown hK.1 hP 0 rfl rfl 0 (by decide) (hts _ (.tail _ u_fl_X7_12)) (fun _ h9 => h9) rfl dX7_meetingHour_53 ?_
    refine va_get (ci := 8) (v := .ref (Q_t_one 0)) (C := RX8) (T := TX8) (N := 2) hx hb hts (fun w h => .tail _ (u_inX8 w h)) hown hK.1 hP 1 rfl rfl 0 (by decide) (hts _ (.tail _ u_fl_X7_59)) (fun _ h9 => h9) rfl dX7_meetingHour_56 ?_
    refine lv_iload hx hb dX7_meetingHour_59 (lv_at hl 4 rfl) ?_
    obtain ⟨hi_4, h⟩ := ox_chk h
    refine va_lald hx hb hK.1 hP 2 1 rfl rfl hi_4 dX7_meetingHour_61 ?_
    refine lv_aload_n hx hb dX7_meetingHour_62 rfl (lv_at hl 0 rfl) ?_
    refine va_get (ci := 7) (v := .ref (Q_t 1)) (C := RX7) (T := TX7) (N := 4) hx hb hts (fun w h => .tail _ (u_inX7 w h)) hown hK.1 hP 0 rfl rfl 1 (by decide) (hts _ (.tail _ u_fl_X7_18)) (fun _ h9 => h9) rfl dX7_meetingHour_63 ?_
    refine va_get (ci := 8) (v := .ref (Q_t_other 0)) (C := RX8) (T := TX8) (N := 2) hx hb hts (fun w h => .tail _ (u_inX8 w h)) hown hK.1 hP 4 rfl rfl 0 (by decide) (hts _ (.tail _ u_fl_X7_59)) (fun _ h9 => h9) rfl dX7_meetingHour_66 ?_
    refine lv_iload hx hb dX7_meetingHour_69 (lv_at hl 4 rfl) ?_
    obtain ⟨hi_5, h⟩ := ox_chk h
    refine va_lald hx hb hK.1 hP 5 1 rfl rfl hi_5 dX7_meetingHour_71 ?_
    refine lv_iload hx hb dX7_meetingHour_72 (lv_at hl 2 rfl) ?_
    refine lv_lshl (v := (((L_t_other 0) x8.toNatClampNeg) <<< (x5.toInt64 &&& 63))) hx hb dX7_meetingHour_74 rfl ?_
    refine lv_land hx hb dX7_meetingHour_75 ?_
    refine lv_lor hx hb dX7_meetingHour_76 ?_
    refine lv_topl (fun y_6 ey_6 => ?_)
    have h := xl_at ey_6 h
    refine lv_lstore (lv' := [(6, .long y_6), (0, .ref q_t), (1, .ref q_a1), (5, .int x5), (8, .int x8)]) hx hb dX7_meetingHour_77 hl (by decide) rfl (fun ls hl => ?_)
    refine lv_iinc (v := (x8 + (1 : Int32))) (lv' := [(8, .int (x8 + (1 : Int32))), (6, .long y_6), (0, .ref q_t), (1, .ref q_a1), (5, .int x5)]) hx hb dX7_meetingHour_79 hl (k := 4) rfl rfl (by decide) rfl (fun ls hl => ?_)
    refine lv_goto (tgt := 41) hx hb dX7_meetingHour_82 (by decide) ?_
    obtain rfl := Option.some.inj h
    exact hc _ rfl H locs ls hP hD hS (lv_sub hl [2, 3, 4, 1, 0] rfl)
def x_X7_meetingHour (N : Nat) (L_t_one : SL) (L_t_other : SL) (F_a1 : St) (F_a2 : St) (x3 : Int32) (x4 : Int32) (x5 : Int32) : Option (Int32 × (Nat → Int64) × (Nat → Int64) × (Nat → Int64) × (Nat → Int64)) :=
  Option.bind (x_X8_run N L_t_one F_a1 (F_a2 3) x3 (F_a2 1 0)) (fun v_1 => Option.bind (x_X8_run N L_t_other F_a1 (F_a2 3) x4 (F_a2 1 0)) (fun v_2 => Option.bind (lpc (fun (z : Int64 × Int32) => x_X7_meetingHour_b41 N (va_up (va_up L_t_one 0 v_1.1) 1 v_1.2) (va_up (va_up L_t_other 0 v_2.1) 1 v_2.2) F_a1 F_a2 x5 z.1 z.2) N ((0 : Int64), (0 : Int32))) (fun v_7 => if (lg_cmp v_7 (0 : Int64)) = 0 then (some ((-1 : Int32), v_1.1, v_1.2, v_2.1, v_2.2)) else (Option.bind (x_J13_numberOfTrailingZeros_95d88 v_7) (fun v_9 => some (v_9, v_1.1, v_1.2, v_2.1, v_2.2))))))
set_option maxHeartbeats 4000000 in
set_option maxRecDepth 100000 in
theorem t_X7_meetingHour {p : Program} {l : Launch} {e : Env} {s : State} {m : MethodId} {args : Array Value} {below : List Frame} {meth : Method} {c : Code} {g : gG} {A : Nat → Prop} (E : En p s m args meth c g A cX7_meetingHour 9 (.code yX7_meetingHour cX7_meetingHour 9 (some .int) :: gW) RX7 (some .int)) (q_t : Nat) (Q_t : Ad) (Q_t_one : Ad) (Q_t_other : Ad) (q_a1 : Nat) (Q_a1 : Ad) (q_a2 : Nat) (Q_a2 : Ad) (N : Nat) (L_t_one : SL) (L_t_other : SL) (F_a1 : St) (F_a2 : St) (x3 : Int32) (x4 : Int32) (x5 : Int32) (o : Int32 × (Nat → Int64) × (Nat → Int64) × (Nat → Int64) × (Nat → Int64)) (h : x_X7_meetingHour N L_t_one L_t_other F_a1 F_a2 x3 x4 x5 = some o) : WA p l e (rM 3 70) s m args below meth c g A (MQ below (QI g A o.1 [oX7 q_t Q_t, oX8 (Q_t 0) Q_t_one, la g (Q_t_one 0) 8 o.2.1, la g (Q_t_one 1) 8 o.2.2.1, oX8 (Q_t 1) Q_t_other, la g (Q_t_other 0) 8 o.2.2.2.1, la g (Q_t_other 1) 8 o.2.2.2.2, oX4 q_a1 Q_a1 (F_a1 0 0) (F_a1 1 0) (F_a1 2 0), ia g (Q_a1 3) 8 (F_a1 3), ia g (Q_a1 5) 10 (F_a1 5), ia g (Q_a1 6) 10 (F_a1 6), ia g (Q_a1 7) 10 (F_a1 7), ia g (Q_a1 8) 10 (F_a1 8), oX0 q_a2 Q_a2 (F_a2 0 0) (F_a2 1 0), ia g (Q_a2 3) 10 (F_a2 3)]) args s 0 0 A) 9 0 [oX7 q_t Q_t, oX8 (Q_t 0) Q_t_one, la g (Q_t_one 0) 8 (L_t_one 0), la g (Q_t_one 1) 8 (L_t_one 1), oX8 (Q_t 1) Q_t_other, la g (Q_t_other 0) 8 (L_t_other 0), la g (Q_t_other 1) 8 (L_t_other 1), oX4 q_a1 Q_a1 (F_a1 0 0) (F_a1 1 0) (F_a1 2 0), ia g (Q_a1 3) 8 (F_a1 3), ia g (Q_a1 5) 10 (F_a1 5), ia g (Q_a1 6) 10 (F_a1 6), ia g (Q_a1 7) 10 (F_a1 7), ia g (Q_a1 8) 10 (F_a1 8), oX0 q_a2 Q_a2 (F_a2 0 0) (F_a2 1 0), ia g (Q_a2 3) 10 (F_a2 3)] [(0, .ref q_t), (1, .ref q_a1), (2, .ref q_a2), (3, .int x3), (4, .int x4), (5, .int x5)] [] := by
  obtain ⟨⟨hx, hb, hml, hown, hts⟩, hr, hK, hA, hlk⟩ := id E
  intro H locs ls hP hD hS hl
  refine lv_aload_n hx hb dX7_meetingHour_0 rfl (lv_at hl 0 rfl) ?_
  refine va_get (ci := 7) (v := .ref (Q_t 0)) (C := RX7) (T := TX7) (N := 4) hx hb hts (fun w h => .tail _ (u_inX7 w h)) hown hK.1 hP 0 rfl rfl 0 (by decide) (hts _ (.tail _ u_fl_X7_12)) (fun _ h9 => h9) rfl dX7_meetingHour_1 ?_
  refine lv_aload_n hx hb dX7_meetingHour_4 rfl (lv_at hl 1 rfl) ?_
  refine lv_iload_n hx hb dX7_meetingHour_5 rfl (lv_at hl 3 rfl) ?_
  refine lv_aload_n hx hb dX7_meetingHour_6 rfl (lv_at hl 2 rfl) ?_
  refine va_get (ci := 0) (v := .int (F_a2 1 0)) (C := RX0) (T := TX0) (N := 7) hx hb hts (fun w h => .tail _ (u_inX0 w h)) hown hK.1 hP 13 rfl rfl 1 (by decide) (hts _ (.tail _ u_fl_X7_40)) (fun _ h9 => h9) rfl dX7_meetingHour_7 ?_
  refine lv_aload_n hx hb dX7_meetingHour_10 rfl (lv_at hl 2 rfl) ?_
  refine va_get (ci := 0) (v := .ref (Q_a2 3)) (C := RX0) (T := TX0) (N := 7) hx hb hts (fun w h => .tail _ (u_inX0 w h)) hown hK.1 hP 13 rfl rfl 3 (by decide) (hts _ (.tail _ u_fl_X7_45)) (fun _ h9 => h9) rfl dX7_meetingHour_11 ?_
  obtain ⟨v_1, hv_1, h⟩ := ox_bind h
  refine kVv ⟨hx, hb, hml, hown, hts⟩ (c_X8_run l g (Q_t 0) Q_t_one q_a1 Q_a1 (Q_a2 3) N L_t_one F_a1 (F_a2 3) x3 (F_a2 1 0) v_1 hv_1 H.size) (gV u_ml_X7_48 u_im_X8_run u_se_X8_run u_ini_X8 u_co_X8_run) hd_X8_run ⟨rfl, rfl⟩ hK hP hD hS hA 1 8 rfl rfl [1, 2, 3, 7, 8, 9, 10, 11, 12, 14] [10, 0, 1, 2, 14, 15, 16, 3, 4, 5, 6, 7, 8, 23, 9] rfl rfl 10 rfl (w2 := [oX7 q_t Q_t, oX8 (Q_t 0) Q_t_one, la g (Q_t_one 0) 8 v_1.1, la g (Q_t_one 1) 8 v_1.2, oX8 (Q_t 1) Q_t_other, la g (Q_t_other 0) 8 (L_t_other 0), la g (Q_t_other 1) 8 (L_t_other 1), oX4 q_a1 Q_a1 (F_a1 0 0) (F_a1 1 0) (F_a1 2 0), ia g (Q_a1 3) 8 (F_a1 3), ia g (Q_a1 5) 10 (F_a1 5), ia g (Q_a1 6) 10 (F_a1 6), ia g (Q_a1 7) 10 (F_a1 7), ia g (Q_a1 8) 10 (F_a1 8), oX0 q_a2 Q_a2 (F_a2 0 0) (F_a2 1 0), ia g (Q_a2 3) 10 (F_a2 3)]) rfl rfl (As := [.ref q_a1, .int x3, .int (F_a2 1 0), .ref (Q_a2 3)]) (rest := []) rfl hl.1 rfl rfl dX7_meetingHour_14 (fun H locs hP hD hS => ?_)
  refine lv_aload_n hx hb dX7_meetingHour_17 rfl (lv_at hl 0 rfl) ?_
  refine va_get (ci := 7) (v := .ref (Q_t 1)) (C := RX7) (T := TX7) (N := 4) hx hb hts (fun w h => .tail _ (u_inX7 w h)) hown hK.1 hP 0 rfl rfl 1 (by decide) (hts _ (.tail _ u_fl_X7_18)) (fun _ h9 => h9) rfl dX7_meetingHour_18 ?_
  refine lv_aload_n hx hb dX7_meetingHour_21 rfl (lv_at hl 1 rfl) ?_
  refine lv_iload hx hb dX7_meetingHour_22 (lv_at hl 4 rfl) ?_
  refine lv_aload_n hx hb dX7_meetingHour_24 rfl (lv_at hl 2 rfl) ?_
  refine va_get (ci := 0) (v := .int (F_a2 1 0)) (C := RX0) (T := TX0) (N := 7) hx hb hts (fun w h => .tail _ (u_inX0 w h)) hown hK.1 hP 13 rfl rfl 1 (by decide) (hts _ (.tail _ u_fl_X7_40)) (fun _ h9 => h9) rfl dX7_meetingHour_25 ?_
  refine lv_aload_n hx hb dX7_meetingHour_28 rfl (lv_at hl 2 rfl) ?_
  refine va_get (ci := 0) (v := .ref (Q_a2 3)) (C := RX0) (T := TX0) (N := 7) hx hb hts (fun w h => .tail _ (u_inX0 w h)) hown hK.1 hP 13 rfl rfl 3 (by decide) (hts _ (.tail _ u_fl_X7_45)) (fun _ h9 => h9) rfl dX7_meetingHour_29 ?_
  obtain ⟨v_2, hv_2, h⟩ := ox_bind h
  refine kVv ⟨hx, hb, hml, hown, hts⟩ (c_X8_run l g (Q_t 1) Q_t_other q_a1 Q_a1 (Q_a2 3) N L_t_other F_a1 (F_a2 3) x4 (F_a2 1 0) v_2 hv_2 H.size) (gV u_ml_X7_48 u_im_X8_run u_se_X8_run u_ini_X8 u_co_X8_run) hd_X8_run ⟨rfl, rfl⟩ hK hP hD hS hA 4 8 rfl rfl [4, 5, 6, 7, 8, 9, 10, 11, 12, 14] [10, 11, 12, 13, 0, 1, 2, 3, 4, 5, 6, 7, 8, 23, 9] rfl rfl 10 rfl (w2 := [oX7 q_t Q_t, oX8 (Q_t 0) Q_t_one, la g (Q_t_one 0) 8 v_1.1, la g (Q_t_one 1) 8 v_1.2, oX8 (Q_t 1) Q_t_other, la g (Q_t_other 0) 8 v_2.1, la g (Q_t_other 1) 8 v_2.2, oX4 q_a1 Q_a1 (F_a1 0 0) (F_a1 1 0) (F_a1 2 0), ia g (Q_a1 3) 8 (F_a1 3), ia g (Q_a1 5) 10 (F_a1 5), ia g (Q_a1 6) 10 (F_a1 6), ia g (Q_a1 7) 10 (F_a1 7), ia g (Q_a1 8) 10 (F_a1 8), oX0 q_a2 Q_a2 (F_a2 0 0) (F_a2 1 0), ia g (Q_a2 3) 10 (F_a2 3)]) rfl rfl (As := [.ref q_a1, .int x4, .int (F_a2 1 0), .ref (Q_a2 3)]) (rest := []) rfl hl.1 rfl rfl dX7_meetingHour_32 (fun H locs hP hD hS => ?_)
  refine lv_lconst (v := (0 : Int64)) hx hb dX7_meetingHour_35 (by decide) ?_
  refine lv_lstore (lv' := [(6, .long (0 : Int64)), (0, .ref q_t), (1, .ref q_a1), (2, .ref q_a2), (3, .int x3), (4, .int x4), (5, .int x5)]) hx hb dX7_meetingHour_36 hl (by decide) rfl (fun ls hl => ?_)
  refine lv_iconst (v := (0 : Int32)) hx hb dX7_meetingHour_38 (by decide) ?_
  refine lv_istore (lv' := [(8, .int (0 : Int32)), (6, .long (0 : Int64)), (0, .ref q_t), (1, .ref q_a1), (2, .ref q_a2), (3, .int x3), (4, .int x4), (5, .int x5)]) hx hb dX7_meetingHour_39 hl (by decide) rfl (fun ls hl => ?_)
  obtain ⟨v_7, hv_7, h⟩ := ox_bind h
  refine lpc_W (Wh := fun (z : Int64 × Int32) => WA p l e (rM 3 70) s m args below meth c g A (MQ below (QI g A o.1 [oX7 q_t Q_t, oX8 (Q_t 0) Q_t_one, la g (Q_t_one 0) 8 o.2.1, la g (Q_t_one 1) 8 o.2.2.1, oX8 (Q_t 1) Q_t_other, la g (Q_t_other 0) 8 o.2.2.2.1, la g (Q_t_other 1) 8 o.2.2.2.2, oX4 q_a1 Q_a1 (F_a1 0 0) (F_a1 1 0) (F_a1 2 0), ia g (Q_a1 3) 8 (F_a1 3), ia g (Q_a1 5) 10 (F_a1 5), ia g (Q_a1 6) 10 (F_a1 6), ia g (Q_a1 7) 10 (F_a1 7), ia g (Q_a1 8) 10 (F_a1 8), oX0 q_a2 Q_a2 (F_a2 0 0) (F_a2 1 0), ia g (Q_a2 3) 10 (F_a2 3)]) args s 0 0 A) 9 41 [oX7 q_t Q_t, oX8 (Q_t 0) Q_t_one, la g (Q_t_one 0) 8 v_1.1, la g (Q_t_one 1) 8 v_1.2, oX8 (Q_t 1) Q_t_other, la g (Q_t_other 0) 8 v_2.1, la g (Q_t_other 1) 8 v_2.2, oX4 q_a1 Q_a1 (F_a1 0 0) (F_a1 1 0) (F_a1 2 0), ia g (Q_a1 3) 8 (F_a1 3), ia g (Q_a1 5) 10 (F_a1 5), ia g (Q_a1 6) 10 (F_a1 6), ia g (Q_a1 7) 10 (F_a1 7), ia g (Q_a1 8) 10 (F_a1 8), oX0 q_a2 Q_a2 (F_a2 0 0) (F_a2 1 0), ia g (Q_a2 3) 10 (F_a2 3)] [(0, .ref q_t), (1, .ref q_a1), (5, .int x5), (6, .long z.1), (8, .int z.2)] []) (We := fun (v : Int64) => WA p l e (rM 3 70) s m args below meth c g A (MQ below (QI g A o.1 [oX7 q_t Q_t, oX8 (Q_t 0) Q_t_one, la g (Q_t_one 0) 8 o.2.1, la g (Q_t_one 1) 8 o.2.2.1, oX8 (Q_t 1) Q_t_other, la g (Q_t_other 0) 8 o.2.2.2.1, la g (Q_t_other 1) 8 o.2.2.2.2, oX4 q_a1 Q_a1 (F_a1 0 0) (F_a1 1 0) (F_a1 2 0), ia g (Q_a1 3) 8 (F_a1 3), ia g (Q_a1 5) 10 (F_a1 5), ia g (Q_a1 6) 10 (F_a1 6), ia g (Q_a1 7) 10 (F_a1 7), ia g (Q_a1 8) 10 (F_a1 8), oX0 q_a2 Q_a2 (F_a2 0 0) (F_a2 1 0), ia g (Q_a2 3) 10 (F_a2 3)]) args s 0 0 A) 9 85 [oX7 q_t Q_t, oX8 (Q_t 0) Q_t_one, la g (Q_t_one 0) 8 v_1.1, la g (Q_t_one 1) 8 v_1.2, oX8 (Q_t 1) Q_t_other, la g (Q_t_other 0) 8 v_2.1, la g (Q_t_other 1) 8 v_2.2, oX4 q_a1 Q_a1 (F_a1 0 0) (F_a1 1 0) (F_a1 2 0), ia g (Q_a1 3) 8 (F_a1 3), ia g (Q_a1 5) 10 (F_a1 5), ia g (Q_a1 6) 10 (F_a1 6), ia g (Q_a1 7) 10 (F_a1 7), ia g (Q_a1 8) 10 (F_a1 8), oX0 q_a2 Q_a2 (F_a2 0 0) (F_a2 1 0), ia g (Q_a2 3) 10 (F_a2 3)] [(6, .long v)] []) (fun z r hb hc he => t_X7_meetingHour_b41 E q_t Q_t Q_t_one Q_t_other q_a1 Q_a1 q_a2 Q_a2 N (va_up (va_up L_t_one 0 v_1.1) 1 v_1.2) (va_up (va_up L_t_other 0 v_2.1) 1 v_2.2) F_a1 F_a2 x5 z.1 z.2 r hb hc he) N ((0 : Int64), (0 : Int32)) v_7 hv_7 ?_ H locs ls hP hD hS (lv_sub hl [2, 3, 7, 1, 0] rfl)
  intro H locs ls hP hD hS hl
  refine lv_lload hx hb dX7_meetingHour_85 (lv_at hl 0 rfl) ?_
  refine lv_lconst (v := (0 : Int64)) hx hb dX7_meetingHour_87 (by decide) ?_
  refine W.lcmp hx hb dX7_meetingHour_88 ?_
  refine lv_if_ne (tgt := 96) hx hb dX7_meetingHour_89 (by decide) (fun c_8 => ?_) (fun c_8 => ?_)
  · have h := ox_f c_8 h
    refine lv_lload hx hb dX7_meetingHour_96 (lv_at hl 0 rfl) ?_
    obtain ⟨v_9, hv_9, h⟩ := ox_bind h
    refine kSi ⟨hx, hb, hml, hown, hts⟩ (c_J13_numberOfTrailingZeros_95d88 l g v_7 v_9 hv_9 H.size) (gS u_ml_X7_63 u_st_J13_numberOfTrailingZeros_95d88 u_ini_J13 u_co_J13_numberOfTrailingZeros_95d88) hd_J13_numberOfTrailingZeros_95d88 ⟨rfl, rfl⟩ hK hP hD hS hA [] [0, 1, 2, 3, 4, 5, 6, 7, 8, 9, 10, 11, 12, 13, 14] rfl rfl 0 rfl (w2 := [oX7 q_t Q_t, oX8 (Q_t 0) Q_t_one, la g (Q_t_one 0) 8 v_1.1, la g (Q_t_one 1) 8 v_1.2, oX8 (Q_t 1) Q_t_other, la g (Q_t_other 0) 8 v_2.1, la g (Q_t_other 1) 8 v_2.2, oX4 q_a1 Q_a1 (F_a1 0 0) (F_a1 1 0) (F_a1 2 0), ia g (Q_a1 3) 8 (F_a1 3), ia g (Q_a1 5) 10 (F_a1 5), ia g (Q_a1 6) 10 (F_a1 6), ia g (Q_a1 7) 10 (F_a1 7), ia g (Q_a1 8) 10 (F_a1 8), oX0 q_a2 Q_a2 (F_a2 0 0) (F_a2 1 0), ia g (Q_a2 3) 10 (F_a2 3)]) rfl rfl (As := [.long v_7]) (rest := []) rfl hl.1 rfl rfl dX7_meetingHour_98 (fun H locs hP hD hS => ?_)
    obtain rfl := Option.some.inj h
    exact k_iret hx hb hr hlk hP hD hS dX7_meetingHour_101
  · have h := ox_t c_8 h
    refine lv_iconst (v := (-1 : Int32)) hx hb dX7_meetingHour_92 (by decide) ?_
    refine lv_goto (tgt := 101) hx hb dX7_meetingHour_93 (by decide) ?_
    obtain rfl := Option.some.inj h
    exact k_iret hx hb hr hlk hP hD hS dX7_meetingHour_101
set_option maxRecDepth 100000 in
theorem c_X7_meetingHour (l : Launch) (g : gG) (q_t : Nat) (Q_t : Ad) (Q_t_one : Ad) (Q_t_other : Ad) (q_a1 : Nat) (Q_a1 : Ad) (q_a2 : Nat) (Q_a2 : Ad) (N : Nat) (L_t_one : SL) (L_t_other : SL) (F_a1 : St) (F_a2 : St) (x3 : Int32) (x4 : Int32) (x5 : Int32) (o : Int32 × (Nat → Int64) × (Nat → Int64) × (Nat → Int64) × (Nat → Int64)) (h : x_X7_meetingHour N L_t_one L_t_other F_a1 F_a2 x3 x4 x5 = some o) (sz : Nat) : MetI l yX7_meetingHour (.code yX7_meetingHour cX7_meetingHour 9 (some .int) :: gW) 3 70 [.ref q_t, .ref q_a1, .ref q_a2, .int x3, .int x4, .int x5] o.1 g [oX7 q_t Q_t, oX8 (Q_t 0) Q_t_one, la g (Q_t_one 0) 8 (L_t_one 0), la g (Q_t_one 1) 8 (L_t_one 1), oX8 (Q_t 1) Q_t_other, la g (Q_t_other 0) 8 (L_t_other 0), la g (Q_t_other 1) 8 (L_t_other 1), oX4 q_a1 Q_a1 (F_a1 0 0) (F_a1 1 0) (F_a1 2 0), ia g (Q_a1 3) 8 (F_a1 3), ia g (Q_a1 5) 10 (F_a1 5), ia g (Q_a1 6) 10 (F_a1 6), ia g (Q_a1 7) 10 (F_a1 7), ia g (Q_a1 8) 10 (F_a1 8), oX0 q_a2 Q_a2 (F_a2 0 0) (F_a2 1 0), ia g (Q_a2 3) 10 (F_a2 3)] [oX7 q_t Q_t, oX8 (Q_t 0) Q_t_one, la g (Q_t_one 0) 8 o.2.1, la g (Q_t_one 1) 8 o.2.2.1, oX8 (Q_t 1) Q_t_other, la g (Q_t_other 0) 8 o.2.2.2.1, la g (Q_t_other 1) 8 o.2.2.2.2, oX4 q_a1 Q_a1 (F_a1 0 0) (F_a1 1 0) (F_a1 2 0), ia g (Q_a1 3) 8 (F_a1 3), ia g (Q_a1 5) 10 (F_a1 5), ia g (Q_a1 6) 10 (F_a1 6), ia g (Q_a1 7) 10 (F_a1 7), ia g (Q_a1 8) 10 (F_a1 8), oX0 q_a2 Q_a2 (F_a2 0 0) (F_a2 1 0), ia g (Q_a2 3) 10 (F_a2 3)] sz :=
  mkI (av := [.ref q_t, .ref q_a1, .ref q_a2, .int x3, .int x4, .int x5]) (by decide +kernel) rfl (fun p e s m below meth c A E H locs ls hP hD hS hl => t_X7_meetingHour E q_t Q_t Q_t_one Q_t_other q_a1 Q_a1 q_a2 Q_a2 N L_t_one L_t_other F_a1 F_a2 x3 x4 x5 o h H locs ls hP hD hS hl) sz
def x_X7_fits_b11 (N : Nat) (F_t : St) (L_t_one : SL) (F_a1 : St) (F_a2 : St) (F_a3 : St) (x6 : Int32) : Option ((Int32 × (Nat → Int64) × (Nat → Int64)) ⊕ (((Nat → Int64) × (Nat → Int64)) ⊕ ((Nat → Int64) × (Nat → Int64)))) :=
  if (F_a3 0 0) ≤ x6 then (some (.inr (.inr ((L_t_one 0), (L_t_one 1))))) else (if x6 < 0 ∨ 6 ≤ x6.toNatClampNeg then none else Option.bind (x_X8_run N L_t_one F_a1 (F_t 2) ((F_a3 3) x6.toNatClampNeg) (F_a2 1 0)) (fun v_4 => if x6 < 0 ∨ 6 ≤ x6.toNatClampNeg then none else Option.bind (x_X8_firstHour (va_up (va_up L_t_one 0 v_4.1) 1 v_4.2) ((F_a3 2) x6.toNatClampNeg)) (fun v_6 => if x6 < 0 ∨ 6 ≤ x6.toNatClampNeg then none else if v_6 = ((F_a3 4) x6.toNatClampNeg) then (some (.inl ((x6 + (1 : Int32)), v_4.1, v_4.2))) else (some (.inr (.inl (v_4.1, v_4.2)))))))
set_option maxHeartbeats 4000000 in
set_option maxRecDepth 100000 in
theorem t_X7_fits_b11 {p : Program} {l : Launch} {e : Env} {s : State} {m : MethodId} {args : Array Value} {below : List Frame} {meth : Method} {c : Code} {g : gG} {A : Nat → Prop} {Q : State → Prop} (E : En p s m args meth c g A cX7_fits 7 (.code yX7_fits cX7_fits 7 (some .boolean) :: gW) RX7 (some .boolean)) (q_t : Nat) (Q_t : Ad) (Q_t_one : Ad) (q_a1 : Nat) (Q_a1 : Ad) (q_a2 : Nat) (Q_a2 : Ad) (q_a3 : Nat) (Q_a3 : Ad) (N : Nat) (F_t : St) (L_t_one : SL) (F_a1 : St) (F_a2 : St) (F_a3 : St) (x6 : Int32) (o : (Int32 × (Nat → Int64) × (Nat → Int64)) ⊕ (((Nat → Int64) × (Nat → Int64)) ⊕ ((Nat → Int64) × (Nat → Int64)))) (h : x_X7_fits_b11 N F_t L_t_one F_a1 F_a2 F_a3 x6 = some o) (hc : ∀ z, o = .inl z → WA p l e (rM 3 70) s m args below meth c g A Q 7 11 [oX7 q_t Q_t, ia g (Q_t 2) 10 (F_t 2), oX8 (Q_t 0) Q_t_one, la g (Q_t_one 0) 8 z.2.1, la g (Q_t_one 1) 8 z.2.2, oX4 q_a1 Q_a1 (F_a1 0 0) (F_a1 1 0) (F_a1 2 0), ia g (Q_a1 3) 8 (F_a1 3), ia g (Q_a1 5) 10 (F_a1 5), ia g (Q_a1 6) 10 (F_a1 6), ia g (Q_a1 7) 10 (F_a1 7), ia g (Q_a1 8) 10 (F_a1 8), oX0 q_a2 Q_a2 (F_a2 0 0) (F_a2 1 0), oX2 q_a3 Q_a3 (F_a3 0 0) (F_a3 1 0), ia g (Q_a3 2) 6 (F_a3 2), ia g (Q_a3 3) 6 (F_a3 3), ia g (Q_a3 4) 6 (F_a3 4)] [(0, .ref q_t), (1, .ref q_a1), (2, .ref q_a2), (3, .ref q_a3), (6, .int z.1)] []) (he0 : ∀ v, o = .inr (.inl v) → WA p l e (rM 3 70) s m args below meth c g A Q 7 67 [oX7 q_t Q_t, ia g (Q_t 2) 10 (F_t 2), oX8 (Q_t 0) Q_t_one, la g (Q_t_one 0) 8 v.1, la g (Q_t_one 1) 8 v.2, oX4 q_a1 Q_a1 (F_a1 0 0) (F_a1 1 0) (F_a1 2 0), ia g (Q_a1 3) 8 (F_a1 3), ia g (Q_a1 5) 10 (F_a1 5), ia g (Q_a1 6) 10 (F_a1 6), ia g (Q_a1 7) 10 (F_a1 7), ia g (Q_a1 8) 10 (F_a1 8), oX0 q_a2 Q_a2 (F_a2 0 0) (F_a2 1 0), oX2 q_a3 Q_a3 (F_a3 0 0) (F_a3 1 0), ia g (Q_a3 2) 6 (F_a3 2), ia g (Q_a3 3) 6 (F_a3 3), ia g (Q_a3 4) 6 (F_a3 4)] [] []) (he1 : ∀ v, o = .inr (.inr v) → WA p l e (rM 3 70) s m args below meth c g A Q 7 75 [oX7 q_t Q_t, ia g (Q_t 2) 10 (F_t 2), oX8 (Q_t 0) Q_t_one, la g (Q_t_one 0) 8 v.1, la g (Q_t_one 1) 8 v.2, oX4 q_a1 Q_a1 (F_a1 0 0) (F_a1 1 0) (F_a1 2 0), ia g (Q_a1 3) 8 (F_a1 3), ia g (Q_a1 5) 10 (F_a1 5), ia g (Q_a1 6) 10 (F_a1 6), ia g (Q_a1 7) 10 (F_a1 7), ia g (Q_a1 8) 10 (F_a1 8), oX0 q_a2 Q_a2 (F_a2 0 0) (F_a2 1 0), oX2 q_a3 Q_a3 (F_a3 0 0) (F_a3 1 0), ia g (Q_a3 2) 6 (F_a3 2), ia g (Q_a3 3) 6 (F_a3 3), ia g (Q_a3 4) 6 (F_a3 4)] [] []) : WA p l e (rM 3 70) s m args below meth c g A Q 7 11 [oX7 q_t Q_t, ia g (Q_t 2) 10 (F_t 2), oX8 (Q_t 0) Q_t_one, la g (Q_t_one 0) 8 (L_t_one 0), la g (Q_t_one 1) 8 (L_t_one 1), oX4 q_a1 Q_a1 (F_a1 0 0) (F_a1 1 0) (F_a1 2 0), ia g (Q_a1 3) 8 (F_a1 3), ia g (Q_a1 5) 10 (F_a1 5), ia g (Q_a1 6) 10 (F_a1 6), ia g (Q_a1 7) 10 (F_a1 7), ia g (Q_a1 8) 10 (F_a1 8), oX0 q_a2 Q_a2 (F_a2 0 0) (F_a2 1 0), oX2 q_a3 Q_a3 (F_a3 0 0) (F_a3 1 0), ia g (Q_a3 2) 6 (F_a3 2), ia g (Q_a3 3) 6 (F_a3 3), ia g (Q_a3 4) 6 (F_a3 4)] [(0, .ref q_t), (1, .ref q_a1), (2, .ref q_a2), (3, .ref q_a3), (6, .int x6)] [] := by
  obtain ⟨⟨hx, hb, hml, hown, hts⟩, hr, hK, hA, hlk⟩ := id E
  intro H locs ls hP hD hS hl
  refine lv_iload hx hb dX7_fits_11 (lv_at hl 4 rfl) ?_
  refine lv_aload_n hx hb dX7_fits_13 rfl (lv_at hl 3 rfl) ?_
  refine va_get (ci := 2) (v := .int (F_a3 0 0)) (C := RX2) (T := TX2) (N := 7) hx hb hts (fun w h => .tail _ (u_inX2 w h)) hown hK.1 hP 12 rfl rfl 0 (by decide) (hts _ (.tail _ u_fl_X7_77)) (fun _ h9 => h9) rfl dX7_fits_14 ?_
  refine lv_icmp_ge (tgt := 75) hx hb dX7_fits_17 (by decide) (fun c_2 => ?_) (fun c_2 => ?_)
  · have h := ox_t c_2 h
    obtain rfl := Option.some.inj h
    exact he1 _ rfl H locs ls hP hD hS (lv_sub hl [] rfl)
  · have h := ox_f c_2 h
    refine lv_aload_n hx hb dX7_fits_20 rfl (lv_at hl 0 rfl) ?_
    refine va_get (ci := 7) (v := .ref (Q_t 0)) (C := RX7) (T := TX7) (N := 4) hx hb hts (fun w h => .tail _ (u_inX7 w h)) hown hK.1 hP 0 rfl rfl 0 (by decide) (hts _ (.tail _ u_fl_X7_12)) (fun _ h9 => h9) rfl dX7_fits_21 ?_
    refine lv_aload_n hx hb dX7_fits_24 rfl (lv_at hl 1 rfl) ?_
    refine lv_aload_n hx hb dX7_fits_25 rfl (lv_at hl 3 rfl) ?_
    refine va_get (ci := 2) (v := .ref (Q_a3 3)) (C := RX2) (T := TX2) (N := 7) hx hb hts (fun w h => .tail _ (u_inX2 w h)) hown hK.1 hP 12 rfl rfl 3 (by decide) (hts _ (.tail _ u_fl_X7_82)) (fun _ h9 => h9) rfl dX7_fits_26 ?_
    refine lv_iload hx hb dX7_fits_29 (lv_at hl 4 rfl) ?_
    obtain ⟨hi_3, h⟩ := ox_chk h
    refine va_iald hx hb hK.1 hP 14 0 rfl rfl hi_3 dX7_fits_31 ?_
    refine lv_aload_n hx hb dX7_fits_32 rfl (lv_at hl 2 rfl) ?_
    refine va_get (ci := 0) (v := .int (F_a2 1 0)) (C := RX0) (T := TX0) (N := 7) hx hb hts (fun w h => .tail _ (u_inX0 w h)) hown hK.1 hP 11 rfl rfl 1 (by decide) (hts _ (.tail _ u_fl_X7_40)) (fun _ h9 => h9) rfl dX7_fits_33 ?_
    refine lv_aload_n hx hb dX7_fits_36 rfl (lv_at hl 0 rfl) ?_
    refine va_get (ci := 7) (v := .ref (Q_t 2)) (C := RX7) (T := TX7) (N := 4) hx hb hts (fun w h => .tail _ (u_inX7 w h)) hown hK.1 hP 0 rfl rfl 2 (by decide) (hts _ (.tail _ u_fl_X7_21)) (fun _ h9 => h9) rfl dX7_fits_37 ?_
    obtain ⟨v_4, hv_4, h⟩ := ox_bind h
    refine kVv ⟨hx, hb, hml, hown, hts⟩ (c_X8_run l g (Q_t 0) Q_t_one q_a1 Q_a1 (Q_t 2) N L_t_one F_a1 (F_t 2) ((F_a3 3) x6.toNatClampNeg) (F_a2 1 0) v_4 hv_4 H.size) (gV u_ml_X7_48 u_im_X8_run u_se_X8_run u_ini_X8 u_co_X8_run) hd_X8_run ⟨rfl, rfl⟩ hK hP hD hS hA 2 8 rfl rfl [2, 3, 4, 5, 6, 7, 8, 9, 10, 1] [10, 9, 0, 1, 2, 3, 4, 5, 6, 7, 8, 21, 22, 23, 24, 25] rfl rfl 10 rfl (w2 := [oX7 q_t Q_t, ia g (Q_t 2) 10 (F_t 2), oX8 (Q_t 0) Q_t_one, la g (Q_t_one 0) 8 v_4.1, la g (Q_t_one 1) 8 v_4.2, oX4 q_a1 Q_a1 (F_a1 0 0) (F_a1 1 0) (F_a1 2 0), ia g (Q_a1 3) 8 (F_a1 3), ia g (Q_a1 5) 10 (F_a1 5), ia g (Q_a1 6) 10 (F_a1 6), ia g (Q_a1 7) 10 (F_a1 7), ia g (Q_a1 8) 10 (F_a1 8), oX0 q_a2 Q_a2 (F_a2 0 0) (F_a2 1 0), oX2 q_a3 Q_a3 (F_a3 0 0) (F_a3 1 0), ia g (Q_a3 2) 6 (F_a3 2), ia g (Q_a3 3) 6 (F_a3 3), ia g (Q_a3 4) 6 (F_a3 4)]) rfl rfl (As := [.ref q_a1, .int ((F_a3 3) x6.toNatClampNeg), .int (F_a2 1 0), .ref (Q_t 2)]) (rest := []) rfl hl.1 rfl rfl dX7_fits_40 (fun H locs hP hD hS => ?_)
    refine lv_aload_n hx hb dX7_fits_43 rfl (lv_at hl 0 rfl) ?_
    refine va_get (ci := 7) (v := .ref (Q_t 0)) (C := RX7) (T := TX7) (N := 4) hx hb hts (fun w h => .tail _ (u_inX7 w h)) hown hK.1 hP 0 rfl rfl 0 (by decide) (hts _ (.tail _ u_fl_X7_12)) (fun _ h9 => h9) rfl dX7_fits_44 ?_
    refine lv_aload_n hx hb dX7_fits_47 rfl (lv_at hl 3 rfl) ?_
    refine va_get (ci := 2) (v := .ref (Q_a3 2)) (C := RX2) (T := TX2) (N := 7) hx hb hts (fun w h => .tail _ (u_inX2 w h)) hown hK.1 hP 12 rfl rfl 2 (by decide) (hts _ (.tail _ u_fl_X7_85)) (fun _ h9 => h9) rfl dX7_fits_48 ?_
    refine lv_iload hx hb dX7_fits_51 (lv_at hl 4 rfl) ?_
    obtain ⟨hi_5, h⟩ := ox_chk h
    refine va_iald hx hb hK.1 hP 13 0 rfl rfl hi_5 dX7_fits_53 ?_
    obtain ⟨v_6, hv_6, h⟩ := ox_bind h
    refine kVi ⟨hx, hb, hml, hown, hts⟩ (c_X8_firstHour l g (Q_t 0) Q_t_one (va_up (va_up L_t_one 0 v_4.1) 1 v_4.2) ((F_a3 2) x6.toNatClampNeg) v_6 hv_6 H.size) (gV u_ml_X7_88 u_im_X8_firstHour u_se_X8_firstHour u_ini_X8 u_co_X8_firstHour) hd_X8_firstHour ⟨rfl, rfl⟩ hK hP hD hS hA 2 8 rfl rfl [2, 3, 4] [3, 4, 0, 1, 2, 8, 9, 10, 11, 12, 13, 14, 15, 16, 17, 18] rfl rfl 3 rfl (w2 := [oX7 q_t Q_t, ia g (Q_t 2) 10 (F_t 2), oX8 (Q_t 0) Q_t_one, la g (Q_t_one 0) 8 v_4.1, la g (Q_t_one 1) 8 v_4.2, oX4 q_a1 Q_a1 (F_a1 0 0) (F_a1 1 0) (F_a1 2 0), ia g (Q_a1 3) 8 (F_a1 3), ia g (Q_a1 5) 10 (F_a1 5), ia g (Q_a1 6) 10 (F_a1 6), ia g (Q_a1 7) 10 (F_a1 7), ia g (Q_a1 8) 10 (F_a1 8), oX0 q_a2 Q_a2 (F_a2 0 0) (F_a2 1 0), oX2 q_a3 Q_a3 (F_a3 0 0) (F_a3 1 0), ia g (Q_a3 2) 6 (F_a3 2), ia g (Q_a3 3) 6 (F_a3 3), ia g (Q_a3 4) 6 (F_a3 4)]) rfl rfl (As := [.int ((F_a3 2) x6.toNatClampNeg)]) (rest := []) rfl hl.1 rfl rfl dX7_fits_54 (fun H locs hP hD hS => ?_)
    refine lv_aload_n hx hb dX7_fits_57 rfl (lv_at hl 3 rfl) ?_
    refine va_get (ci := 2) (v := .ref (Q_a3 4)) (C := RX2) (T := TX2) (N := 7) hx hb hts (fun w h => .tail _ (u_inX2 w h)) hown hK.1 hP 12 rfl rfl 4 (by decide) (hts _ (.tail _ u_fl_X7_91)) (fun _ h9 => h9) rfl dX7_fits_58 ?_
    refine lv_iload hx hb dX7_fits_61 (lv_at hl 4 rfl) ?_
    obtain ⟨hi_7, h⟩ := ox_chk h
    refine va_iald hx hb hK.1 hP 15 0 rfl rfl hi_7 dX7_fits_63 ?_
    refine lv_icmp_eq (tgt := 69) hx hb dX7_fits_64 (by decide) (fun c_8 => ?_) (fun c_8 => ?_)
    · have h := ox_t c_8 h
      refine lv_iinc (v := (x6 + (1 : Int32))) (lv' := [(6, .int (x6 + (1 : Int32))), (0, .ref q_t), (1, .ref q_a1), (2, .ref q_a2), (3, .ref q_a3)]) hx hb dX7_fits_69 hl (k := 4) rfl rfl (by decide) rfl (fun ls hl => ?_)
      refine lv_goto (tgt := 11) hx hb dX7_fits_72 (by decide) ?_
      obtain rfl := Option.some.inj h
      exact hc _ rfl H locs ls hP hD hS (lv_sub hl [1, 2, 3, 4, 0] rfl)
    · have h := ox_f c_8 h
      obtain rfl := Option.some.inj h
      exact he0 _ rfl H locs ls hP hD hS (lv_sub hl [] rfl)
def x_X7_fits (N : Nat) (F_t : St) (L_t_one : SL) (F_a1 : St) (F_a2 : St) (F_a3 : St) (x4 : Int32) (x5 : Int32) : Option (Int32 × (Nat → Int32) × (Nat → Int64) × (Nat → Int64)) :=
  Option.bind (x_X7_crackAlone N F_t x4 x5) (fun v_1 => Option.bind (lpc (fun (z : Int32 × (Nat → Int64) × (Nat → Int64)) => x_X7_fits_b11 N (va_up F_t 2 v_1) (va_up (va_up L_t_one 0 z.2.1) 1 z.2.2) F_a1 F_a2 F_a3 z.1) N ((0 : Int32), (L_t_one 0), (L_t_one 1))) (fun v_9 => Sum.elim (fun v_9 => some ((0 : Int32), v_1, v_9.1, v_9.2)) (fun v_9 => some ((1 : Int32), v_1, v_9.1, v_9.2)) v_9))
set_option maxHeartbeats 4000000 in
set_option maxRecDepth 100000 in
theorem t_X7_fits {p : Program} {l : Launch} {e : Env} {s : State} {m : MethodId} {args : Array Value} {below : List Frame} {meth : Method} {c : Code} {g : gG} {A : Nat → Prop} (E : En p s m args meth c g A cX7_fits 7 (.code yX7_fits cX7_fits 7 (some .boolean) :: gW) RX7 (some .boolean)) (q_t : Nat) (Q_t : Ad) (Q_t_one : Ad) (q_a1 : Nat) (Q_a1 : Ad) (q_a2 : Nat) (Q_a2 : Ad) (q_a3 : Nat) (Q_a3 : Ad) (N : Nat) (F_t : St) (L_t_one : SL) (F_a1 : St) (F_a2 : St) (F_a3 : St) (x4 : Int32) (x5 : Int32) (o : Int32 × (Nat → Int32) × (Nat → Int64) × (Nat → Int64)) (h : x_X7_fits N F_t L_t_one F_a1 F_a2 F_a3 x4 x5 = some o) : WA p l e (rM 3 70) s m args below meth c g A (MQ below (QI g A o.1 [oX7 q_t Q_t, ia g (Q_t 2) 10 o.2.1, oX8 (Q_t 0) Q_t_one, la g (Q_t_one 0) 8 o.2.2.1, la g (Q_t_one 1) 8 o.2.2.2, oX4 q_a1 Q_a1 (F_a1 0 0) (F_a1 1 0) (F_a1 2 0), ia g (Q_a1 3) 8 (F_a1 3), ia g (Q_a1 5) 10 (F_a1 5), ia g (Q_a1 6) 10 (F_a1 6), ia g (Q_a1 7) 10 (F_a1 7), ia g (Q_a1 8) 10 (F_a1 8), oX0 q_a2 Q_a2 (F_a2 0 0) (F_a2 1 0), oX2 q_a3 Q_a3 (F_a3 0 0) (F_a3 1 0), ia g (Q_a3 2) 6 (F_a3 2), ia g (Q_a3 3) 6 (F_a3 3), ia g (Q_a3 4) 6 (F_a3 4)]) args s 0 0 A) 7 0 [oX7 q_t Q_t, ia g (Q_t 2) 10 (F_t 2), oX8 (Q_t 0) Q_t_one, la g (Q_t_one 0) 8 (L_t_one 0), la g (Q_t_one 1) 8 (L_t_one 1), oX4 q_a1 Q_a1 (F_a1 0 0) (F_a1 1 0) (F_a1 2 0), ia g (Q_a1 3) 8 (F_a1 3), ia g (Q_a1 5) 10 (F_a1 5), ia g (Q_a1 6) 10 (F_a1 6), ia g (Q_a1 7) 10 (F_a1 7), ia g (Q_a1 8) 10 (F_a1 8), oX0 q_a2 Q_a2 (F_a2 0 0) (F_a2 1 0), oX2 q_a3 Q_a3 (F_a3 0 0) (F_a3 1 0), ia g (Q_a3 2) 6 (F_a3 2), ia g (Q_a3 3) 6 (F_a3 3), ia g (Q_a3 4) 6 (F_a3 4)] [(0, .ref q_t), (1, .ref q_a1), (2, .ref q_a2), (3, .ref q_a3), (4, .int x4), (5, .int x5)] [] := by
  obtain ⟨⟨hx, hb, hml, hown, hts⟩, hr, hK, hA, hlk⟩ := id E
  intro H locs ls hP hD hS hl
  refine lv_aload_n hx hb dX7_fits_0 rfl (lv_at hl 0 rfl) ?_
  refine lv_iload hx hb dX7_fits_1 (lv_at hl 4 rfl) ?_
  refine lv_iload hx hb dX7_fits_3 (lv_at hl 5 rfl) ?_
  obtain ⟨v_1, hv_1, h⟩ := ox_bind h
  refine kVv ⟨hx, hb, hml, hown, hts⟩ (c_X7_crackAlone l g q_t Q_t N F_t x4 x5 v_1 hv_1 H.size) (gV u_ml_X7_73 u_im_X7_crackAlone u_se_X7_crackAlone u_ini_X7 u_co_X7_crackAlone) hd_X7_crackAlone ⟨rfl, rfl⟩ hK hP hD hS hA 0 7 rfl rfl [0, 1] [0, 1, 4, 5, 6, 7, 8, 9, 10, 11, 12, 13, 14, 15, 16, 17] rfl rfl 2 rfl (w2 := [oX7 q_t Q_t, ia g (Q_t 2) 10 v_1, oX8 (Q_t 0) Q_t_one, la g (Q_t_one 0) 8 (L_t_one 0), la g (Q_t_one 1) 8 (L_t_one 1), oX4 q_a1 Q_a1 (F_a1 0 0) (F_a1 1 0) (F_a1 2 0), ia g (Q_a1 3) 8 (F_a1 3), ia g (Q_a1 5) 10 (F_a1 5), ia g (Q_a1 6) 10 (F_a1 6), ia g (Q_a1 7) 10 (F_a1 7), ia g (Q_a1 8) 10 (F_a1 8), oX0 q_a2 Q_a2 (F_a2 0 0) (F_a2 1 0), oX2 q_a3 Q_a3 (F_a3 0 0) (F_a3 1 0), ia g (Q_a3 2) 6 (F_a3 2), ia g (Q_a3 3) 6 (F_a3 3), ia g (Q_a3 4) 6 (F_a3 4)]) rfl rfl (As := [.int x4, .int x5]) (rest := []) rfl hl.1 rfl rfl dX7_fits_5 (fun H locs hP hD hS => ?_)
  refine lv_iconst (v := (0 : Int32)) hx hb dX7_fits_8 (by decide) ?_
  refine lv_istore (lv' := [(6, .int (0 : Int32)), (0, .ref q_t), (1, .ref q_a1), (2, .ref q_a2), (3, .ref q_a3), (4, .int x4), (5, .int x5)]) hx hb dX7_fits_9 hl (by decide) rfl (fun ls hl => ?_)
  obtain ⟨v_9, hv_9, h⟩ := ox_bind h
  refine lpc_W (Wh := fun (z : Int32 × (Nat → Int64) × (Nat → Int64)) => WA p l e (rM 3 70) s m args below meth c g A (MQ below (QI g A o.1 [oX7 q_t Q_t, ia g (Q_t 2) 10 o.2.1, oX8 (Q_t 0) Q_t_one, la g (Q_t_one 0) 8 o.2.2.1, la g (Q_t_one 1) 8 o.2.2.2, oX4 q_a1 Q_a1 (F_a1 0 0) (F_a1 1 0) (F_a1 2 0), ia g (Q_a1 3) 8 (F_a1 3), ia g (Q_a1 5) 10 (F_a1 5), ia g (Q_a1 6) 10 (F_a1 6), ia g (Q_a1 7) 10 (F_a1 7), ia g (Q_a1 8) 10 (F_a1 8), oX0 q_a2 Q_a2 (F_a2 0 0) (F_a2 1 0), oX2 q_a3 Q_a3 (F_a3 0 0) (F_a3 1 0), ia g (Q_a3 2) 6 (F_a3 2), ia g (Q_a3 3) 6 (F_a3 3), ia g (Q_a3 4) 6 (F_a3 4)]) args s 0 0 A) 7 11 [oX7 q_t Q_t, ia g (Q_t 2) 10 v_1, oX8 (Q_t 0) Q_t_one, la g (Q_t_one 0) 8 z.2.1, la g (Q_t_one 1) 8 z.2.2, oX4 q_a1 Q_a1 (F_a1 0 0) (F_a1 1 0) (F_a1 2 0), ia g (Q_a1 3) 8 (F_a1 3), ia g (Q_a1 5) 10 (F_a1 5), ia g (Q_a1 6) 10 (F_a1 6), ia g (Q_a1 7) 10 (F_a1 7), ia g (Q_a1 8) 10 (F_a1 8), oX0 q_a2 Q_a2 (F_a2 0 0) (F_a2 1 0), oX2 q_a3 Q_a3 (F_a3 0 0) (F_a3 1 0), ia g (Q_a3 2) 6 (F_a3 2), ia g (Q_a3 3) 6 (F_a3 3), ia g (Q_a3 4) 6 (F_a3 4)] [(0, .ref q_t), (1, .ref q_a1), (2, .ref q_a2), (3, .ref q_a3), (6, .int z.1)] []) (We := Sum.elim (fun (v : (Nat → Int64) × (Nat → Int64)) => WA p l e (rM 3 70) s m args below meth c g A (MQ below (QI g A o.1 [oX7 q_t Q_t, ia g (Q_t 2) 10 o.2.1, oX8 (Q_t 0) Q_t_one, la g (Q_t_one 0) 8 o.2.2.1, la g (Q_t_one 1) 8 o.2.2.2, oX4 q_a1 Q_a1 (F_a1 0 0) (F_a1 1 0) (F_a1 2 0), ia g (Q_a1 3) 8 (F_a1 3), ia g (Q_a1 5) 10 (F_a1 5), ia g (Q_a1 6) 10 (F_a1 6), ia g (Q_a1 7) 10 (F_a1 7), ia g (Q_a1 8) 10 (F_a1 8), oX0 q_a2 Q_a2 (F_a2 0 0) (F_a2 1 0), oX2 q_a3 Q_a3 (F_a3 0 0) (F_a3 1 0), ia g (Q_a3 2) 6 (F_a3 2), ia g (Q_a3 3) 6 (F_a3 3), ia g (Q_a3 4) 6 (F_a3 4)]) args s 0 0 A) 7 67 [oX7 q_t Q_t, ia g (Q_t 2) 10 v_1, oX8 (Q_t 0) Q_t_one, la g (Q_t_one 0) 8 v.1, la g (Q_t_one 1) 8 v.2, oX4 q_a1 Q_a1 (F_a1 0 0) (F_a1 1 0) (F_a1 2 0), ia g (Q_a1 3) 8 (F_a1 3), ia g (Q_a1 5) 10 (F_a1 5), ia g (Q_a1 6) 10 (F_a1 6), ia g (Q_a1 7) 10 (F_a1 7), ia g (Q_a1 8) 10 (F_a1 8), oX0 q_a2 Q_a2 (F_a2 0 0) (F_a2 1 0), oX2 q_a3 Q_a3 (F_a3 0 0) (F_a3 1 0), ia g (Q_a3 2) 6 (F_a3 2), ia g (Q_a3 3) 6 (F_a3 3), ia g (Q_a3 4) 6 (F_a3 4)] [] []) (fun (v : (Nat → Int64) × (Nat → Int64)) => WA p l e (rM 3 70) s m args below meth c g A (MQ below (QI g A o.1 [oX7 q_t Q_t, ia g (Q_t 2) 10 o.2.1, oX8 (Q_t 0) Q_t_one, la g (Q_t_one 0) 8 o.2.2.1, la g (Q_t_one 1) 8 o.2.2.2, oX4 q_a1 Q_a1 (F_a1 0 0) (F_a1 1 0) (F_a1 2 0), ia g (Q_a1 3) 8 (F_a1 3), ia g (Q_a1 5) 10 (F_a1 5), ia g (Q_a1 6) 10 (F_a1 6), ia g (Q_a1 7) 10 (F_a1 7), ia g (Q_a1 8) 10 (F_a1 8), oX0 q_a2 Q_a2 (F_a2 0 0) (F_a2 1 0), oX2 q_a3 Q_a3 (F_a3 0 0) (F_a3 1 0), ia g (Q_a3 2) 6 (F_a3 2), ia g (Q_a3 3) 6 (F_a3 3), ia g (Q_a3 4) 6 (F_a3 4)]) args s 0 0 A) 7 75 [oX7 q_t Q_t, ia g (Q_t 2) 10 v_1, oX8 (Q_t 0) Q_t_one, la g (Q_t_one 0) 8 v.1, la g (Q_t_one 1) 8 v.2, oX4 q_a1 Q_a1 (F_a1 0 0) (F_a1 1 0) (F_a1 2 0), ia g (Q_a1 3) 8 (F_a1 3), ia g (Q_a1 5) 10 (F_a1 5), ia g (Q_a1 6) 10 (F_a1 6), ia g (Q_a1 7) 10 (F_a1 7), ia g (Q_a1 8) 10 (F_a1 8), oX0 q_a2 Q_a2 (F_a2 0 0) (F_a2 1 0), oX2 q_a3 Q_a3 (F_a3 0 0) (F_a3 1 0), ia g (Q_a3 2) 6 (F_a3 2), ia g (Q_a3 3) 6 (F_a3 3), ia g (Q_a3 4) 6 (F_a3 4)] [] [])) (fun z r hb hc he => t_X7_fits_b11 E q_t Q_t Q_t_one q_a1 Q_a1 q_a2 Q_a2 q_a3 Q_a3 N (va_up F_t 2 v_1) (va_up (va_up L_t_one 0 z.2.1) 1 z.2.2) F_a1 F_a2 F_a3 z.1 r hb hc (fun v hv => he (.inl v) hv) (fun v hv => he (.inr v) hv)) N ((0 : Int32), (L_t_one 0), (L_t_one 1)) v_9 hv_9 ?_ H locs ls hP hD hS (lv_sub hl [1, 2, 3, 4, 0] rfl)
  rcases v_9 with v_9 | v_9
  · have h := ox_inl h
    intro H locs ls hP hD hS hl
    refine lv_iconst (v := (0 : Int32)) hx hb dX7_fits_67 (by decide) ?_
    obtain rfl := Option.some.inj h
    exact k_zret hx hb hr hlk (.inl rfl) hP hD hS dX7_fits_68
  · have h := ox_inr h
    intro H locs ls hP hD hS hl
    refine lv_iconst (v := (1 : Int32)) hx hb dX7_fits_75 (by decide) ?_
    obtain rfl := Option.some.inj h
    exact k_zret hx hb hr hlk (.inr rfl) hP hD hS dX7_fits_76
set_option maxRecDepth 100000 in
theorem c_X7_fits (l : Launch) (g : gG) (q_t : Nat) (Q_t : Ad) (Q_t_one : Ad) (q_a1 : Nat) (Q_a1 : Ad) (q_a2 : Nat) (Q_a2 : Ad) (q_a3 : Nat) (Q_a3 : Ad) (N : Nat) (F_t : St) (L_t_one : SL) (F_a1 : St) (F_a2 : St) (F_a3 : St) (x4 : Int32) (x5 : Int32) (o : Int32 × (Nat → Int32) × (Nat → Int64) × (Nat → Int64)) (h : x_X7_fits N F_t L_t_one F_a1 F_a2 F_a3 x4 x5 = some o) (sz : Nat) : MetI l yX7_fits (.code yX7_fits cX7_fits 7 (some .boolean) :: gW) 3 70 [.ref q_t, .ref q_a1, .ref q_a2, .ref q_a3, .int x4, .int x5] o.1 g [oX7 q_t Q_t, ia g (Q_t 2) 10 (F_t 2), oX8 (Q_t 0) Q_t_one, la g (Q_t_one 0) 8 (L_t_one 0), la g (Q_t_one 1) 8 (L_t_one 1), oX4 q_a1 Q_a1 (F_a1 0 0) (F_a1 1 0) (F_a1 2 0), ia g (Q_a1 3) 8 (F_a1 3), ia g (Q_a1 5) 10 (F_a1 5), ia g (Q_a1 6) 10 (F_a1 6), ia g (Q_a1 7) 10 (F_a1 7), ia g (Q_a1 8) 10 (F_a1 8), oX0 q_a2 Q_a2 (F_a2 0 0) (F_a2 1 0), oX2 q_a3 Q_a3 (F_a3 0 0) (F_a3 1 0), ia g (Q_a3 2) 6 (F_a3 2), ia g (Q_a3 3) 6 (F_a3 3), ia g (Q_a3 4) 6 (F_a3 4)] [oX7 q_t Q_t, ia g (Q_t 2) 10 o.2.1, oX8 (Q_t 0) Q_t_one, la g (Q_t_one 0) 8 o.2.2.1, la g (Q_t_one 1) 8 o.2.2.2, oX4 q_a1 Q_a1 (F_a1 0 0) (F_a1 1 0) (F_a1 2 0), ia g (Q_a1 3) 8 (F_a1 3), ia g (Q_a1 5) 10 (F_a1 5), ia g (Q_a1 6) 10 (F_a1 6), ia g (Q_a1 7) 10 (F_a1 7), ia g (Q_a1 8) 10 (F_a1 8), oX0 q_a2 Q_a2 (F_a2 0 0) (F_a2 1 0), oX2 q_a3 Q_a3 (F_a3 0 0) (F_a3 1 0), ia g (Q_a3 2) 6 (F_a3 2), ia g (Q_a3 3) 6 (F_a3 3), ia g (Q_a3 4) 6 (F_a3 4)] sz :=
  mkI (av := [.ref q_t, .ref q_a1, .ref q_a2, .ref q_a3, .int x4, .int x5]) (by decide +kernel) rfl (fun p e s m below meth c A E H locs ls hP hD hS hl => t_X7_fits E q_t Q_t Q_t_one q_a1 Q_a1 q_a2 Q_a2 q_a3 Q_a3 N F_t L_t_one F_a1 F_a2 F_a3 x4 x5 o h H locs ls hP hD hS hl) sz
def x_X7_fittingCracks_b6_k29 (N : Nat) (F_t : St) (L_t_one : SL) (F_a1 : St) (F_a2 : St) (F_a3 : St) (x4 : Int32) (x5 : Int32) (x6 : Int32) : Option ((Int32 × Int32 × (Nat → Int32) × (Nat → Int64) × (Nat → Int64)) ⊕ (Int32 × (Nat → Int32) × (Nat → Int64) × (Nat → Int64))) :=
  Option.bind (x_X7_fits N F_t L_t_one F_a1 F_a2 F_a3 x6 x4) (fun v_1 => if v_1.1 = 0 then (some (.inl (x5, (x6 + (1 : Int32)), v_1.2.1, v_1.2.2.1, v_1.2.2.2))) else (xl (x5 ||| ((1 : Int32) <<< (x6 &&& 31))) (fun y_3 => some (.inl (y_3, (x6 + (1 : Int32)), v_1.2.1, v_1.2.2.1, v_1.2.2.2)))))
set_option maxHeartbeats 4000000 in
set_option maxRecDepth 100000 in
theorem t_X7_fittingCracks_b6_k29 {p : Program} {l : Launch} {e : Env} {s : State} {m : MethodId} {args : Array Value} {below : List Frame} {meth : Method} {c : Code} {g : gG} {A : Nat → Prop} {Q : State → Prop} (E : En p s m args meth c g A cX7_fittingCracks 7 (.code yX7_fittingCracks cX7_fittingCracks 7 (some .int) :: gW) RX7 (some .int)) (q_t : Nat) (Q_t : Ad) (Q_t_one : Ad) (q_a1 : Nat) (Q_a1 : Ad) (q_a2 : Nat) (Q_a2 : Ad) (q_a3 : Nat) (Q_a3 : Ad) (N : Nat) (F_t : St) (L_t_one : SL) (F_a1 : St) (F_a2 : St) (F_a3 : St) (x4 : Int32) (x5 : Int32) (x6 : Int32) (o : (Int32 × Int32 × (Nat → Int32) × (Nat → Int64) × (Nat → Int64)) ⊕ (Int32 × (Nat → Int32) × (Nat → Int64) × (Nat → Int64))) (h : x_X7_fittingCracks_b6_k29 N F_t L_t_one F_a1 F_a2 F_a3 x4 x5 x6 = some o) (hc : ∀ z, o = .inl z → WA p l e (rM 4 96) s m args below meth c g A Q 7 6 [oX7 q_t Q_t, ia g (Q_t 2) 10 z.2.2.1, oX8 (Q_t 0) Q_t_one, la g (Q_t_one 0) 8 z.2.2.2.1, la g (Q_t_one 1) 8 z.2.2.2.2, oX4 q_a1 Q_a1 (F_a1 0 0) (F_a1 1 0) (F_a1 2 0), ia g (Q_a1 3) 8 (F_a1 3), ia g (Q_a1 5) 10 (F_a1 5), ia g (Q_a1 6) 10 (F_a1 6), ia g (Q_a1 7) 10 (F_a1 7), ia g (Q_a1 8) 10 (F_a1 8), oX0 q_a2 Q_a2 (F_a2 0 0) (F_a2 1 0), oX2 q_a3 Q_a3 (F_a3 0 0) (F_a3 1 0), ia g (Q_a3 2) 6 (F_a3 2), ia g (Q_a3 3) 6 (F_a3 3), ia g (Q_a3 4) 6 (F_a3 4)] [(0, .ref q_t), (1, .ref q_a1), (2, .ref q_a2), (3, .ref q_a3), (4, .int x4), (5, .int z.1), (6, .int z.2.1)] []) (he : ∀ v, o = .inr v → WA p l e (rM 4 96) s m args below meth c g A Q 7 58 [oX7 q_t Q_t, ia g (Q_t 2) 10 v.2.1, oX8 (Q_t 0) Q_t_one, la g (Q_t_one 0) 8 v.2.2.1, la g (Q_t_one 1) 8 v.2.2.2, oX4 q_a1 Q_a1 (F_a1 0 0) (F_a1 1 0) (F_a1 2 0), ia g (Q_a1 3) 8 (F_a1 3), ia g (Q_a1 5) 10 (F_a1 5), ia g (Q_a1 6) 10 (F_a1 6), ia g (Q_a1 7) 10 (F_a1 7), ia g (Q_a1 8) 10 (F_a1 8), oX0 q_a2 Q_a2 (F_a2 0 0) (F_a2 1 0), oX2 q_a3 Q_a3 (F_a3 0 0) (F_a3 1 0), ia g (Q_a3 2) 6 (F_a3 2), ia g (Q_a3 3) 6 (F_a3 3), ia g (Q_a3 4) 6 (F_a3 4)] [(5, .int v.1)] []) : WA p l e (rM 4 96) s m args below meth c g A Q 7 29 [oX7 q_t Q_t, ia g (Q_t 2) 10 (F_t 2), oX8 (Q_t 0) Q_t_one, la g (Q_t_one 0) 8 (L_t_one 0), la g (Q_t_one 1) 8 (L_t_one 1), oX4 q_a1 Q_a1 (F_a1 0 0) (F_a1 1 0) (F_a1 2 0), ia g (Q_a1 3) 8 (F_a1 3), ia g (Q_a1 5) 10 (F_a1 5), ia g (Q_a1 6) 10 (F_a1 6), ia g (Q_a1 7) 10 (F_a1 7), ia g (Q_a1 8) 10 (F_a1 8), oX0 q_a2 Q_a2 (F_a2 0 0) (F_a2 1 0), oX2 q_a3 Q_a3 (F_a3 0 0) (F_a3 1 0), ia g (Q_a3 2) 6 (F_a3 2), ia g (Q_a3 3) 6 (F_a3 3), ia g (Q_a3 4) 6 (F_a3 4)] [(0, .ref q_t), (1, .ref q_a1), (2, .ref q_a2), (3, .ref q_a3), (4, .int x4), (5, .int x5), (6, .int x6)] [] := by
  obtain ⟨⟨hx, hb, hml, hown, hts⟩, hr, hK, hA, hlk⟩ := id E
  intro H locs ls hP hD hS hl
  refine lv_aload_n hx hb dX7_fittingCracks_29 rfl (lv_at hl 0 rfl) ?_
  refine lv_aload_n hx hb dX7_fittingCracks_30 rfl (lv_at hl 1 rfl) ?_
  refine lv_aload_n hx hb dX7_fittingCracks_31 rfl (lv_at hl 2 rfl) ?_
  refine lv_aload_n hx hb dX7_fittingCracks_32 rfl (lv_at hl 3 rfl) ?_
  refine lv_iload hx hb dX7_fittingCracks_33 (lv_at hl 6 rfl) ?_
  refine lv_iload hx hb dX7_fittingCracks_35 (lv_at hl 4 rfl) ?_
  obtain ⟨v_1, hv_1, h⟩ := ox_bind h
  refine kVi ⟨hx, hb, hml, hown, hts⟩ (c_X7_fits l g q_t Q_t Q_t_one q_a1 Q_a1 q_a2 Q_a2 q_a3 Q_a3 N F_t L_t_one F_a1 F_a2 F_a3 x6 x4 v_1 hv_1 H.size) (gV u_ml_X7_69 u_im_X7_fits u_se_X7_fits u_ini_X7 u_co_X7_fits) hd_X7_fits ⟨rfl, rfl⟩ hK hP hD hS hA 0 7 rfl rfl [0, 1, 2, 3, 4, 5, 6, 7, 8, 9, 10, 11, 12, 13, 14, 15] [0, 1, 2, 3, 4, 5, 6, 7, 8, 9, 10, 11, 12, 13, 14, 15] rfl rfl 16 rfl (w2 := [oX7 q_t Q_t, ia g (Q_t 2) 10 v_1.2.1, oX8 (Q_t 0) Q_t_one, la g (Q_t_one 0) 8 v_1.2.2.1, la g (Q_t_one 1) 8 v_1.2.2.2, oX4 q_a1 Q_a1 (F_a1 0 0) (F_a1 1 0) (F_a1 2 0), ia g (Q_a1 3) 8 (F_a1 3), ia g (Q_a1 5) 10 (F_a1 5), ia g (Q_a1 6) 10 (F_a1 6), ia g (Q_a1 7) 10 (F_a1 7), ia g (Q_a1 8) 10 (F_a1 8), oX0 q_a2 Q_a2 (F_a2 0 0) (F_a2 1 0), oX2 q_a3 Q_a3 (F_a3 0 0) (F_a3 1 0), ia g (Q_a3 2) 6 (F_a3 2), ia g (Q_a3 3) 6 (F_a3 3), ia g (Q_a3 4) 6 (F_a3 4)]) rfl rfl (As := [.ref q_a1, .ref q_a2, .ref q_a3, .int x6, .int x4]) (rest := []) rfl hl.1 rfl rfl dX7_fittingCracks_37 (fun H locs hP hD hS => ?_)
  refine lv_if_eq (tgt := 52) hx hb dX7_fittingCracks_40 (by decide) (fun c_2 => ?_) (fun c_2 => ?_)
  · have h := ox_t c_2 h
    refine lv_iinc (v := (x6 + (1 : Int32))) (lv' := [(6, .int (x6 + (1 : Int32))), (0, .ref q_t), (1, .ref q_a1), (2, .ref q_a2), (3, .ref q_a3), (4, .int x4), (5, .int x5)]) hx hb dX7_fittingCracks_52 hl (k := 6) rfl rfl (by decide) rfl (fun ls hl => ?_)
    refine lv_goto (tgt := 6) hx hb dX7_fittingCracks_55 (by decide) ?_
    obtain rfl := Option.some.inj h
    exact hc _ rfl H locs ls hP hD hS (lv_sub hl [1, 2, 3, 4, 5, 6, 0] rfl)
  · have h := ox_f c_2 h
    refine lv_iload hx hb dX7_fittingCracks_43 (lv_at hl 5 rfl) ?_
    refine lv_iconst (v := (1 : Int32)) hx hb dX7_fittingCracks_45 (by decide) ?_
    refine lv_iload hx hb dX7_fittingCracks_46 (lv_at hl 6 rfl) ?_
    refine lv_ishl hx hb dX7_fittingCracks_48 ?_
    refine lv_ior hx hb dX7_fittingCracks_49 ?_
    refine lv_topi (fun y_3 ey_3 => ?_)
    have h := xl_at ey_3 h
    refine lv_istore (lv' := [(5, .int y_3), (0, .ref q_t), (1, .ref q_a1), (2, .ref q_a2), (3, .ref q_a3), (4, .int x4), (6, .int x6)]) hx hb dX7_fittingCracks_50 hl (by decide) rfl (fun ls hl => ?_)
    refine lv_iinc (v := (x6 + (1 : Int32))) (lv' := [(6, .int (x6 + (1 : Int32))), (5, .int y_3), (0, .ref q_t), (1, .ref q_a1), (2, .ref q_a2), (3, .ref q_a3), (4, .int x4)]) hx hb dX7_fittingCracks_52 hl (k := 6) rfl rfl (by decide) rfl (fun ls hl => ?_)
    refine lv_goto (tgt := 6) hx hb dX7_fittingCracks_55 (by decide) ?_
    obtain rfl := Option.some.inj h
    exact hc _ rfl H locs ls hP hD hS (lv_sub hl [2, 3, 4, 5, 6, 1, 0] rfl)
def x_X7_fittingCracks_b6 (N : Nat) (F_t : St) (L_t_one : SL) (F_a1 : St) (F_a2 : St) (F_a3 : St) (x4 : Int32) (x5 : Int32) (x6 : Int32) : Option ((Int32 × Int32 × (Nat → Int32) × (Nat → Int64) × (Nat → Int64)) ⊕ (Int32 × (Nat → Int32) × (Nat → Int64) × (Nat → Int64))) :=
  if (11 : Int32) ≤ x6 then (some (.inr (x5, (F_t 2), (L_t_one 0), (L_t_one 1)))) else (if x6 < (F_a1 2 0) then (x_X7_fittingCracks_b6_k29 N F_t L_t_one F_a1 F_a2 F_a3 x4 x5 x6) else (if x6 = (10 : Int32) then (x_X7_fittingCracks_b6_k29 N F_t L_t_one F_a1 F_a2 F_a3 x4 x5 x6) else (some (.inl (x5, (x6 + (1 : Int32)), (F_t 2), (L_t_one 0), (L_t_one 1))))))
set_option maxHeartbeats 4000000 in
set_option maxRecDepth 100000 in
theorem t_X7_fittingCracks_b6 {p : Program} {l : Launch} {e : Env} {s : State} {m : MethodId} {args : Array Value} {below : List Frame} {meth : Method} {c : Code} {g : gG} {A : Nat → Prop} {Q : State → Prop} (E : En p s m args meth c g A cX7_fittingCracks 7 (.code yX7_fittingCracks cX7_fittingCracks 7 (some .int) :: gW) RX7 (some .int)) (q_t : Nat) (Q_t : Ad) (Q_t_one : Ad) (q_a1 : Nat) (Q_a1 : Ad) (q_a2 : Nat) (Q_a2 : Ad) (q_a3 : Nat) (Q_a3 : Ad) (N : Nat) (F_t : St) (L_t_one : SL) (F_a1 : St) (F_a2 : St) (F_a3 : St) (x4 : Int32) (x5 : Int32) (x6 : Int32) (o : (Int32 × Int32 × (Nat → Int32) × (Nat → Int64) × (Nat → Int64)) ⊕ (Int32 × (Nat → Int32) × (Nat → Int64) × (Nat → Int64))) (h : x_X7_fittingCracks_b6 N F_t L_t_one F_a1 F_a2 F_a3 x4 x5 x6 = some o) (hc : ∀ z, o = .inl z → WA p l e (rM 4 96) s m args below meth c g A Q 7 6 [oX7 q_t Q_t, ia g (Q_t 2) 10 z.2.2.1, oX8 (Q_t 0) Q_t_one, la g (Q_t_one 0) 8 z.2.2.2.1, la g (Q_t_one 1) 8 z.2.2.2.2, oX4 q_a1 Q_a1 (F_a1 0 0) (F_a1 1 0) (F_a1 2 0), ia g (Q_a1 3) 8 (F_a1 3), ia g (Q_a1 5) 10 (F_a1 5), ia g (Q_a1 6) 10 (F_a1 6), ia g (Q_a1 7) 10 (F_a1 7), ia g (Q_a1 8) 10 (F_a1 8), oX0 q_a2 Q_a2 (F_a2 0 0) (F_a2 1 0), oX2 q_a3 Q_a3 (F_a3 0 0) (F_a3 1 0), ia g (Q_a3 2) 6 (F_a3 2), ia g (Q_a3 3) 6 (F_a3 3), ia g (Q_a3 4) 6 (F_a3 4)] [(0, .ref q_t), (1, .ref q_a1), (2, .ref q_a2), (3, .ref q_a3), (4, .int x4), (5, .int z.1), (6, .int z.2.1)] []) (he : ∀ v, o = .inr v → WA p l e (rM 4 96) s m args below meth c g A Q 7 58 [oX7 q_t Q_t, ia g (Q_t 2) 10 v.2.1, oX8 (Q_t 0) Q_t_one, la g (Q_t_one 0) 8 v.2.2.1, la g (Q_t_one 1) 8 v.2.2.2, oX4 q_a1 Q_a1 (F_a1 0 0) (F_a1 1 0) (F_a1 2 0), ia g (Q_a1 3) 8 (F_a1 3), ia g (Q_a1 5) 10 (F_a1 5), ia g (Q_a1 6) 10 (F_a1 6), ia g (Q_a1 7) 10 (F_a1 7), ia g (Q_a1 8) 10 (F_a1 8), oX0 q_a2 Q_a2 (F_a2 0 0) (F_a2 1 0), oX2 q_a3 Q_a3 (F_a3 0 0) (F_a3 1 0), ia g (Q_a3 2) 6 (F_a3 2), ia g (Q_a3 3) 6 (F_a3 3), ia g (Q_a3 4) 6 (F_a3 4)] [(5, .int v.1)] []) : WA p l e (rM 4 96) s m args below meth c g A Q 7 6 [oX7 q_t Q_t, ia g (Q_t 2) 10 (F_t 2), oX8 (Q_t 0) Q_t_one, la g (Q_t_one 0) 8 (L_t_one 0), la g (Q_t_one 1) 8 (L_t_one 1), oX4 q_a1 Q_a1 (F_a1 0 0) (F_a1 1 0) (F_a1 2 0), ia g (Q_a1 3) 8 (F_a1 3), ia g (Q_a1 5) 10 (F_a1 5), ia g (Q_a1 6) 10 (F_a1 6), ia g (Q_a1 7) 10 (F_a1 7), ia g (Q_a1 8) 10 (F_a1 8), oX0 q_a2 Q_a2 (F_a2 0 0) (F_a2 1 0), oX2 q_a3 Q_a3 (F_a3 0 0) (F_a3 1 0), ia g (Q_a3 2) 6 (F_a3 2), ia g (Q_a3 3) 6 (F_a3 3), ia g (Q_a3 4) 6 (F_a3 4)] [(0, .ref q_t), (1, .ref q_a1), (2, .ref q_a2), (3, .ref q_a3), (4, .int x4), (5, .int x5), (6, .int x6)] [] := by
  obtain ⟨⟨hx, hb, hml, hown, hts⟩, hr, hK, hA, hlk⟩ := id E
  intro H locs ls hP hD hS hl
  refine lv_iload hx hb dX7_fittingCracks_6 (lv_at hl 6 rfl) ?_
  refine lv_bipush (v := (11 : Int32)) hx hb dX7_fittingCracks_8 (by decide) ?_
  refine lv_icmp_ge (tgt := 58) hx hb dX7_fittingCracks_10 (by decide) (fun c_4 => ?_) (fun c_4 => ?_)
  · have h := ox_t c_4 h
    obtain rfl := Option.some.inj h
    exact he _ rfl H locs ls hP hD hS (lv_sub hl [5] rfl)
  · have h := ox_f c_4 h
    refine lv_iload hx hb dX7_fittingCracks_13 (lv_at hl 6 rfl) ?_
    refine lv_aload_n hx hb dX7_fittingCracks_15 rfl (lv_at hl 1 rfl) ?_
    refine va_get (ci := 4) (v := .int (F_a1 2 0)) (C := RX4) (T := TX4) (N := 9) hx hb hts (fun w h => .tail _ (u_inX4 w h)) hown hK.1 hP 5 rfl rfl 2 (by decide) (hts _ (.tail _ u_fl_X7_28)) (fun _ h9 => h9) rfl dX7_fittingCracks_16 ?_
    refine lv_icmp_lt (tgt := 29) hx hb dX7_fittingCracks_19 (by decide) (fun c_5 => ?_) (fun c_5 => ?_)
    · have h := ox_t c_5 h
      exact t_X7_fittingCracks_b6_k29 E q_t Q_t Q_t_one q_a1 Q_a1 q_a2 Q_a2 q_a3 Q_a3 N F_t L_t_one F_a1 F_a2 F_a3 x4 x5 x6 _ h hc he H locs ls hP hD hS hl
    · have h := ox_f c_5 h
      refine lv_iload hx hb dX7_fittingCracks_22 (lv_at hl 6 rfl) ?_
      refine lv_bipush (v := (10 : Int32)) hx hb dX7_fittingCracks_24 (by decide) ?_
      refine lv_icmp_ne (tgt := 52) hx hb dX7_fittingCracks_26 (by decide) (fun c_6 => ?_) (fun c_6 => ?_)
      · have h := ox_f c_6 h
        refine lv_iinc (v := (x6 + (1 : Int32))) (lv' := [(6, .int (x6 + (1 : Int32))), (0, .ref q_t), (1, .ref q_a1), (2, .ref q_a2), (3, .ref q_a3), (4, .int x4), (5, .int x5)]) hx hb dX7_fittingCracks_52 hl (k := 6) rfl rfl (by decide) rfl (fun ls hl => ?_)
        refine lv_goto (tgt := 6) hx hb dX7_fittingCracks_55 (by decide) ?_
        obtain rfl := Option.some.inj h
        exact hc _ rfl H locs ls hP hD hS (lv_sub hl [1, 2, 3, 4, 5, 6, 0] rfl)
      · have h := ox_t c_6 h
        exact t_X7_fittingCracks_b6_k29 E q_t Q_t Q_t_one q_a1 Q_a1 q_a2 Q_a2 q_a3 Q_a3 N F_t L_t_one F_a1 F_a2 F_a3 x4 x5 x6 _ h hc he H locs ls hP hD hS hl
def x_X7_fittingCracks (N : Nat) (F_t : St) (L_t_one : SL) (F_a1 : St) (F_a2 : St) (F_a3 : St) (x4 : Int32) : Option (Int32 × (Nat → Int32) × (Nat → Int64) × (Nat → Int64)) :=
  Option.bind (lpc (fun (z : Int32 × Int32 × (Nat → Int32) × (Nat → Int64) × (Nat → Int64)) => x_X7_fittingCracks_b6 N (va_up F_t 2 z.2.2.1) (va_up (va_up L_t_one 0 z.2.2.2.1) 1 z.2.2.2.2) F_a1 F_a2 F_a3 x4 z.1 z.2.1) N ((0 : Int32), (0 : Int32), (F_t 2), (L_t_one 0), (L_t_one 1))) (fun v_7 => some (v_7.1, v_7.2.1, v_7.2.2.1, v_7.2.2.2))
set_option maxHeartbeats 4000000 in
set_option maxRecDepth 100000 in
theorem t_X7_fittingCracks {p : Program} {l : Launch} {e : Env} {s : State} {m : MethodId} {args : Array Value} {below : List Frame} {meth : Method} {c : Code} {g : gG} {A : Nat → Prop} (E : En p s m args meth c g A cX7_fittingCracks 7 (.code yX7_fittingCracks cX7_fittingCracks 7 (some .int) :: gW) RX7 (some .int)) (q_t : Nat) (Q_t : Ad) (Q_t_one : Ad) (q_a1 : Nat) (Q_a1 : Ad) (q_a2 : Nat) (Q_a2 : Ad) (q_a3 : Nat) (Q_a3 : Ad) (N : Nat) (F_t : St) (L_t_one : SL) (F_a1 : St) (F_a2 : St) (F_a3 : St) (x4 : Int32) (o : Int32 × (Nat → Int32) × (Nat → Int64) × (Nat → Int64)) (h : x_X7_fittingCracks N F_t L_t_one F_a1 F_a2 F_a3 x4 = some o) : WA p l e (rM 4 96) s m args below meth c g A (MQ below (QI g A o.1 [oX7 q_t Q_t, ia g (Q_t 2) 10 o.2.1, oX8 (Q_t 0) Q_t_one, la g (Q_t_one 0) 8 o.2.2.1, la g (Q_t_one 1) 8 o.2.2.2, oX4 q_a1 Q_a1 (F_a1 0 0) (F_a1 1 0) (F_a1 2 0), ia g (Q_a1 3) 8 (F_a1 3), ia g (Q_a1 5) 10 (F_a1 5), ia g (Q_a1 6) 10 (F_a1 6), ia g (Q_a1 7) 10 (F_a1 7), ia g (Q_a1 8) 10 (F_a1 8), oX0 q_a2 Q_a2 (F_a2 0 0) (F_a2 1 0), oX2 q_a3 Q_a3 (F_a3 0 0) (F_a3 1 0), ia g (Q_a3 2) 6 (F_a3 2), ia g (Q_a3 3) 6 (F_a3 3), ia g (Q_a3 4) 6 (F_a3 4)]) args s 0 0 A) 7 0 [oX7 q_t Q_t, ia g (Q_t 2) 10 (F_t 2), oX8 (Q_t 0) Q_t_one, la g (Q_t_one 0) 8 (L_t_one 0), la g (Q_t_one 1) 8 (L_t_one 1), oX4 q_a1 Q_a1 (F_a1 0 0) (F_a1 1 0) (F_a1 2 0), ia g (Q_a1 3) 8 (F_a1 3), ia g (Q_a1 5) 10 (F_a1 5), ia g (Q_a1 6) 10 (F_a1 6), ia g (Q_a1 7) 10 (F_a1 7), ia g (Q_a1 8) 10 (F_a1 8), oX0 q_a2 Q_a2 (F_a2 0 0) (F_a2 1 0), oX2 q_a3 Q_a3 (F_a3 0 0) (F_a3 1 0), ia g (Q_a3 2) 6 (F_a3 2), ia g (Q_a3 3) 6 (F_a3 3), ia g (Q_a3 4) 6 (F_a3 4)] [(0, .ref q_t), (1, .ref q_a1), (2, .ref q_a2), (3, .ref q_a3), (4, .int x4)] [] := by
  obtain ⟨⟨hx, hb, hml, hown, hts⟩, hr, hK, hA, hlk⟩ := id E
  intro H locs ls hP hD hS hl
  refine lv_iconst (v := (0 : Int32)) hx hb dX7_fittingCracks_0 (by decide) ?_
  refine lv_istore (lv' := [(5, .int (0 : Int32)), (0, .ref q_t), (1, .ref q_a1), (2, .ref q_a2), (3, .ref q_a3), (4, .int x4)]) hx hb dX7_fittingCracks_1 hl (by decide) rfl (fun ls hl => ?_)
  refine lv_iconst (v := (0 : Int32)) hx hb dX7_fittingCracks_3 (by decide) ?_
  refine lv_istore (lv' := [(6, .int (0 : Int32)), (5, .int (0 : Int32)), (0, .ref q_t), (1, .ref q_a1), (2, .ref q_a2), (3, .ref q_a3), (4, .int x4)]) hx hb dX7_fittingCracks_4 hl (by decide) rfl (fun ls hl => ?_)
  obtain ⟨v_7, hv_7, h⟩ := ox_bind h
  refine lpc_W (Wh := fun (z : Int32 × Int32 × (Nat → Int32) × (Nat → Int64) × (Nat → Int64)) => WA p l e (rM 4 96) s m args below meth c g A (MQ below (QI g A o.1 [oX7 q_t Q_t, ia g (Q_t 2) 10 o.2.1, oX8 (Q_t 0) Q_t_one, la g (Q_t_one 0) 8 o.2.2.1, la g (Q_t_one 1) 8 o.2.2.2, oX4 q_a1 Q_a1 (F_a1 0 0) (F_a1 1 0) (F_a1 2 0), ia g (Q_a1 3) 8 (F_a1 3), ia g (Q_a1 5) 10 (F_a1 5), ia g (Q_a1 6) 10 (F_a1 6), ia g (Q_a1 7) 10 (F_a1 7), ia g (Q_a1 8) 10 (F_a1 8), oX0 q_a2 Q_a2 (F_a2 0 0) (F_a2 1 0), oX2 q_a3 Q_a3 (F_a3 0 0) (F_a3 1 0), ia g (Q_a3 2) 6 (F_a3 2), ia g (Q_a3 3) 6 (F_a3 3), ia g (Q_a3 4) 6 (F_a3 4)]) args s 0 0 A) 7 6 [oX7 q_t Q_t, ia g (Q_t 2) 10 z.2.2.1, oX8 (Q_t 0) Q_t_one, la g (Q_t_one 0) 8 z.2.2.2.1, la g (Q_t_one 1) 8 z.2.2.2.2, oX4 q_a1 Q_a1 (F_a1 0 0) (F_a1 1 0) (F_a1 2 0), ia g (Q_a1 3) 8 (F_a1 3), ia g (Q_a1 5) 10 (F_a1 5), ia g (Q_a1 6) 10 (F_a1 6), ia g (Q_a1 7) 10 (F_a1 7), ia g (Q_a1 8) 10 (F_a1 8), oX0 q_a2 Q_a2 (F_a2 0 0) (F_a2 1 0), oX2 q_a3 Q_a3 (F_a3 0 0) (F_a3 1 0), ia g (Q_a3 2) 6 (F_a3 2), ia g (Q_a3 3) 6 (F_a3 3), ia g (Q_a3 4) 6 (F_a3 4)] [(0, .ref q_t), (1, .ref q_a1), (2, .ref q_a2), (3, .ref q_a3), (4, .int x4), (5, .int z.1), (6, .int z.2.1)] []) (We := fun (v : Int32 × (Nat → Int32) × (Nat → Int64) × (Nat → Int64)) => WA p l e (rM 4 96) s m args below meth c g A (MQ below (QI g A o.1 [oX7 q_t Q_t, ia g (Q_t 2) 10 o.2.1, oX8 (Q_t 0) Q_t_one, la g (Q_t_one 0) 8 o.2.2.1, la g (Q_t_one 1) 8 o.2.2.2, oX4 q_a1 Q_a1 (F_a1 0 0) (F_a1 1 0) (F_a1 2 0), ia g (Q_a1 3) 8 (F_a1 3), ia g (Q_a1 5) 10 (F_a1 5), ia g (Q_a1 6) 10 (F_a1 6), ia g (Q_a1 7) 10 (F_a1 7), ia g (Q_a1 8) 10 (F_a1 8), oX0 q_a2 Q_a2 (F_a2 0 0) (F_a2 1 0), oX2 q_a3 Q_a3 (F_a3 0 0) (F_a3 1 0), ia g (Q_a3 2) 6 (F_a3 2), ia g (Q_a3 3) 6 (F_a3 3), ia g (Q_a3 4) 6 (F_a3 4)]) args s 0 0 A) 7 58 [oX7 q_t Q_t, ia g (Q_t 2) 10 v.2.1, oX8 (Q_t 0) Q_t_one, la g (Q_t_one 0) 8 v.2.2.1, la g (Q_t_one 1) 8 v.2.2.2, oX4 q_a1 Q_a1 (F_a1 0 0) (F_a1 1 0) (F_a1 2 0), ia g (Q_a1 3) 8 (F_a1 3), ia g (Q_a1 5) 10 (F_a1 5), ia g (Q_a1 6) 10 (F_a1 6), ia g (Q_a1 7) 10 (F_a1 7), ia g (Q_a1 8) 10 (F_a1 8), oX0 q_a2 Q_a2 (F_a2 0 0) (F_a2 1 0), oX2 q_a3 Q_a3 (F_a3 0 0) (F_a3 1 0), ia g (Q_a3 2) 6 (F_a3 2), ia g (Q_a3 3) 6 (F_a3 3), ia g (Q_a3 4) 6 (F_a3 4)] [(5, .int v.1)] []) (fun z r hb hc he => t_X7_fittingCracks_b6 E q_t Q_t Q_t_one q_a1 Q_a1 q_a2 Q_a2 q_a3 Q_a3 N (va_up F_t 2 z.2.2.1) (va_up (va_up L_t_one 0 z.2.2.2.1) 1 z.2.2.2.2) F_a1 F_a2 F_a3 x4 z.1 z.2.1 r hb hc he) N ((0 : Int32), (0 : Int32), (F_t 2), (L_t_one 0), (L_t_one 1)) v_7 hv_7 ?_ H locs ls hP hD hS (lv_sub hl [2, 3, 4, 5, 6, 1, 0] rfl)
  intro H locs ls hP hD hS hl
  refine lv_iload hx hb dX7_fittingCracks_58 (lv_at hl 0 rfl) ?_
  obtain rfl := Option.some.inj h
  exact k_iret hx hb hr hlk hP hD hS dX7_fittingCracks_60
set_option maxRecDepth 100000 in
theorem c_X7_fittingCracks (l : Launch) (g : gG) (q_t : Nat) (Q_t : Ad) (Q_t_one : Ad) (q_a1 : Nat) (Q_a1 : Ad) (q_a2 : Nat) (Q_a2 : Ad) (q_a3 : Nat) (Q_a3 : Ad) (N : Nat) (F_t : St) (L_t_one : SL) (F_a1 : St) (F_a2 : St) (F_a3 : St) (x4 : Int32) (o : Int32 × (Nat → Int32) × (Nat → Int64) × (Nat → Int64)) (h : x_X7_fittingCracks N F_t L_t_one F_a1 F_a2 F_a3 x4 = some o) (sz : Nat) : MetI l yX7_fittingCracks (.code yX7_fittingCracks cX7_fittingCracks 7 (some .int) :: gW) 4 96 [.ref q_t, .ref q_a1, .ref q_a2, .ref q_a3, .int x4] o.1 g [oX7 q_t Q_t, ia g (Q_t 2) 10 (F_t 2), oX8 (Q_t 0) Q_t_one, la g (Q_t_one 0) 8 (L_t_one 0), la g (Q_t_one 1) 8 (L_t_one 1), oX4 q_a1 Q_a1 (F_a1 0 0) (F_a1 1 0) (F_a1 2 0), ia g (Q_a1 3) 8 (F_a1 3), ia g (Q_a1 5) 10 (F_a1 5), ia g (Q_a1 6) 10 (F_a1 6), ia g (Q_a1 7) 10 (F_a1 7), ia g (Q_a1 8) 10 (F_a1 8), oX0 q_a2 Q_a2 (F_a2 0 0) (F_a2 1 0), oX2 q_a3 Q_a3 (F_a3 0 0) (F_a3 1 0), ia g (Q_a3 2) 6 (F_a3 2), ia g (Q_a3 3) 6 (F_a3 3), ia g (Q_a3 4) 6 (F_a3 4)] [oX7 q_t Q_t, ia g (Q_t 2) 10 o.2.1, oX8 (Q_t 0) Q_t_one, la g (Q_t_one 0) 8 o.2.2.1, la g (Q_t_one 1) 8 o.2.2.2, oX4 q_a1 Q_a1 (F_a1 0 0) (F_a1 1 0) (F_a1 2 0), ia g (Q_a1 3) 8 (F_a1 3), ia g (Q_a1 5) 10 (F_a1 5), ia g (Q_a1 6) 10 (F_a1 6), ia g (Q_a1 7) 10 (F_a1 7), ia g (Q_a1 8) 10 (F_a1 8), oX0 q_a2 Q_a2 (F_a2 0 0) (F_a2 1 0), oX2 q_a3 Q_a3 (F_a3 0 0) (F_a3 1 0), ia g (Q_a3 2) 6 (F_a3 2), ia g (Q_a3 3) 6 (F_a3 3), ia g (Q_a3 4) 6 (F_a3 4)] sz :=
  mkI (av := [.ref q_t, .ref q_a1, .ref q_a2, .ref q_a3, .int x4]) (by decide +kernel) rfl (fun p e s m below meth c A E H locs ls hP hD hS hl => t_X7_fittingCracks E q_t Q_t Q_t_one q_a1 Q_a1 q_a2 Q_a2 q_a3 Q_a3 N F_t L_t_one F_a1 F_a2 F_a3 x4 o h H locs ls hP hD hS hl) sz
def x_X7_noteHours_b27 (N : Nat) (F_t : St) (L_t_one : SL) (F_a1 : St) (F_a2 : St) (x3 : Int32) (x5 : Int32) : Option ((Int32 × (Nat → Int32)) ⊕ ((Nat → Int32))) :=
  if (F_a1 1 0) ≤ x5 then (some (.inr (F_t 3))) else (Option.bind (x_X8_firstHour L_t_one x5) (fun v_4 => if ((x3 * (8 : Int32)) + x5) < 0 ∨ 88 ≤ ((x3 * (8 : Int32)) + x5).toNatClampNeg then none else some (.inl ((x5 + (1 : Int32)), (upd (F_t 3) ((x3 * (8 : Int32)) + x5).toNatClampNeg v_4)))))
set_option maxHeartbeats 4000000 in
set_option maxRecDepth 100000 in
theorem t_X7_noteHours_b27 {p : Program} {l : Launch} {e : Env} {s : State} {m : MethodId} {args : Array Value} {below : List Frame} {meth : Method} {c : Code} {g : gG} {A : Nat → Prop} {Q : State → Prop} (E : En p s m args meth c g A cX7_noteHours 6 (.code yX7_noteHours cX7_noteHours 6 none :: gW) RX7 none) (q_t : Nat) (Q_t : Ad) (Q_t_one : Ad) (q_a1 : Nat) (Q_a1 : Ad) (q_a2 : Nat) (Q_a2 : Ad) (N : Nat) (F_t : St) (L_t_one : SL) (F_a1 : St) (F_a2 : St) (x3 : Int32) (x5 : Int32) (o : (Int32 × (Nat → Int32)) ⊕ ((Nat → Int32))) (h : x_X7_noteHours_b27 N F_t L_t_one F_a1 F_a2 x3 x5 = some o) (hc : ∀ z, o = .inl z → WA p l e (rM 3 70) s m args below meth c g A Q 6 27 [oX7 q_t Q_t, ia g (Q_t 2) 10 (F_t 2), ia g (Q_t 3) 88 z.2, oX8 (Q_t 0) Q_t_one, la g (Q_t_one 0) 8 (L_t_one 0), la g (Q_t_one 1) 8 (L_t_one 1), oX4 q_a1 Q_a1 (F_a1 0 0) (F_a1 1 0) (F_a1 2 0), ia g (Q_a1 3) 8 (F_a1 3), ia g (Q_a1 5) 10 (F_a1 5), ia g (Q_a1 6) 10 (F_a1 6), ia g (Q_a1 7) 10 (F_a1 7), ia g (Q_a1 8) 10 (F_a1 8), oX0 q_a2 Q_a2 (F_a2 0 0) (F_a2 1 0)] [(0, .ref q_t), (1, .ref q_a1), (3, .int x3), (5, .int z.1)] []) (he : ∀ v, o = .inr v → WA p l e (rM 3 70) s m args below meth c g A Q 6 63 [oX7 q_t Q_t, ia g (Q_t 2) 10 (F_t 2), ia g (Q_t 3) 88 v, oX8 (Q_t 0) Q_t_one, la g (Q_t_one 0) 8 (L_t_one 0), la g (Q_t_one 1) 8 (L_t_one 1), oX4 q_a1 Q_a1 (F_a1 0 0) (F_a1 1 0) (F_a1 2 0), ia g (Q_a1 3) 8 (F_a1 3), ia g (Q_a1 5) 10 (F_a1 5), ia g (Q_a1 6) 10 (F_a1 6), ia g (Q_a1 7) 10 (F_a1 7), ia g (Q_a1 8) 10 (F_a1 8), oX0 q_a2 Q_a2 (F_a2 0 0) (F_a2 1 0)] [] []) : WA p l e (rM 3 70) s m args below meth c g A Q 6 27 [oX7 q_t Q_t, ia g (Q_t 2) 10 (F_t 2), ia g (Q_t 3) 88 (F_t 3), oX8 (Q_t 0) Q_t_one, la g (Q_t_one 0) 8 (L_t_one 0), la g (Q_t_one 1) 8 (L_t_one 1), oX4 q_a1 Q_a1 (F_a1 0 0) (F_a1 1 0) (F_a1 2 0), ia g (Q_a1 3) 8 (F_a1 3), ia g (Q_a1 5) 10 (F_a1 5), ia g (Q_a1 6) 10 (F_a1 6), ia g (Q_a1 7) 10 (F_a1 7), ia g (Q_a1 8) 10 (F_a1 8), oX0 q_a2 Q_a2 (F_a2 0 0) (F_a2 1 0)] [(0, .ref q_t), (1, .ref q_a1), (3, .int x3), (5, .int x5)] [] := by
  obtain ⟨⟨hx, hb, hml, hown, hts⟩, hr, hK, hA, hlk⟩ := id E
  intro H locs ls hP hD hS hl
  refine lv_iload hx hb dX7_noteHours_27 (lv_at hl 3 rfl) ?_
  refine lv_aload_n hx hb dX7_noteHours_29 rfl (lv_at hl 1 rfl) ?_
  refine va_get (ci := 4) (v := .int (F_a1 1 0)) (C := RX4) (T := TX4) (N := 9) hx hb hts (fun w h => .tail _ (u_inX4 w h)) hown hK.1 hP 6 rfl rfl 1 (by decide) (hts _ (.tail _ u_fl_X7_56)) (fun _ h9 => h9) rfl dX7_noteHours_30 ?_
  refine lv_icmp_ge (tgt := 63) hx hb dX7_noteHours_33 (by decide) (fun c_3 => ?_) (fun c_3 => ?_)
  · have h := ox_t c_3 h
    obtain rfl := Option.some.inj h
    exact he _ rfl H locs ls hP hD hS (lv_sub hl [] rfl)
  · have h := ox_f c_3 h
    refine lv_aload_n hx hb dX7_noteHours_36 rfl (lv_at hl 0 rfl) ?_
    refine va_get (ci := 7) (v := .ref (Q_t 3)) (C := RX7) (T := TX7) (N := 4) hx hb hts (fun w h => .tail _ (u_inX7 w h)) hown hK.1 hP 0 rfl rfl 3 (by decide) (hts _ (.tail _ u_fl_X7_25)) (fun _ h9 => h9) rfl dX7_noteHours_37 ?_
    refine lv_iload_n hx hb dX7_noteHours_40 rfl (lv_at hl 2 rfl) ?_
    refine lv_bipush (v := (8 : Int32)) hx hb dX7_noteHours_41 (by decide) ?_
    refine lv_imul hx hb dX7_noteHours_43 ?_
    refine lv_iload hx hb dX7_noteHours_44 (lv_at hl 3 rfl) ?_
    refine lv_iadd hx hb dX7_noteHours_46 ?_
    refine lv_aload_n hx hb dX7_noteHours_47 rfl (lv_at hl 0 rfl) ?_
    refine va_get (ci := 7) (v := .ref (Q_t 0)) (C := RX7) (T := TX7) (N := 4) hx hb hts (fun w h => .tail _ (u_inX7 w h)) hown hK.1 hP 0 rfl rfl 0 (by decide) (hts _ (.tail _ u_fl_X7_12)) (fun _ h9 => h9) rfl dX7_noteHours_48 ?_
    refine lv_iload hx hb dX7_noteHours_51 (lv_at hl 3 rfl) ?_
    obtain ⟨v_4, hv_4, h⟩ := ox_bind h
    refine kVi ⟨hx, hb, hml, hown, hts⟩ (c_X8_firstHour l g (Q_t 0) Q_t_one L_t_one x5 v_4 hv_4 H.size) (gV u_ml_X7_88 u_im_X8_firstHour u_se_X8_firstHour u_ini_X8 u_co_X8_firstHour) hd_X8_firstHour ⟨rfl, rfl⟩ hK hP hD hS hA 3 8 rfl rfl [3, 4, 5] [3, 4, 5, 0, 1, 2, 9, 10, 11, 12, 13, 14, 15] rfl rfl 3 rfl (w2 := [oX7 q_t Q_t, ia g (Q_t 2) 10 (F_t 2), ia g (Q_t 3) 88 (F_t 3), oX8 (Q_t 0) Q_t_one, la g (Q_t_one 0) 8 (L_t_one 0), la g (Q_t_one 1) 8 (L_t_one 1), oX4 q_a1 Q_a1 (F_a1 0 0) (F_a1 1 0) (F_a1 2 0), ia g (Q_a1 3) 8 (F_a1 3), ia g (Q_a1 5) 10 (F_a1 5), ia g (Q_a1 6) 10 (F_a1 6), ia g (Q_a1 7) 10 (F_a1 7), ia g (Q_a1 8) 10 (F_a1 8), oX0 q_a2 Q_a2 (F_a2 0 0) (F_a2 1 0)]) rfl rfl (As := [.int x5]) (rest := [.int ((x3 * (8 : Int32)) + x5), .ref (Q_t 3)]) rfl hl.1 rfl rfl dX7_noteHours_53 (fun H locs hP hD hS => ?_)
    obtain ⟨hi_5, h⟩ := ox_chk h
    refine va_iast hx hb hK.1 hP hD hS 2 0 rfl rfl hi_5 dX7_noteHours_56 (fun H locs hP hD hS => ?_)
    have hP : va_P g.1 vwCl [oX7 q_t Q_t, ia g (Q_t 2) 10 (F_t 2), ia g (Q_t 3) 88 (upd (F_t 3) ((x3 * (8 : Int32)) + x5).toNatClampNeg v_4), oX8 (Q_t 0) Q_t_one, la g (Q_t_one 0) 8 (L_t_one 0), la g (Q_t_one 1) 8 (L_t_one 1), oX4 q_a1 Q_a1 (F_a1 0 0) (F_a1 1 0) (F_a1 2 0), ia g (Q_a1 3) 8 (F_a1 3), ia g (Q_a1 5) 10 (F_a1 5), ia g (Q_a1 6) 10 (F_a1 6), ia g (Q_a1 7) 10 (F_a1 7), ia g (Q_a1 8) 10 (F_a1 8), oX0 q_a2 Q_a2 (F_a2 0 0) (F_a2 1 0)] H := hP
    have hD : va_D A [oX7 q_t Q_t, ia g (Q_t 2) 10 (F_t 2), ia g (Q_t 3) 88 (upd (F_t 3) ((x3 * (8 : Int32)) + x5).toNatClampNeg v_4), oX8 (Q_t 0) Q_t_one, la g (Q_t_one 0) 8 (L_t_one 0), la g (Q_t_one 1) 8 (L_t_one 1), oX4 q_a1 Q_a1 (F_a1 0 0) (F_a1 1 0) (F_a1 2 0), ia g (Q_a1 3) 8 (F_a1 3), ia g (Q_a1 5) 10 (F_a1 5), ia g (Q_a1 6) 10 (F_a1 6), ia g (Q_a1 7) 10 (F_a1 7), ia g (Q_a1 8) 10 (F_a1 8), oX0 q_a2 Q_a2 (F_a2 0 0) (F_a2 1 0)] := hD
    refine lv_iinc (v := (x5 + (1 : Int32))) (lv' := [(5, .int (x5 + (1 : Int32))), (0, .ref q_t), (1, .ref q_a1), (3, .int x3)]) hx hb dX7_noteHours_57 hl (k := 3) rfl rfl (by decide) rfl (fun ls hl => ?_)
    refine lv_goto (tgt := 27) hx hb dX7_noteHours_60 (by decide) ?_
    obtain rfl := Option.some.inj h
    exact hc _ rfl H locs ls hP hD hS (lv_sub hl [1, 2, 3, 0] rfl)
def x_X7_noteHours (N : Nat) (F_t : St) (L_t_one : SL) (F_a1 : St) (F_a2 : St) (x3 : Int32) (x4 : Int32) : Option ((Nat → Int32) × (Nat → Int32) × (Nat → Int64) × (Nat → Int64)) :=
  Option.bind (x_X7_crackAlone N F_t x3 x4) (fun v_1 => Option.bind (x_X8_run N L_t_one F_a1 v_1 (0 : Int32) (F_a2 1 0)) (fun v_2 => Option.bind (lpc (fun (z : Int32 × (Nat → Int32)) => x_X7_noteHours_b27 N (va_up (va_up F_t 2 v_1) 3 z.2) (va_up (va_up L_t_one 0 v_2.1) 1 v_2.2) F_a1 F_a2 x3 z.1) N ((0 : Int32), (F_t 3))) (fun v_6 => some (v_1, v_6, v_2.1, v_2.2))))
set_option maxHeartbeats 4000000 in
set_option maxRecDepth 100000 in
theorem t_X7_noteHours {p : Program} {l : Launch} {e : Env} {s : State} {m : MethodId} {args : Array Value} {below : List Frame} {meth : Method} {c : Code} {g : gG} {A : Nat → Prop} (E : En p s m args meth c g A cX7_noteHours 6 (.code yX7_noteHours cX7_noteHours 6 none :: gW) RX7 none) (q_t : Nat) (Q_t : Ad) (Q_t_one : Ad) (q_a1 : Nat) (Q_a1 : Ad) (q_a2 : Nat) (Q_a2 : Ad) (N : Nat) (F_t : St) (L_t_one : SL) (F_a1 : St) (F_a2 : St) (x3 : Int32) (x4 : Int32) (o : (Nat → Int32) × (Nat → Int32) × (Nat → Int64) × (Nat → Int64)) (h : x_X7_noteHours N F_t L_t_one F_a1 F_a2 x3 x4 = some o) : WA p l e (rM 3 70) s m args below meth c g A (MQ below (QV g A [oX7 q_t Q_t, ia g (Q_t 2) 10 o.1, ia g (Q_t 3) 88 o.2.1, oX8 (Q_t 0) Q_t_one, la g (Q_t_one 0) 8 o.2.2.1, la g (Q_t_one 1) 8 o.2.2.2, oX4 q_a1 Q_a1 (F_a1 0 0) (F_a1 1 0) (F_a1 2 0), ia g (Q_a1 3) 8 (F_a1 3), ia g (Q_a1 5) 10 (F_a1 5), ia g (Q_a1 6) 10 (F_a1 6), ia g (Q_a1 7) 10 (F_a1 7), ia g (Q_a1 8) 10 (F_a1 8), oX0 q_a2 Q_a2 (F_a2 0 0) (F_a2 1 0)]) args s 0 0 A) 6 0 [oX7 q_t Q_t, ia g (Q_t 2) 10 (F_t 2), ia g (Q_t 3) 88 (F_t 3), oX8 (Q_t 0) Q_t_one, la g (Q_t_one 0) 8 (L_t_one 0), la g (Q_t_one 1) 8 (L_t_one 1), oX4 q_a1 Q_a1 (F_a1 0 0) (F_a1 1 0) (F_a1 2 0), ia g (Q_a1 3) 8 (F_a1 3), ia g (Q_a1 5) 10 (F_a1 5), ia g (Q_a1 6) 10 (F_a1 6), ia g (Q_a1 7) 10 (F_a1 7), ia g (Q_a1 8) 10 (F_a1 8), oX0 q_a2 Q_a2 (F_a2 0 0) (F_a2 1 0)] [(0, .ref q_t), (1, .ref q_a1), (2, .ref q_a2), (3, .int x3), (4, .int x4)] [] := by
  obtain ⟨⟨hx, hb, hml, hown, hts⟩, hr, hK, hA, hlk⟩ := id E
  intro H locs ls hP hD hS hl
  refine lv_aload_n hx hb dX7_noteHours_0 rfl (lv_at hl 0 rfl) ?_
  refine lv_iload_n hx hb dX7_noteHours_1 rfl (lv_at hl 3 rfl) ?_
  refine lv_iload hx hb dX7_noteHours_2 (lv_at hl 4 rfl) ?_
  obtain ⟨v_1, hv_1, h⟩ := ox_bind h
  refine kVv ⟨hx, hb, hml, hown, hts⟩ (c_X7_crackAlone l g q_t Q_t N F_t x3 x4 v_1 hv_1 H.size) (gV u_ml_X7_73 u_im_X7_crackAlone u_se_X7_crackAlone u_ini_X7 u_co_X7_crackAlone) hd_X7_crackAlone ⟨rfl, rfl⟩ hK hP hD hS hA 0 7 rfl rfl [0, 1] [0, 1, 4, 5, 6, 7, 8, 9, 10, 11, 12, 13, 14] rfl rfl 2 rfl (w2 := [oX7 q_t Q_t, ia g (Q_t 2) 10 v_1, ia g (Q_t 3) 88 (F_t 3), oX8 (Q_t 0) Q_t_one, la g (Q_t_one 0) 8 (L_t_one 0), la g (Q_t_one 1) 8 (L_t_one 1), oX4 q_a1 Q_a1 (F_a1 0 0) (F_a1 1 0) (F_a1 2 0), ia g (Q_a1 3) 8 (F_a1 3), ia g (Q_a1 5) 10 (F_a1 5), ia g (Q_a1 6) 10 (F_a1 6), ia g (Q_a1 7) 10 (F_a1 7), ia g (Q_a1 8) 10 (F_a1 8), oX0 q_a2 Q_a2 (F_a2 0 0) (F_a2 1 0)]) rfl rfl (As := [.int x3, .int x4]) (rest := []) rfl hl.1 rfl rfl dX7_noteHours_4 (fun H locs hP hD hS => ?_)
  refine lv_aload_n hx hb dX7_noteHours_7 rfl (lv_at hl 0 rfl) ?_
  refine va_get (ci := 7) (v := .ref (Q_t 0)) (C := RX7) (T := TX7) (N := 4) hx hb hts (fun w h => .tail _ (u_inX7 w h)) hown hK.1 hP 0 rfl rfl 0 (by decide) (hts _ (.tail _ u_fl_X7_12)) (fun _ h9 => h9) rfl dX7_noteHours_8 ?_
  refine lv_aload_n hx hb dX7_noteHours_11 rfl (lv_at hl 1 rfl) ?_
  refine lv_iconst (v := (0 : Int32)) hx hb dX7_noteHours_12 (by decide) ?_
  refine lv_aload_n hx hb dX7_noteHours_13 rfl (lv_at hl 2 rfl) ?_
  refine va_get (ci := 0) (v := .int (F_a2 1 0)) (C := RX0) (T := TX0) (N := 7) hx hb hts (fun w h => .tail _ (u_inX0 w h)) hown hK.1 hP 12 rfl rfl 1 (by decide) (hts _ (.tail _ u_fl_X7_40)) (fun _ h9 => h9) rfl dX7_noteHours_14 ?_
  refine lv_aload_n hx hb dX7_noteHours_17 rfl (lv_at hl 0 rfl) ?_
  refine va_get (ci := 7) (v := .ref (Q_t 2)) (C := RX7) (T := TX7) (N := 4) hx hb hts (fun w h => .tail _ (u_inX7 w h)) hown hK.1 hP 0 rfl rfl 2 (by decide) (hts _ (.tail _ u_fl_X7_21)) (fun _ h9 => h9) rfl dX7_noteHours_18 ?_
  obtain ⟨v_2, hv_2, h⟩ := ox_bind h
  refine kVv ⟨hx, hb, hml, hown, hts⟩ (c_X8_run l g (Q_t 0) Q_t_one q_a1 Q_a1 (Q_t 2) N L_t_one F_a1 v_1 (0 : Int32) (F_a2 1 0) v_2 hv_2 H.size) (gV u_ml_X7_48 u_im_X8_run u_se_X8_run u_ini_X8 u_co_X8_run) hd_X8_run ⟨rfl, rfl⟩ hK hP hD hS hA 3 8 rfl rfl [3, 4, 5, 6, 7, 8, 9, 10, 11, 1] [10, 9, 12, 0, 1, 2, 3, 4, 5, 6, 7, 8, 22] rfl rfl 10 rfl (w2 := [oX7 q_t Q_t, ia g (Q_t 2) 10 v_1, ia g (Q_t 3) 88 (F_t 3), oX8 (Q_t 0) Q_t_one, la g (Q_t_one 0) 8 v_2.1, la g (Q_t_one 1) 8 v_2.2, oX4 q_a1 Q_a1 (F_a1 0 0) (F_a1 1 0) (F_a1 2 0), ia g (Q_a1 3) 8 (F_a1 3), ia g (Q_a1 5) 10 (F_a1 5), ia g (Q_a1 6) 10 (F_a1 6), ia g (Q_a1 7) 10 (F_a1 7), ia g (Q_a1 8) 10 (F_a1 8), oX0 q_a2 Q_a2 (F_a2 0 0) (F_a2 1 0)]) rfl rfl (As := [.ref q_a1, .int (0 : Int32), .int (F_a2 1 0), .ref (Q_t 2)]) (rest := []) rfl hl.1 rfl rfl dX7_noteHours_21 (fun H locs hP hD hS => ?_)
  refine lv_iconst (v := (0 : Int32)) hx hb dX7_noteHours_24 (by decide) ?_
  refine lv_istore (lv' := [(5, .int (0 : Int32)), (0, .ref q_t), (1, .ref q_a1), (2, .ref q_a2), (3, .int x3), (4, .int x4)]) hx hb dX7_noteHours_25 hl (by decide) rfl (fun ls hl => ?_)
  obtain ⟨v_6, hv_6, h⟩ := ox_bind h
  refine lpc_W (Wh := fun (z : Int32 × (Nat → Int32)) => WA p l e (rM 3 70) s m args below meth c g A (MQ below (QV g A [oX7 q_t Q_t, ia g (Q_t 2) 10 o.1, ia g (Q_t 3) 88 o.2.1, oX8 (Q_t 0) Q_t_one, la g (Q_t_one 0) 8 o.2.2.1, la g (Q_t_one 1) 8 o.2.2.2, oX4 q_a1 Q_a1 (F_a1 0 0) (F_a1 1 0) (F_a1 2 0), ia g (Q_a1 3) 8 (F_a1 3), ia g (Q_a1 5) 10 (F_a1 5), ia g (Q_a1 6) 10 (F_a1 6), ia g (Q_a1 7) 10 (F_a1 7), ia g (Q_a1 8) 10 (F_a1 8), oX0 q_a2 Q_a2 (F_a2 0 0) (F_a2 1 0)]) args s 0 0 A) 6 27 [oX7 q_t Q_t, ia g (Q_t 2) 10 v_1, ia g (Q_t 3) 88 z.2, oX8 (Q_t 0) Q_t_one, la g (Q_t_one 0) 8 v_2.1, la g (Q_t_one 1) 8 v_2.2, oX4 q_a1 Q_a1 (F_a1 0 0) (F_a1 1 0) (F_a1 2 0), ia g (Q_a1 3) 8 (F_a1 3), ia g (Q_a1 5) 10 (F_a1 5), ia g (Q_a1 6) 10 (F_a1 6), ia g (Q_a1 7) 10 (F_a1 7), ia g (Q_a1 8) 10 (F_a1 8), oX0 q_a2 Q_a2 (F_a2 0 0) (F_a2 1 0)] [(0, .ref q_t), (1, .ref q_a1), (3, .int x3), (5, .int z.1)] []) (We := fun (v : (Nat → Int32)) => WA p l e (rM 3 70) s m args below meth c g A (MQ below (QV g A [oX7 q_t Q_t, ia g (Q_t 2) 10 o.1, ia g (Q_t 3) 88 o.2.1, oX8 (Q_t 0) Q_t_one, la g (Q_t_one 0) 8 o.2.2.1, la g (Q_t_one 1) 8 o.2.2.2, oX4 q_a1 Q_a1 (F_a1 0 0) (F_a1 1 0) (F_a1 2 0), ia g (Q_a1 3) 8 (F_a1 3), ia g (Q_a1 5) 10 (F_a1 5), ia g (Q_a1 6) 10 (F_a1 6), ia g (Q_a1 7) 10 (F_a1 7), ia g (Q_a1 8) 10 (F_a1 8), oX0 q_a2 Q_a2 (F_a2 0 0) (F_a2 1 0)]) args s 0 0 A) 6 63 [oX7 q_t Q_t, ia g (Q_t 2) 10 v_1, ia g (Q_t 3) 88 v, oX8 (Q_t 0) Q_t_one, la g (Q_t_one 0) 8 v_2.1, la g (Q_t_one 1) 8 v_2.2, oX4 q_a1 Q_a1 (F_a1 0 0) (F_a1 1 0) (F_a1 2 0), ia g (Q_a1 3) 8 (F_a1 3), ia g (Q_a1 5) 10 (F_a1 5), ia g (Q_a1 6) 10 (F_a1 6), ia g (Q_a1 7) 10 (F_a1 7), ia g (Q_a1 8) 10 (F_a1 8), oX0 q_a2 Q_a2 (F_a2 0 0) (F_a2 1 0)] [] []) (fun z r hb hc he => t_X7_noteHours_b27 E q_t Q_t Q_t_one q_a1 Q_a1 q_a2 Q_a2 N (va_up (va_up F_t 2 v_1) 3 z.2) (va_up (va_up L_t_one 0 v_2.1) 1 v_2.2) F_a1 F_a2 x3 z.1 r hb hc he) N ((0 : Int32), (F_t 3)) v_6 hv_6 ?_ H locs ls hP hD hS (lv_sub hl [1, 2, 4, 0] rfl)
  intro H locs ls hP hD hS hl
  obtain rfl := Option.some.inj h
  exact k_vret hx hb hr hlk hP hD hS dX7_noteHours_63
set_option maxRecDepth 100000 in
theorem c_X7_noteHours (l : Launch) (g : gG) (q_t : Nat) (Q_t : Ad) (Q_t_one : Ad) (q_a1 : Nat) (Q_a1 : Ad) (q_a2 : Nat) (Q_a2 : Ad) (N : Nat) (F_t : St) (L_t_one : SL) (F_a1 : St) (F_a2 : St) (x3 : Int32) (x4 : Int32) (o : (Nat → Int32) × (Nat → Int32) × (Nat → Int64) × (Nat → Int64)) (h : x_X7_noteHours N F_t L_t_one F_a1 F_a2 x3 x4 = some o) (sz : Nat) : MetV l yX7_noteHours (.code yX7_noteHours cX7_noteHours 6 none :: gW) 3 70 [.ref q_t, .ref q_a1, .ref q_a2, .int x3, .int x4] g [oX7 q_t Q_t, ia g (Q_t 2) 10 (F_t 2), ia g (Q_t 3) 88 (F_t 3), oX8 (Q_t 0) Q_t_one, la g (Q_t_one 0) 8 (L_t_one 0), la g (Q_t_one 1) 8 (L_t_one 1), oX4 q_a1 Q_a1 (F_a1 0 0) (F_a1 1 0) (F_a1 2 0), ia g (Q_a1 3) 8 (F_a1 3), ia g (Q_a1 5) 10 (F_a1 5), ia g (Q_a1 6) 10 (F_a1 6), ia g (Q_a1 7) 10 (F_a1 7), ia g (Q_a1 8) 10 (F_a1 8), oX0 q_a2 Q_a2 (F_a2 0 0) (F_a2 1 0)] [oX7 q_t Q_t, ia g (Q_t 2) 10 o.1, ia g (Q_t 3) 88 o.2.1, oX8 (Q_t 0) Q_t_one, la g (Q_t_one 0) 8 o.2.2.1, la g (Q_t_one 1) 8 o.2.2.2, oX4 q_a1 Q_a1 (F_a1 0 0) (F_a1 1 0) (F_a1 2 0), ia g (Q_a1 3) 8 (F_a1 3), ia g (Q_a1 5) 10 (F_a1 5), ia g (Q_a1 6) 10 (F_a1 6), ia g (Q_a1 7) 10 (F_a1 7), ia g (Q_a1 8) 10 (F_a1 8), oX0 q_a2 Q_a2 (F_a2 0 0) (F_a2 1 0)] sz :=
  mkV (av := [.ref q_t, .ref q_a1, .ref q_a2, .int x3, .int x4]) (by decide +kernel) rfl (fun p e s m below meth c A E H locs ls hP hD hS hl => t_X7_noteHours E q_t Q_t Q_t_one q_a1 Q_a1 q_a2 Q_a2 N F_t L_t_one F_a1 F_a2 x3 x4 o h H locs ls hP hD hS hl) sz
def x_X7_greatestPart_b18 (N : Nat) (F_t : St) (x1 : Int32) (x2 : Int32) (x3 : Int32) (x4 : Int32) (x5 : Int32) (x6 : Int32) : Option ((Int32 × Int32) ⊕ (Int32)) :=
  if (11 : Int32) ≤ x6 then (some (.inr x5)) else (Option.bind (x_X9_has x1 x4) (fun v_3 => if v_3 = 0 then (some (.inl (x5, (x6 + (1 : Int32))))) else (Option.bind (x_X9_has x1 x6) (fun v_5 => if v_5 = 0 then (some (.inl (x5, (x6 + (1 : Int32))))) else (if ((x4 * (8 : Int32)) + x2) < 0 ∨ 88 ≤ ((x4 * (8 : Int32)) + x2).toNatClampNeg then none else if ((x6 * (8 : Int32)) + x2) < 0 ∨ 88 ≤ ((x6 * (8 : Int32)) + x2).toNatClampNeg then none else if ((F_t 3) ((x4 * (8 : Int32)) + x2).toNatClampNeg) = ((F_t 3) ((x6 * (8 : Int32)) + x2).toNatClampNeg) then (some (.inl ((x5 + (1 : Int32)), (x6 + (1 : Int32))))) else (some (.inl (x5, (x6 + (1 : Int32))))))))))
set_option maxHeartbeats 4000000 in
set_option maxRecDepth 100000 in
theorem t_X7_greatestPart_b18 {p : Program} {l : Launch} {e : Env} {s : State} {m : MethodId} {args : Array Value} {below : List Frame} {meth : Method} {c : Code} {g : gG} {A : Nat → Prop} {Q : State → Prop} (E : En p s m args meth c g A cX7_greatestPart 7 (.code yX7_greatestPart cX7_greatestPart 7 (some .int) :: gW) RX7 (some .int)) (q_t : Nat) (Q_t : Ad) (N : Nat) (F_t : St) (x1 : Int32) (x2 : Int32) (x3 : Int32) (x4 : Int32) (x5 : Int32) (x6 : Int32) (o : (Int32 × Int32) ⊕ (Int32)) (h : x_X7_greatestPart_b18 N F_t x1 x2 x3 x4 x5 x6 = some o) (hc : ∀ z, o = .inl z → WA p l e (rM 1 21) s m args below meth c g A Q 7 18 [oX7 q_t Q_t, ia g (Q_t 3) 88 (F_t 3)] [(0, .ref q_t), (1, .int x1), (2, .int x2), (3, .int x3), (4, .int x4), (5, .int z.1), (6, .int z.2)] []) (he : ∀ v, o = .inr v → WA p l e (rM 1 21) s m args below meth c g A Q 7 79 [oX7 q_t Q_t, ia g (Q_t 3) 88 (F_t 3)] [(0, .ref q_t), (1, .int x1), (2, .int x2), (3, .int x3), (4, .int x4), (5, .int v)] []) : WA p l e (rM 1 21) s m args below meth c g A Q 7 18 [oX7 q_t Q_t, ia g (Q_t 3) 88 (F_t 3)] [(0, .ref q_t), (1, .int x1), (2, .int x2), (3, .int x3), (4, .int x4), (5, .int x5), (6, .int x6)] [] := by
  obtain ⟨⟨hx, hb, hml, hown, hts⟩, hr, hK, hA, hlk⟩ := id E
  intro H locs ls hP hD hS hl
  refine lv_iload hx hb dX7_greatestPart_18 (lv_at hl 6 rfl) ?_
  refine lv_bipush (v := (11 : Int32)) hx hb dX7_greatestPart_20 (by decide) ?_
  refine lv_icmp_ge (tgt := 79) hx hb dX7_greatestPart_22 (by decide) (fun c_2 => ?_) (fun c_2 => ?_)
  · have h := ox_t c_2 h
    obtain rfl := Option.some.inj h
    exact he _ rfl H locs ls hP hD hS (lv_sub hl [0, 1, 2, 3, 4, 5] rfl)
  · have h := ox_f c_2 h
    refine lv_iload_n hx hb dX7_greatestPart_25 rfl (lv_at hl 1 rfl) ?_
    refine lv_iload hx hb dX7_greatestPart_26 (lv_at hl 4 rfl) ?_
    obtain ⟨v_3, hv_3, h⟩ := ox_bind h
    refine kNi ⟨hx, hb, hml, hown, hts⟩ (c_X9_has l g x1 x4 v_3 hv_3 H.size) u_co_X9_has u_st_X9_has u_ini_X9 n_X7_100 hd_X9_has ⟨rfl, rfl⟩ hK hP hD hS hA [] [0, 1] rfl rfl 0 rfl (w2 := [oX7 q_t Q_t, ia g (Q_t 3) 88 (F_t 3)]) rfl rfl (As := [.int x1, .int x4]) (rest := []) rfl hl.1 rfl rfl dX7_greatestPart_28 (fun H locs hP hD hS => ?_)
    refine lv_if_eq (tgt := 73) hx hb dX7_greatestPart_31 (by decide) (fun c_4 => ?_) (fun c_4 => ?_)
    · have h := ox_t c_4 h
      refine lv_iinc (v := (x6 + (1 : Int32))) (lv' := [(6, .int (x6 + (1 : Int32))), (0, .ref q_t), (1, .int x1), (2, .int x2), (3, .int x3), (4, .int x4), (5, .int x5)]) hx hb dX7_greatestPart_73 hl (k := 6) rfl rfl (by decide) rfl (fun ls hl => ?_)
      refine lv_goto (tgt := 18) hx hb dX7_greatestPart_76 (by decide) ?_
      obtain rfl := Option.some.inj h
      exact hc _ rfl H locs ls hP hD hS (lv_sub hl [1, 2, 3, 4, 5, 6, 0] rfl)
    · have h := ox_f c_4 h
      refine lv_iload_n hx hb dX7_greatestPart_34 rfl (lv_at hl 1 rfl) ?_
      refine lv_iload hx hb dX7_greatestPart_35 (lv_at hl 6 rfl) ?_
      obtain ⟨v_5, hv_5, h⟩ := ox_bind h
      refine kNi ⟨hx, hb, hml, hown, hts⟩ (c_X9_has l g x1 x6 v_5 hv_5 H.size) u_co_X9_has u_st_X9_has u_ini_X9 n_X7_100 hd_X9_has ⟨rfl, rfl⟩ hK hP hD hS hA [] [0, 1] rfl rfl 0 rfl (w2 := [oX7 q_t Q_t, ia g (Q_t 3) 88 (F_t 3)]) rfl rfl (As := [.int x1, .int x6]) (rest := []) rfl hl.1 rfl rfl dX7_greatestPart_37 (fun H locs hP hD hS => ?_)
      refine lv_if_eq (tgt := 73) hx hb dX7_greatestPart_40 (by decide) (fun c_6 => ?_) (fun c_6 => ?_)
      · have h := ox_t c_6 h
        refine lv_iinc (v := (x6 + (1 : Int32))) (lv' := [(6, .int (x6 + (1 : Int32))), (0, .ref q_t), (1, .int x1), (2, .int x2), (3, .int x3), (4, .int x4), (5, .int x5)]) hx hb dX7_greatestPart_73 hl (k := 6) rfl rfl (by decide) rfl (fun ls hl => ?_)
        refine lv_goto (tgt := 18) hx hb dX7_greatestPart_76 (by decide) ?_
        obtain rfl := Option.some.inj h
        exact hc _ rfl H locs ls hP hD hS (lv_sub hl [1, 2, 3, 4, 5, 6, 0] rfl)
      · have h := ox_f c_6 h
        refine lv_aload_n hx hb dX7_greatestPart_43 rfl (lv_at hl 0 rfl) ?_
        refine va_get (ci := 7) (v := .ref (Q_t 3)) (C := RX7) (T := TX7) (N := 4) hx hb hts (fun w h => .tail _ (u_inX7 w h)) hown hK.1 hP 0 rfl rfl 3 (by decide) (hts _ (.tail _ u_fl_X7_25)) (fun _ h9 => h9) rfl dX7_greatestPart_44 ?_
        refine lv_iload hx hb dX7_greatestPart_47 (lv_at hl 4 rfl) ?_
        refine lv_bipush (v := (8 : Int32)) hx hb dX7_greatestPart_49 (by decide) ?_
        refine lv_imul hx hb dX7_greatestPart_51 ?_
        refine lv_iload_n hx hb dX7_greatestPart_52 rfl (lv_at hl 2 rfl) ?_
        refine lv_iadd hx hb dX7_greatestPart_53 ?_
        obtain ⟨hi_7, h⟩ := ox_chk h
        refine va_iald hx hb hK.1 hP 1 0 rfl rfl hi_7 dX7_greatestPart_54 ?_
        refine lv_aload_n hx hb dX7_greatestPart_55 rfl (lv_at hl 0 rfl) ?_
        refine va_get (ci := 7) (v := .ref (Q_t 3)) (C := RX7) (T := TX7) (N := 4) hx hb hts (fun w h => .tail _ (u_inX7 w h)) hown hK.1 hP 0 rfl rfl 3 (by decide) (hts _ (.tail _ u_fl_X7_25)) (fun _ h9 => h9) rfl dX7_greatestPart_56 ?_
        refine lv_iload hx hb dX7_greatestPart_59 (lv_at hl 6 rfl) ?_
        refine lv_bipush (v := (8 : Int32)) hx hb dX7_greatestPart_61 (by decide) ?_
        refine lv_imul hx hb dX7_greatestPart_63 ?_
        refine lv_iload_n hx hb dX7_greatestPart_64 rfl (lv_at hl 2 rfl) ?_
        refine lv_iadd hx hb dX7_greatestPart_65 ?_
        obtain ⟨hi_8, h⟩ := ox_chk h
        refine va_iald hx hb hK.1 hP 1 0 rfl rfl hi_8 dX7_greatestPart_66 ?_
        refine lv_icmp_ne (tgt := 73) hx hb dX7_greatestPart_67 (by decide) (fun c_9 => ?_) (fun c_9 => ?_)
        · have h := ox_f c_9 h
          refine lv_iinc (v := (x6 + (1 : Int32))) (lv' := [(6, .int (x6 + (1 : Int32))), (0, .ref q_t), (1, .int x1), (2, .int x2), (3, .int x3), (4, .int x4), (5, .int x5)]) hx hb dX7_greatestPart_73 hl (k := 6) rfl rfl (by decide) rfl (fun ls hl => ?_)
          refine lv_goto (tgt := 18) hx hb dX7_greatestPart_76 (by decide) ?_
          obtain rfl := Option.some.inj h
          exact hc _ rfl H locs ls hP hD hS (lv_sub hl [1, 2, 3, 4, 5, 6, 0] rfl)
        · have h := ox_t c_9 h
          refine lv_iinc (v := (x5 + (1 : Int32))) (lv' := [(5, .int (x5 + (1 : Int32))), (0, .ref q_t), (1, .int x1), (2, .int x2), (3, .int x3), (4, .int x4), (6, .int x6)]) hx hb dX7_greatestPart_70 hl (k := 5) rfl rfl (by decide) rfl (fun ls hl => ?_)
          refine lv_iinc (v := (x6 + (1 : Int32))) (lv' := [(6, .int (x6 + (1 : Int32))), (5, .int (x5 + (1 : Int32))), (0, .ref q_t), (1, .int x1), (2, .int x2), (3, .int x3), (4, .int x4)]) hx hb dX7_greatestPart_73 hl (k := 6) rfl rfl (by decide) rfl (fun ls hl => ?_)
          refine lv_goto (tgt := 18) hx hb dX7_greatestPart_76 (by decide) ?_
          obtain rfl := Option.some.inj h
          exact hc _ rfl H locs ls hP hD hS (lv_sub hl [2, 3, 4, 5, 6, 1, 0] rfl)
def x_X7_greatestPart_b5 (N : Nat) (F_t : St) (x1 : Int32) (x2 : Int32) (x3 : Int32) (x4 : Int32) : Option ((Int32 × Int32) ⊕ (Int32)) :=
  if (11 : Int32) ≤ x4 then (some (.inr x3)) else (Option.bind (lpc (fun (z : Int32 × Int32) => x_X7_greatestPart_b18 N F_t x1 x2 x3 x4 z.1 z.2) N ((0 : Int32), (0 : Int32))) (fun v_10 => xl (if x3 < v_10 then v_10 else x3) (fun y_11 => some (.inl (y_11, (x4 + (1 : Int32)))))))
set_option maxHeartbeats 4000000 in
set_option maxRecDepth 100000 in
theorem t_X7_greatestPart_b5 {p : Program} {l : Launch} {e : Env} {s : State} {m : MethodId} {args : Array Value} {below : List Frame} {meth : Method} {c : Code} {g : gG} {A : Nat → Prop} {Q : State → Prop} (E : En p s m args meth c g A cX7_greatestPart 7 (.code yX7_greatestPart cX7_greatestPart 7 (some .int) :: gW) RX7 (some .int)) (q_t : Nat) (Q_t : Ad) (N : Nat) (F_t : St) (x1 : Int32) (x2 : Int32) (x3 : Int32) (x4 : Int32) (o : (Int32 × Int32) ⊕ (Int32)) (h : x_X7_greatestPart_b5 N F_t x1 x2 x3 x4 = some o) (hc : ∀ z, o = .inl z → WA p l e (rM 1 21) s m args below meth c g A Q 7 5 [oX7 q_t Q_t, ia g (Q_t 3) 88 (F_t 3)] [(0, .ref q_t), (1, .int x1), (2, .int x2), (3, .int z.1), (4, .int z.2)] []) (he : ∀ v, o = .inr v → WA p l e (rM 1 21) s m args below meth c g A Q 7 92 [oX7 q_t Q_t, ia g (Q_t 3) 88 (F_t 3)] [(3, .int v)] []) : WA p l e (rM 1 21) s m args below meth c g A Q 7 5 [oX7 q_t Q_t, ia g (Q_t 3) 88 (F_t 3)] [(0, .ref q_t), (1, .int x1), (2, .int x2), (3, .int x3), (4, .int x4)] [] := by
  obtain ⟨⟨hx, hb, hml, hown, hts⟩, hr, hK, hA, hlk⟩ := id E
  intro H locs ls hP hD hS hl
  refine lv_iload hx hb dX7_greatestPart_5 (lv_at hl 4 rfl) ?_
  refine lv_bipush (v := (11 : Int32)) hx hb dX7_greatestPart_7 (by decide) ?_
  refine lv_icmp_ge (tgt := 92) hx hb dX7_greatestPart_9 (by decide) (fun c_1 => ?_) (fun c_1 => ?_)
  · have h := ox_t c_1 h
    obtain rfl := Option.some.inj h
    exact he _ rfl H locs ls hP hD hS (lv_sub hl [3] rfl)
  · have h := ox_f c_1 h
    refine lv_iconst (v := (0 : Int32)) hx hb dX7_greatestPart_12 (by decide) ?_
    refine lv_istore (lv' := [(5, .int (0 : Int32)), (0, .ref q_t), (1, .int x1), (2, .int x2), (3, .int x3), (4, .int x4)]) hx hb dX7_greatestPart_13 hl (by decide) rfl (fun ls hl => ?_)
    refine lv_iconst (v := (0 : Int32)) hx hb dX7_greatestPart_15 (by decide) ?_
    refine lv_istore (lv' := [(6, .int (0 : Int32)), (5, .int (0 : Int32)), (0, .ref q_t), (1, .int x1), (2, .int x2), (3, .int x3), (4, .int x4)]) hx hb dX7_greatestPart_16 hl (by decide) rfl (fun ls hl => ?_)
    obtain ⟨v_10, hv_10, h⟩ := ox_bind h
    refine lpc_W (Wh := fun (z : Int32 × Int32) => WA p l e (rM 1 21) s m args below meth c g A Q 7 18 [oX7 q_t Q_t, ia g (Q_t 3) 88 (F_t 3)] [(0, .ref q_t), (1, .int x1), (2, .int x2), (3, .int x3), (4, .int x4), (5, .int z.1), (6, .int z.2)] []) (We := fun (v : Int32) => WA p l e (rM 1 21) s m args below meth c g A Q 7 79 [oX7 q_t Q_t, ia g (Q_t 3) 88 (F_t 3)] [(0, .ref q_t), (1, .int x1), (2, .int x2), (3, .int x3), (4, .int x4), (5, .int v)] []) (fun z r hb hc he => t_X7_greatestPart_b18 E q_t Q_t N F_t x1 x2 x3 x4 z.1 z.2 r hb hc he) N ((0 : Int32), (0 : Int32)) v_10 hv_10 ?_ H locs ls hP hD hS (lv_sub hl [2, 3, 4, 5, 6, 1, 0] rfl)
    intro H locs ls hP hD hS hl
    refine lv_iload_n hx hb dX7_greatestPart_79 rfl (lv_at hl 3 rfl) ?_
    refine lv_iload hx hb dX7_greatestPart_80 (lv_at hl 5 rfl) ?_
    refine va_mmax hx hb (hml.trans hl.1.symm) hown (hts _ (.tail _ u_ml_X7_112)) (hts _ (.tail _ u_st_J9_max_7cf53)) (hts _ (.tail _ u_ini_J9)) (hts _ (.tail _ u_co_J9_max_7cf53)) (Nat.le_of_ble_eq_true rfl) (Nat.le_of_ble_eq_true rfl) (Nat.le_refl _) (Nat.le_refl _) dX7_greatestPart_82 ?_
    refine lv_topi (fun y_11 ey_11 => ?_)
    have h := xl_at ey_11 h
    refine lv_istore_n (lv' := [(3, .int y_11), (0, .ref q_t), (1, .int x1), (2, .int x2), (4, .int x4), (5, .int v_10)]) hx hb dX7_greatestPart_85 rfl hl (by decide) rfl (fun ls hl => ?_)
    refine lv_iinc (v := (x4 + (1 : Int32))) (lv' := [(4, .int (x4 + (1 : Int32))), (3, .int y_11), (0, .ref q_t), (1, .int x1), (2, .int x2), (5, .int v_10)]) hx hb dX7_greatestPart_86 hl (k := 4) rfl rfl (by decide) rfl (fun ls hl => ?_)
    refine lv_goto (tgt := 5) hx hb dX7_greatestPart_89 (by decide) ?_
    obtain rfl := Option.some.inj h
    exact hc _ rfl H locs ls hP hD hS (lv_sub hl [2, 3, 4, 1, 0] rfl)
def x_X7_greatestPart (N : Nat) (F_t : St) (x1 : Int32) (x2 : Int32) : Option (Int32) :=
  Option.bind (lpc (fun (z : Int32 × Int32) => x_X7_greatestPart_b5 N F_t x1 x2 z.1 z.2) N ((0 : Int32), (0 : Int32))) (fun v_12 => some v_12)
set_option maxHeartbeats 4000000 in
set_option maxRecDepth 100000 in
theorem t_X7_greatestPart {p : Program} {l : Launch} {e : Env} {s : State} {m : MethodId} {args : Array Value} {below : List Frame} {meth : Method} {c : Code} {g : gG} {A : Nat → Prop} (E : En p s m args meth c g A cX7_greatestPart 7 (.code yX7_greatestPart cX7_greatestPart 7 (some .int) :: gW) RX7 (some .int)) (q_t : Nat) (Q_t : Ad) (N : Nat) (F_t : St) (x1 : Int32) (x2 : Int32) (o : Int32) (h : x_X7_greatestPart N F_t x1 x2 = some o) : WA p l e (rM 1 21) s m args below meth c g A (MQ below (QI g A o [oX7 q_t Q_t, ia g (Q_t 3) 88 (F_t 3)]) args s 0 0 A) 7 0 [oX7 q_t Q_t, ia g (Q_t 3) 88 (F_t 3)] [(0, .ref q_t), (1, .int x1), (2, .int x2)] [] := by
  obtain ⟨⟨hx, hb, hml, hown, hts⟩, hr, hK, hA, hlk⟩ := id E
  intro H locs ls hP hD hS hl
  refine lv_iconst (v := (0 : Int32)) hx hb dX7_greatestPart_0 (by decide) ?_
  refine lv_istore_n (lv' := [(3, .int (0 : Int32)), (0, .ref q_t), (1, .int x1), (2, .int x2)]) hx hb dX7_greatestPart_1 rfl hl (by decide) rfl (fun ls hl => ?_)
  refine lv_iconst (v := (0 : Int32)) hx hb dX7_greatestPart_2 (by decide) ?_
  refine lv_istore (lv' := [(4, .int (0 : Int32)), (3, .int (0 : Int32)), (0, .ref q_t), (1, .int x1), (2, .int x2)]) hx hb dX7_greatestPart_3 hl (by decide) rfl (fun ls hl => ?_)
  obtain ⟨v_12, hv_12, h⟩ := ox_bind h
  refine lpc_W (Wh := fun (z : Int32 × Int32) => WA p l e (rM 1 21) s m args below meth c g A (MQ below (QI g A o [oX7 q_t Q_t, ia g (Q_t 3) 88 (F_t 3)]) args s 0 0 A) 7 5 [oX7 q_t Q_t, ia g (Q_t 3) 88 (F_t 3)] [(0, .ref q_t), (1, .int x1), (2, .int x2), (3, .int z.1), (4, .int z.2)] []) (We := fun (v : Int32) => WA p l e (rM 1 21) s m args below meth c g A (MQ below (QI g A o [oX7 q_t Q_t, ia g (Q_t 3) 88 (F_t 3)]) args s 0 0 A) 7 92 [oX7 q_t Q_t, ia g (Q_t 3) 88 (F_t 3)] [(3, .int v)] []) (fun z r hb hc he => t_X7_greatestPart_b5 E q_t Q_t N F_t x1 x2 z.1 z.2 r hb hc he) N ((0 : Int32), (0 : Int32)) v_12 hv_12 ?_ H locs ls hP hD hS (lv_sub hl [2, 3, 4, 1, 0] rfl)
  intro H locs ls hP hD hS hl
  refine lv_iload_n hx hb dX7_greatestPart_92 rfl (lv_at hl 0 rfl) ?_
  obtain rfl := Option.some.inj h
  exact k_iret hx hb hr hlk hP hD hS dX7_greatestPart_93
set_option maxRecDepth 100000 in
theorem c_X7_greatestPart (l : Launch) (g : gG) (q_t : Nat) (Q_t : Ad) (N : Nat) (F_t : St) (x1 : Int32) (x2 : Int32) (o : Int32) (h : x_X7_greatestPart N F_t x1 x2 = some o) (sz : Nat) : MetI l yX7_greatestPart (.code yX7_greatestPart cX7_greatestPart 7 (some .int) :: gW) 1 21 [.ref q_t, .int x1, .int x2] o g [oX7 q_t Q_t, ia g (Q_t 3) 88 (F_t 3)] [oX7 q_t Q_t, ia g (Q_t 3) 88 (F_t 3)] sz :=
  mkI (av := [.ref q_t, .int x1, .int x2]) (by decide +kernel) rfl (fun p e s m below meth c A E H locs ls hP hD hS hl => t_X7_greatestPart E q_t Q_t N F_t x1 x2 o h H locs ls hP hD hS hl) sz
def x_X7_bestListener_b3 (N : Nat) (F_t : St) (L_t_one : SL) (F_a1 : St) (F_a2 : St) (x3 : Int32) (x4 : Int32) (x5 : Int32) : Option ((Int32 × (Nat → Int32) × (Nat → Int32) × (Nat → Int64) × (Nat → Int64)) ⊕ ((Nat → Int32) × (Nat → Int32) × (Nat → Int64) × (Nat → Int64))) :=
  if (11 : Int32) ≤ x5 then (some (.inr ((F_t 2), (F_t 3), (L_t_one 0), (L_t_one 1)))) else (Option.bind (x_X9_has x3 x5) (fun v_2 => if v_2 = 0 then (some (.inl ((x5 + (1 : Int32)), (F_t 2), (F_t 3), (L_t_one 0), (L_t_one 1)))) else (Option.bind (x_X7_noteHours N F_t L_t_one F_a1 F_a2 x5 x4) (fun v_4 => some (.inl ((x5 + (1 : Int32)), v_4.1, v_4.2.1, v_4.2.2.1, v_4.2.2.2))))))
set_option maxHeartbeats 4000000 in
set_option maxRecDepth 100000 in
theorem t_X7_bestListener_b3 {p : Program} {l : Launch} {e : Env} {s : State} {m : MethodId} {args : Array Value} {below : List Frame} {meth : Method} {c : Code} {g : gG} {A : Nat → Prop} {Q : State → Prop} (E : En p s m args meth c g A cX7_bestListener 9 (.code yX7_bestListener cX7_bestListener 9 (some .int) :: gW) RX7 (some .int)) (q_t : Nat) (Q_t : Ad) (Q_t_one : Ad) (q_a1 : Nat) (Q_a1 : Ad) (q_a2 : Nat) (Q_a2 : Ad) (N : Nat) (F_t : St) (L_t_one : SL) (F_a1 : St) (F_a2 : St) (x3 : Int32) (x4 : Int32) (x5 : Int32) (o : (Int32 × (Nat → Int32) × (Nat → Int32) × (Nat → Int64) × (Nat → Int64)) ⊕ ((Nat → Int32) × (Nat → Int32) × (Nat → Int64) × (Nat → Int64))) (h : x_X7_bestListener_b3 N F_t L_t_one F_a1 F_a2 x3 x4 x5 = some o) (hc : ∀ z, o = .inl z → WA p l e (rM 4 95) s m args below meth c g A Q 9 3 [oX7 q_t Q_t, ia g (Q_t 2) 10 z.2.1, ia g (Q_t 3) 88 z.2.2.1, oX8 (Q_t 0) Q_t_one, la g (Q_t_one 0) 8 z.2.2.2.1, la g (Q_t_one 1) 8 z.2.2.2.2, oX4 q_a1 Q_a1 (F_a1 0 0) (F_a1 1 0) (F_a1 2 0), ia g (Q_a1 3) 8 (F_a1 3), ia g (Q_a1 5) 10 (F_a1 5), ia g (Q_a1 6) 10 (F_a1 6), ia g (Q_a1 7) 10 (F_a1 7), ia g (Q_a1 8) 10 (F_a1 8), oX0 q_a2 Q_a2 (F_a2 0 0) (F_a2 1 0)] [(0, .ref q_t), (1, .ref q_a1), (2, .ref q_a2), (3, .int x3), (4, .int x4), (5, .int z.1)] []) (he : ∀ v, o = .inr v → WA p l e (rM 4 95) s m args below meth c g A Q 9 35 [oX7 q_t Q_t, ia g (Q_t 2) 10 v.1, ia g (Q_t 3) 88 v.2.1, oX8 (Q_t 0) Q_t_one, la g (Q_t_one 0) 8 v.2.2.1, la g (Q_t_one 1) 8 v.2.2.2, oX4 q_a1 Q_a1 (F_a1 0 0) (F_a1 1 0) (F_a1 2 0), ia g (Q_a1 3) 8 (F_a1 3), ia g (Q_a1 5) 10 (F_a1 5), ia g (Q_a1 6) 10 (F_a1 6), ia g (Q_a1 7) 10 (F_a1 7), ia g (Q_a1 8) 10 (F_a1 8), oX0 q_a2 Q_a2 (F_a2 0 0) (F_a2 1 0)] [(0, .ref q_t), (1, .ref q_a1), (3, .int x3)] []) : WA p l e (rM 4 95) s m args below meth c g A Q 9 3 [oX7 q_t Q_t, ia g (Q_t 2) 10 (F_t 2), ia g (Q_t 3) 88 (F_t 3), oX8 (Q_t 0) Q_t_one, la g (Q_t_one 0) 8 (L_t_one 0), la g (Q_t_one 1) 8 (L_t_one 1), oX4 q_a1 Q_a1 (F_a1 0 0) (F_a1 1 0) (F_a1 2 0), ia g (Q_a1 3) 8 (F_a1 3), ia g (Q_a1 5) 10 (F_a1 5), ia g (Q_a1 6) 10 (F_a1 6), ia g (Q_a1 7) 10 (F_a1 7), ia g (Q_a1 8) 10 (F_a1 8), oX0 q_a2 Q_a2 (F_a2 0 0) (F_a2 1 0)] [(0, .ref q_t), (1, .ref q_a1), (2, .ref q_a2), (3, .int x3), (4, .int x4), (5, .int x5)] [] := by
  obtain ⟨⟨hx, hb, hml, hown, hts⟩, hr, hK, hA, hlk⟩ := id E
  intro H locs ls hP hD hS hl
  refine lv_iload hx hb dX7_bestListener_3 (lv_at hl 5 rfl) ?_
  refine lv_bipush (v := (11 : Int32)) hx hb dX7_bestListener_5 (by decide) ?_
  refine lv_icmp_ge (tgt := 35) hx hb dX7_bestListener_7 (by decide) (fun c_1 => ?_) (fun c_1 => ?_)
  · have h := ox_t c_1 h
    obtain rfl := Option.some.inj h
    exact he _ rfl H locs ls hP hD hS (lv_sub hl [0, 1, 3] rfl)
  · have h := ox_f c_1 h
    refine lv_iload_n hx hb dX7_bestListener_10 rfl (lv_at hl 3 rfl) ?_
    refine lv_iload hx hb dX7_bestListener_11 (lv_at hl 5 rfl) ?_
    obtain ⟨v_2, hv_2, h⟩ := ox_bind h
    refine kNi ⟨hx, hb, hml, hown, hts⟩ (c_X9_has l g x3 x5 v_2 hv_2 H.size) u_co_X9_has u_st_X9_has u_ini_X9 n_X7_100 hd_X9_has ⟨rfl, rfl⟩ hK hP hD hS hA [] [0, 1, 2, 3, 4, 5, 6, 7, 8, 9, 10, 11, 12] rfl rfl 0 rfl (w2 := [oX7 q_t Q_t, ia g (Q_t 2) 10 (F_t 2), ia g (Q_t 3) 88 (F_t 3), oX8 (Q_t 0) Q_t_one, la g (Q_t_one 0) 8 (L_t_one 0), la g (Q_t_one 1) 8 (L_t_one 1), oX4 q_a1 Q_a1 (F_a1 0 0) (F_a1 1 0) (F_a1 2 0), ia g (Q_a1 3) 8 (F_a1 3), ia g (Q_a1 5) 10 (F_a1 5), ia g (Q_a1 6) 10 (F_a1 6), ia g (Q_a1 7) 10 (F_a1 7), ia g (Q_a1 8) 10 (F_a1 8), oX0 q_a2 Q_a2 (F_a2 0 0) (F_a2 1 0)]) rfl rfl (As := [.int x3, .int x5]) (rest := []) rfl hl.1 rfl rfl dX7_bestListener_13 (fun H locs hP hD hS => ?_)
    refine lv_if_eq (tgt := 29) hx hb dX7_bestListener_16 (by decide) (fun c_3 => ?_) (fun c_3 => ?_)
    · have h := ox_t c_3 h
      refine lv_iinc (v := (x5 + (1 : Int32))) (lv' := [(5, .int (x5 + (1 : Int32))), (0, .ref q_t), (1, .ref q_a1), (2, .ref q_a2), (3, .int x3), (4, .int x4)]) hx hb dX7_bestListener_29 hl (k := 5) rfl rfl (by decide) rfl (fun ls hl => ?_)
      refine lv_goto (tgt := 3) hx hb dX7_bestListener_32 (by decide) ?_
      obtain rfl := Option.some.inj h
      exact hc _ rfl H locs ls hP hD hS (lv_sub hl [1, 2, 3, 4, 5, 0] rfl)
    · have h := ox_f c_3 h
      refine lv_aload_n hx hb dX7_bestListener_19 rfl (lv_at hl 0 rfl) ?_
      refine lv_aload_n hx hb dX7_bestListener_20 rfl (lv_at hl 1 rfl) ?_
      refine lv_aload_n hx hb dX7_bestListener_21 rfl (lv_at hl 2 rfl) ?_
      refine lv_iload hx hb dX7_bestListener_22 (lv_at hl 5 rfl) ?_
      refine lv_iload hx hb dX7_bestListener_24 (lv_at hl 4 rfl) ?_
      obtain ⟨v_4, hv_4, h⟩ := ox_bind h
      refine kVv ⟨hx, hb, hml, hown, hts⟩ (c_X7_noteHours l g q_t Q_t Q_t_one q_a1 Q_a1 q_a2 Q_a2 N F_t L_t_one F_a1 F_a2 x5 x4 v_4 hv_4 H.size) (gV u_ml_X7_104 u_im_X7_noteHours u_se_X7_noteHours u_ini_X7 u_co_X7_noteHours) hd_X7_noteHours ⟨rfl, rfl⟩ hK hP hD hS hA 0 7 rfl rfl [0, 1, 2, 3, 4, 5, 6, 7, 8, 9, 10, 11, 12] [0, 1, 2, 3, 4, 5, 6, 7, 8, 9, 10, 11, 12] rfl rfl 13 rfl (w2 := [oX7 q_t Q_t, ia g (Q_t 2) 10 v_4.1, ia g (Q_t 3) 88 v_4.2.1, oX8 (Q_t 0) Q_t_one, la g (Q_t_one 0) 8 v_4.2.2.1, la g (Q_t_one 1) 8 v_4.2.2.2, oX4 q_a1 Q_a1 (F_a1 0 0) (F_a1 1 0) (F_a1 2 0), ia g (Q_a1 3) 8 (F_a1 3), ia g (Q_a1 5) 10 (F_a1 5), ia g (Q_a1 6) 10 (F_a1 6), ia g (Q_a1 7) 10 (F_a1 7), ia g (Q_a1 8) 10 (F_a1 8), oX0 q_a2 Q_a2 (F_a2 0 0) (F_a2 1 0)]) rfl rfl (As := [.ref q_a1, .ref q_a2, .int x5, .int x4]) (rest := []) rfl hl.1 rfl rfl dX7_bestListener_26 (fun H locs hP hD hS => ?_)
      refine lv_iinc (v := (x5 + (1 : Int32))) (lv' := [(5, .int (x5 + (1 : Int32))), (0, .ref q_t), (1, .ref q_a1), (2, .ref q_a2), (3, .int x3), (4, .int x4)]) hx hb dX7_bestListener_29 hl (k := 5) rfl rfl (by decide) rfl (fun ls hl => ?_)
      refine lv_goto (tgt := 3) hx hb dX7_bestListener_32 (by decide) ?_
      obtain rfl := Option.some.inj h
      exact hc _ rfl H locs ls hP hD hS (lv_sub hl [1, 2, 3, 4, 5, 0] rfl)
def x_X7_bestListener_b47 (N : Nat) (F_t : St) (L_t_one : SL) (F_a1 : St) (F_a2 : St) (x3 : Int32) (x5 : Int32) (x6 : Int32) (x7 : Int32) : Option ((Int32 × Int32 × Int32) ⊕ (Int32)) :=
  if (F_a1 1 0) ≤ x7 then (some (.inr x5)) else (Option.bind (x_X7_greatestPart N F_t x3 x7) (fun v_8 => if x6 ≤ v_8 then (some (.inl (x5, x6, (x7 + (1 : Int32))))) else (some (.inl (x7, v_8, (x7 + (1 : Int32)))))))
set_option maxHeartbeats 4000000 in
set_option maxRecDepth 100000 in
theorem t_X7_bestListener_b47 {p : Program} {l : Launch} {e : Env} {s : State} {m : MethodId} {args : Array Value} {below : List Frame} {meth : Method} {c : Code} {g : gG} {A : Nat → Prop} {Q : State → Prop} (E : En p s m args meth c g A cX7_bestListener 9 (.code yX7_bestListener cX7_bestListener 9 (some .int) :: gW) RX7 (some .int)) (q_t : Nat) (Q_t : Ad) (Q_t_one : Ad) (q_a1 : Nat) (Q_a1 : Ad) (q_a2 : Nat) (Q_a2 : Ad) (N : Nat) (F_t : St) (L_t_one : SL) (F_a1 : St) (F_a2 : St) (x3 : Int32) (x5 : Int32) (x6 : Int32) (x7 : Int32) (o : (Int32 × Int32 × Int32) ⊕ (Int32)) (h : x_X7_bestListener_b47 N F_t L_t_one F_a1 F_a2 x3 x5 x6 x7 = some o) (hc : ∀ z, o = .inl z → WA p l e (rM 4 95) s m args below meth c g A Q 9 47 [oX7 q_t Q_t, ia g (Q_t 2) 10 (F_t 2), ia g (Q_t 3) 88 (F_t 3), oX8 (Q_t 0) Q_t_one, la g (Q_t_one 0) 8 (L_t_one 0), la g (Q_t_one 1) 8 (L_t_one 1), oX4 q_a1 Q_a1 (F_a1 0 0) (F_a1 1 0) (F_a1 2 0), ia g (Q_a1 3) 8 (F_a1 3), ia g (Q_a1 5) 10 (F_a1 5), ia g (Q_a1 6) 10 (F_a1 6), ia g (Q_a1 7) 10 (F_a1 7), ia g (Q_a1 8) 10 (F_a1 8), oX0 q_a2 Q_a2 (F_a2 0 0) (F_a2 1 0)] [(0, .ref q_t), (1, .ref q_a1), (3, .int x3), (5, .int z.1), (6, .int z.2.1), (7, .int z.2.2)] []) (he : ∀ v, o = .inr v → WA p l e (rM 4 95) s m args below meth c g A Q 9 86 [oX7 q_t Q_t, ia g (Q_t 2) 10 (F_t 2), ia g (Q_t 3) 88 (F_t 3), oX8 (Q_t 0) Q_t_one, la g (Q_t_one 0) 8 (L_t_one 0), la g (Q_t_one 1) 8 (L_t_one 1), oX4 q_a1 Q_a1 (F_a1 0 0) (F_a1 1 0) (F_a1 2 0), ia g (Q_a1 3) 8 (F_a1 3), ia g (Q_a1 5) 10 (F_a1 5), ia g (Q_a1 6) 10 (F_a1 6), ia g (Q_a1 7) 10 (F_a1 7), ia g (Q_a1 8) 10 (F_a1 8), oX0 q_a2 Q_a2 (F_a2 0 0) (F_a2 1 0)] [(5, .int v)] []) : WA p l e (rM 4 95) s m args below meth c g A Q 9 47 [oX7 q_t Q_t, ia g (Q_t 2) 10 (F_t 2), ia g (Q_t 3) 88 (F_t 3), oX8 (Q_t 0) Q_t_one, la g (Q_t_one 0) 8 (L_t_one 0), la g (Q_t_one 1) 8 (L_t_one 1), oX4 q_a1 Q_a1 (F_a1 0 0) (F_a1 1 0) (F_a1 2 0), ia g (Q_a1 3) 8 (F_a1 3), ia g (Q_a1 5) 10 (F_a1 5), ia g (Q_a1 6) 10 (F_a1 6), ia g (Q_a1 7) 10 (F_a1 7), ia g (Q_a1 8) 10 (F_a1 8), oX0 q_a2 Q_a2 (F_a2 0 0) (F_a2 1 0)] [(0, .ref q_t), (1, .ref q_a1), (3, .int x3), (5, .int x5), (6, .int x6), (7, .int x7)] [] := by
  obtain ⟨⟨hx, hb, hml, hown, hts⟩, hr, hK, hA, hlk⟩ := id E
  intro H locs ls hP hD hS hl
  refine lv_iload hx hb dX7_bestListener_47 (lv_at hl 5 rfl) ?_
  refine lv_aload_n hx hb dX7_bestListener_49 rfl (lv_at hl 1 rfl) ?_
  refine va_get (ci := 4) (v := .int (F_a1 1 0)) (C := RX4) (T := TX4) (N := 9) hx hb hts (fun w h => .tail _ (u_inX4 w h)) hown hK.1 hP 6 rfl rfl 1 (by decide) (hts _ (.tail _ u_fl_X7_56)) (fun _ h9 => h9) rfl dX7_bestListener_50 ?_
  refine lv_icmp_ge (tgt := 86) hx hb dX7_bestListener_53 (by decide) (fun c_7 => ?_) (fun c_7 => ?_)
  · have h := ox_t c_7 h
    obtain rfl := Option.some.inj h
    exact he _ rfl H locs ls hP hD hS (lv_sub hl [3] rfl)
  · have h := ox_f c_7 h
    refine lv_aload_n hx hb dX7_bestListener_56 rfl (lv_at hl 0 rfl) ?_
    refine lv_iload_n hx hb dX7_bestListener_57 rfl (lv_at hl 2 rfl) ?_
    refine lv_iload hx hb dX7_bestListener_58 (lv_at hl 5 rfl) ?_
    obtain ⟨v_8, hv_8, h⟩ := ox_bind h
    refine kVi ⟨hx, hb, hml, hown, hts⟩ (c_X7_greatestPart l g q_t Q_t N F_t x3 x7 v_8 hv_8 H.size) (gV u_ml_X7_108 u_im_X7_greatestPart u_se_X7_greatestPart u_ini_X7 u_co_X7_greatestPart) hd_X7_greatestPart ⟨rfl, rfl⟩ hK hP hD hS hA 0 7 rfl rfl [0, 2] [0, 3, 1, 5, 6, 7, 8, 9, 10, 11, 12, 13, 14] rfl rfl 2 rfl (w2 := [oX7 q_t Q_t, ia g (Q_t 2) 10 (F_t 2), ia g (Q_t 3) 88 (F_t 3), oX8 (Q_t 0) Q_t_one, la g (Q_t_one 0) 8 (L_t_one 0), la g (Q_t_one 1) 8 (L_t_one 1), oX4 q_a1 Q_a1 (F_a1 0 0) (F_a1 1 0) (F_a1 2 0), ia g (Q_a1 3) 8 (F_a1 3), ia g (Q_a1 5) 10 (F_a1 5), ia g (Q_a1 6) 10 (F_a1 6), ia g (Q_a1 7) 10 (F_a1 7), ia g (Q_a1 8) 10 (F_a1 8), oX0 q_a2 Q_a2 (F_a2 0 0) (F_a2 1 0)]) rfl rfl (As := [.int x3, .int x7]) (rest := []) rfl hl.1 rfl rfl dX7_bestListener_60 (fun H locs hP hD hS => ?_)
    refine lv_istore (lv' := [(8, .int v_8), (0, .ref q_t), (1, .ref q_a1), (3, .int x3), (5, .int x5), (6, .int x6), (7, .int x7)]) hx hb dX7_bestListener_63 hl (by decide) rfl (fun ls hl => ?_)
    refine lv_iload hx hb dX7_bestListener_65 (lv_at hl 0 rfl) ?_
    refine lv_iload hx hb dX7_bestListener_67 (lv_at hl 5 rfl) ?_
    refine lv_icmp_ge (tgt := 80) hx hb dX7_bestListener_69 (by decide) (fun c_9 => ?_) (fun c_9 => ?_)
    · have h := ox_t c_9 h
      refine lv_iinc (v := (x7 + (1 : Int32))) (lv' := [(7, .int (x7 + (1 : Int32))), (8, .int v_8), (0, .ref q_t), (1, .ref q_a1), (3, .int x3), (5, .int x5), (6, .int x6)]) hx hb dX7_bestListener_80 hl (k := 6) rfl rfl (by decide) rfl (fun ls hl => ?_)
      refine lv_goto (tgt := 47) hx hb dX7_bestListener_83 (by decide) ?_
      obtain rfl := Option.some.inj h
      exact hc _ rfl H locs ls hP hD hS (lv_sub hl [2, 3, 4, 5, 6, 0] rfl)
    · have h := ox_f c_9 h
      refine lv_iload hx hb dX7_bestListener_72 (lv_at hl 6 rfl) ?_
      refine lv_istore (lv' := [(5, .int x7), (8, .int v_8), (0, .ref q_t), (1, .ref q_a1), (3, .int x3), (6, .int x6), (7, .int x7)]) hx hb dX7_bestListener_74 hl (by decide) rfl (fun ls hl => ?_)
      refine lv_iload hx hb dX7_bestListener_76 (lv_at hl 1 rfl) ?_
      refine lv_istore (lv' := [(6, .int v_8), (5, .int x7), (8, .int v_8), (0, .ref q_t), (1, .ref q_a1), (3, .int x3), (7, .int x7)]) hx hb dX7_bestListener_78 hl (by decide) rfl (fun ls hl => ?_)
      refine lv_iinc (v := (x7 + (1 : Int32))) (lv' := [(7, .int (x7 + (1 : Int32))), (6, .int v_8), (5, .int x7), (8, .int v_8), (0, .ref q_t), (1, .ref q_a1), (3, .int x3)]) hx hb dX7_bestListener_80 hl (k := 6) rfl rfl (by decide) rfl (fun ls hl => ?_)
      refine lv_goto (tgt := 47) hx hb dX7_bestListener_83 (by decide) ?_
      obtain rfl := Option.some.inj h
      exact hc _ rfl H locs ls hP hD hS (lv_sub hl [4, 5, 6, 2, 1, 0] rfl)
def x_X7_bestListener (N : Nat) (F_t : St) (L_t_one : SL) (F_a1 : St) (F_a2 : St) (x3 : Int32) (x4 : Int32) : Option (Int32 × (Nat → Int32) × (Nat → Int32) × (Nat → Int64) × (Nat → Int64)) :=
  Option.bind (lpc (fun (z : Int32 × (Nat → Int32) × (Nat → Int32) × (Nat → Int64) × (Nat → Int64)) => x_X7_bestListener_b3 N (va_up (va_up F_t 2 z.2.1) 3 z.2.2.1) (va_up (va_up L_t_one 0 z.2.2.2.1) 1 z.2.2.2.2) F_a1 F_a2 x3 x4 z.1) N ((0 : Int32), (F_t 2), (F_t 3), (L_t_one 0), (L_t_one 1))) (fun v_5 => Option.bind (x_J6_bitCount_0f7a4 x3) (fun v_6 => Option.bind (lpc (fun (z : Int32 × Int32 × Int32) => x_X7_bestListener_b47 N (va_up (va_up F_t 2 v_5.1) 3 v_5.2.1) (va_up (va_up L_t_one 0 v_5.2.2.1) 1 v_5.2.2.2) F_a1 F_a2 x3 z.1 z.2.1 z.2.2) N ((-1 : Int32), v_6, (0 : Int32))) (fun v_10 => some (v_10, v_5.1, v_5.2.1, v_5.2.2.1, v_5.2.2.2))))
set_option maxHeartbeats 4000000 in
set_option maxRecDepth 100000 in
theorem t_X7_bestListener {p : Program} {l : Launch} {e : Env} {s : State} {m : MethodId} {args : Array Value} {below : List Frame} {meth : Method} {c : Code} {g : gG} {A : Nat → Prop} (E : En p s m args meth c g A cX7_bestListener 9 (.code yX7_bestListener cX7_bestListener 9 (some .int) :: gW) RX7 (some .int)) (q_t : Nat) (Q_t : Ad) (Q_t_one : Ad) (q_a1 : Nat) (Q_a1 : Ad) (q_a2 : Nat) (Q_a2 : Ad) (N : Nat) (F_t : St) (L_t_one : SL) (F_a1 : St) (F_a2 : St) (x3 : Int32) (x4 : Int32) (o : Int32 × (Nat → Int32) × (Nat → Int32) × (Nat → Int64) × (Nat → Int64)) (h : x_X7_bestListener N F_t L_t_one F_a1 F_a2 x3 x4 = some o) : WA p l e (rM 4 95) s m args below meth c g A (MQ below (QI g A o.1 [oX7 q_t Q_t, ia g (Q_t 2) 10 o.2.1, ia g (Q_t 3) 88 o.2.2.1, oX8 (Q_t 0) Q_t_one, la g (Q_t_one 0) 8 o.2.2.2.1, la g (Q_t_one 1) 8 o.2.2.2.2, oX4 q_a1 Q_a1 (F_a1 0 0) (F_a1 1 0) (F_a1 2 0), ia g (Q_a1 3) 8 (F_a1 3), ia g (Q_a1 5) 10 (F_a1 5), ia g (Q_a1 6) 10 (F_a1 6), ia g (Q_a1 7) 10 (F_a1 7), ia g (Q_a1 8) 10 (F_a1 8), oX0 q_a2 Q_a2 (F_a2 0 0) (F_a2 1 0)]) args s 0 0 A) 9 0 [oX7 q_t Q_t, ia g (Q_t 2) 10 (F_t 2), ia g (Q_t 3) 88 (F_t 3), oX8 (Q_t 0) Q_t_one, la g (Q_t_one 0) 8 (L_t_one 0), la g (Q_t_one 1) 8 (L_t_one 1), oX4 q_a1 Q_a1 (F_a1 0 0) (F_a1 1 0) (F_a1 2 0), ia g (Q_a1 3) 8 (F_a1 3), ia g (Q_a1 5) 10 (F_a1 5), ia g (Q_a1 6) 10 (F_a1 6), ia g (Q_a1 7) 10 (F_a1 7), ia g (Q_a1 8) 10 (F_a1 8), oX0 q_a2 Q_a2 (F_a2 0 0) (F_a2 1 0)] [(0, .ref q_t), (1, .ref q_a1), (2, .ref q_a2), (3, .int x3), (4, .int x4)] [] := by
  obtain ⟨⟨hx, hb, hml, hown, hts⟩, hr, hK, hA, hlk⟩ := id E
  intro H locs ls hP hD hS hl
  refine lv_iconst (v := (0 : Int32)) hx hb dX7_bestListener_0 (by decide) ?_
  refine lv_istore (lv' := [(5, .int (0 : Int32)), (0, .ref q_t), (1, .ref q_a1), (2, .ref q_a2), (3, .int x3), (4, .int x4)]) hx hb dX7_bestListener_1 hl (by decide) rfl (fun ls hl => ?_)
  obtain ⟨v_5, hv_5, h⟩ := ox_bind h
  refine lpc_W (Wh := fun (z : Int32 × (Nat → Int32) × (Nat → Int32) × (Nat → Int64) × (Nat → Int64)) => WA p l e (rM 4 95) s m args below meth c g A (MQ below (QI g A o.1 [oX7 q_t Q_t, ia g (Q_t 2) 10 o.2.1, ia g (Q_t 3) 88 o.2.2.1, oX8 (Q_t 0) Q_t_one, la g (Q_t_one 0) 8 o.2.2.2.1, la g (Q_t_one 1) 8 o.2.2.2.2, oX4 q_a1 Q_a1 (F_a1 0 0) (F_a1 1 0) (F_a1 2 0), ia g (Q_a1 3) 8 (F_a1 3), ia g (Q_a1 5) 10 (F_a1 5), ia g (Q_a1 6) 10 (F_a1 6), ia g (Q_a1 7) 10 (F_a1 7), ia g (Q_a1 8) 10 (F_a1 8), oX0 q_a2 Q_a2 (F_a2 0 0) (F_a2 1 0)]) args s 0 0 A) 9 3 [oX7 q_t Q_t, ia g (Q_t 2) 10 z.2.1, ia g (Q_t 3) 88 z.2.2.1, oX8 (Q_t 0) Q_t_one, la g (Q_t_one 0) 8 z.2.2.2.1, la g (Q_t_one 1) 8 z.2.2.2.2, oX4 q_a1 Q_a1 (F_a1 0 0) (F_a1 1 0) (F_a1 2 0), ia g (Q_a1 3) 8 (F_a1 3), ia g (Q_a1 5) 10 (F_a1 5), ia g (Q_a1 6) 10 (F_a1 6), ia g (Q_a1 7) 10 (F_a1 7), ia g (Q_a1 8) 10 (F_a1 8), oX0 q_a2 Q_a2 (F_a2 0 0) (F_a2 1 0)] [(0, .ref q_t), (1, .ref q_a1), (2, .ref q_a2), (3, .int x3), (4, .int x4), (5, .int z.1)] []) (We := fun (v : (Nat → Int32) × (Nat → Int32) × (Nat → Int64) × (Nat → Int64)) => WA p l e (rM 4 95) s m args below meth c g A (MQ below (QI g A o.1 [oX7 q_t Q_t, ia g (Q_t 2) 10 o.2.1, ia g (Q_t 3) 88 o.2.2.1, oX8 (Q_t 0) Q_t_one, la g (Q_t_one 0) 8 o.2.2.2.1, la g (Q_t_one 1) 8 o.2.2.2.2, oX4 q_a1 Q_a1 (F_a1 0 0) (F_a1 1 0) (F_a1 2 0), ia g (Q_a1 3) 8 (F_a1 3), ia g (Q_a1 5) 10 (F_a1 5), ia g (Q_a1 6) 10 (F_a1 6), ia g (Q_a1 7) 10 (F_a1 7), ia g (Q_a1 8) 10 (F_a1 8), oX0 q_a2 Q_a2 (F_a2 0 0) (F_a2 1 0)]) args s 0 0 A) 9 35 [oX7 q_t Q_t, ia g (Q_t 2) 10 v.1, ia g (Q_t 3) 88 v.2.1, oX8 (Q_t 0) Q_t_one, la g (Q_t_one 0) 8 v.2.2.1, la g (Q_t_one 1) 8 v.2.2.2, oX4 q_a1 Q_a1 (F_a1 0 0) (F_a1 1 0) (F_a1 2 0), ia g (Q_a1 3) 8 (F_a1 3), ia g (Q_a1 5) 10 (F_a1 5), ia g (Q_a1 6) 10 (F_a1 6), ia g (Q_a1 7) 10 (F_a1 7), ia g (Q_a1 8) 10 (F_a1 8), oX0 q_a2 Q_a2 (F_a2 0 0) (F_a2 1 0)] [(0, .ref q_t), (1, .ref q_a1), (3, .int x3)] []) (fun z r hb hc he => t_X7_bestListener_b3 E q_t Q_t Q_t_one q_a1 Q_a1 q_a2 Q_a2 N (va_up (va_up F_t 2 z.2.1) 3 z.2.2.1) (va_up (va_up L_t_one 0 z.2.2.2.1) 1 z.2.2.2.2) F_a1 F_a2 x3 x4 z.1 r hb hc he) N ((0 : Int32), (F_t 2), (F_t 3), (L_t_one 0), (L_t_one 1)) v_5 hv_5 ?_ H locs ls hP hD hS (lv_sub hl [1, 2, 3, 4, 5, 0] rfl)
  intro H locs ls hP hD hS hl
  refine lv_iconst (v := (-1 : Int32)) hx hb dX7_bestListener_35 (by decide) ?_
  refine lv_istore (lv' := [(5, .int (-1 : Int32)), (0, .ref q_t), (1, .ref q_a1), (3, .int x3)]) hx hb dX7_bestListener_36 hl (by decide) rfl (fun ls hl => ?_)
  refine lv_iload_n hx hb dX7_bestListener_38 rfl (lv_at hl 3 rfl) ?_
  obtain ⟨v_6, hv_6, h⟩ := ox_bind h
  refine kSi ⟨hx, hb, hml, hown, hts⟩ (c_J6_bitCount_0f7a4 l g x3 v_6 hv_6 H.size) (gS u_ml_X7_34 u_st_J6_bitCount_0f7a4 u_ini_J6 u_co_J6_bitCount_0f7a4) hd_J6_bitCount_0f7a4 ⟨rfl, rfl⟩ hK hP hD hS hA [] [0, 1, 2, 3, 4, 5, 6, 7, 8, 9, 10, 11, 12] rfl rfl 0 rfl (w2 := [oX7 q_t Q_t, ia g (Q_t 2) 10 v_5.1, ia g (Q_t 3) 88 v_5.2.1, oX8 (Q_t 0) Q_t_one, la g (Q_t_one 0) 8 v_5.2.2.1, la g (Q_t_one 1) 8 v_5.2.2.2, oX4 q_a1 Q_a1 (F_a1 0 0) (F_a1 1 0) (F_a1 2 0), ia g (Q_a1 3) 8 (F_a1 3), ia g (Q_a1 5) 10 (F_a1 5), ia g (Q_a1 6) 10 (F_a1 6), ia g (Q_a1 7) 10 (F_a1 7), ia g (Q_a1 8) 10 (F_a1 8), oX0 q_a2 Q_a2 (F_a2 0 0) (F_a2 1 0)]) rfl rfl (As := [.int x3]) (rest := []) rfl hl.1 rfl rfl dX7_bestListener_39 (fun H locs hP hD hS => ?_)
  refine lv_istore (lv' := [(6, .int v_6), (5, .int (-1 : Int32)), (0, .ref q_t), (1, .ref q_a1), (3, .int x3)]) hx hb dX7_bestListener_42 hl (by decide) rfl (fun ls hl => ?_)
  refine lv_iconst (v := (0 : Int32)) hx hb dX7_bestListener_44 (by decide) ?_
  refine lv_istore (lv' := [(7, .int (0 : Int32)), (6, .int v_6), (5, .int (-1 : Int32)), (0, .ref q_t), (1, .ref q_a1), (3, .int x3)]) hx hb dX7_bestListener_45 hl (by decide) rfl (fun ls hl => ?_)
  obtain ⟨v_10, hv_10, h⟩ := ox_bind h
  refine lpc_W (Wh := fun (z : Int32 × Int32 × Int32) => WA p l e (rM 4 95) s m args below meth c g A (MQ below (QI g A o.1 [oX7 q_t Q_t, ia g (Q_t 2) 10 o.2.1, ia g (Q_t 3) 88 o.2.2.1, oX8 (Q_t 0) Q_t_one, la g (Q_t_one 0) 8 o.2.2.2.1, la g (Q_t_one 1) 8 o.2.2.2.2, oX4 q_a1 Q_a1 (F_a1 0 0) (F_a1 1 0) (F_a1 2 0), ia g (Q_a1 3) 8 (F_a1 3), ia g (Q_a1 5) 10 (F_a1 5), ia g (Q_a1 6) 10 (F_a1 6), ia g (Q_a1 7) 10 (F_a1 7), ia g (Q_a1 8) 10 (F_a1 8), oX0 q_a2 Q_a2 (F_a2 0 0) (F_a2 1 0)]) args s 0 0 A) 9 47 [oX7 q_t Q_t, ia g (Q_t 2) 10 v_5.1, ia g (Q_t 3) 88 v_5.2.1, oX8 (Q_t 0) Q_t_one, la g (Q_t_one 0) 8 v_5.2.2.1, la g (Q_t_one 1) 8 v_5.2.2.2, oX4 q_a1 Q_a1 (F_a1 0 0) (F_a1 1 0) (F_a1 2 0), ia g (Q_a1 3) 8 (F_a1 3), ia g (Q_a1 5) 10 (F_a1 5), ia g (Q_a1 6) 10 (F_a1 6), ia g (Q_a1 7) 10 (F_a1 7), ia g (Q_a1 8) 10 (F_a1 8), oX0 q_a2 Q_a2 (F_a2 0 0) (F_a2 1 0)] [(0, .ref q_t), (1, .ref q_a1), (3, .int x3), (5, .int z.1), (6, .int z.2.1), (7, .int z.2.2)] []) (We := fun (v : Int32) => WA p l e (rM 4 95) s m args below meth c g A (MQ below (QI g A o.1 [oX7 q_t Q_t, ia g (Q_t 2) 10 o.2.1, ia g (Q_t 3) 88 o.2.2.1, oX8 (Q_t 0) Q_t_one, la g (Q_t_one 0) 8 o.2.2.2.1, la g (Q_t_one 1) 8 o.2.2.2.2, oX4 q_a1 Q_a1 (F_a1 0 0) (F_a1 1 0) (F_a1 2 0), ia g (Q_a1 3) 8 (F_a1 3), ia g (Q_a1 5) 10 (F_a1 5), ia g (Q_a1 6) 10 (F_a1 6), ia g (Q_a1 7) 10 (F_a1 7), ia g (Q_a1 8) 10 (F_a1 8), oX0 q_a2 Q_a2 (F_a2 0 0) (F_a2 1 0)]) args s 0 0 A) 9 86 [oX7 q_t Q_t, ia g (Q_t 2) 10 v_5.1, ia g (Q_t 3) 88 v_5.2.1, oX8 (Q_t 0) Q_t_one, la g (Q_t_one 0) 8 v_5.2.2.1, la g (Q_t_one 1) 8 v_5.2.2.2, oX4 q_a1 Q_a1 (F_a1 0 0) (F_a1 1 0) (F_a1 2 0), ia g (Q_a1 3) 8 (F_a1 3), ia g (Q_a1 5) 10 (F_a1 5), ia g (Q_a1 6) 10 (F_a1 6), ia g (Q_a1 7) 10 (F_a1 7), ia g (Q_a1 8) 10 (F_a1 8), oX0 q_a2 Q_a2 (F_a2 0 0) (F_a2 1 0)] [(5, .int v)] []) (fun z r hb hc he => t_X7_bestListener_b47 E q_t Q_t Q_t_one q_a1 Q_a1 q_a2 Q_a2 N (va_up (va_up F_t 2 v_5.1) 3 v_5.2.1) (va_up (va_up L_t_one 0 v_5.2.2.1) 1 v_5.2.2.2) F_a1 F_a2 x3 z.1 z.2.1 z.2.2 r hb hc he) N ((-1 : Int32), v_6, (0 : Int32)) v_10 hv_10 ?_ H locs ls hP hD hS (lv_sub hl [3, 4, 5, 2, 1, 0] rfl)
  intro H locs ls hP hD hS hl
  refine lv_iload hx hb dX7_bestListener_86 (lv_at hl 0 rfl) ?_
  obtain rfl := Option.some.inj h
  exact k_iret hx hb hr hlk hP hD hS dX7_bestListener_88
set_option maxRecDepth 100000 in
theorem c_X7_bestListener (l : Launch) (g : gG) (q_t : Nat) (Q_t : Ad) (Q_t_one : Ad) (q_a1 : Nat) (Q_a1 : Ad) (q_a2 : Nat) (Q_a2 : Ad) (N : Nat) (F_t : St) (L_t_one : SL) (F_a1 : St) (F_a2 : St) (x3 : Int32) (x4 : Int32) (o : Int32 × (Nat → Int32) × (Nat → Int32) × (Nat → Int64) × (Nat → Int64)) (h : x_X7_bestListener N F_t L_t_one F_a1 F_a2 x3 x4 = some o) (sz : Nat) : MetI l yX7_bestListener (.code yX7_bestListener cX7_bestListener 9 (some .int) :: gW) 4 95 [.ref q_t, .ref q_a1, .ref q_a2, .int x3, .int x4] o.1 g [oX7 q_t Q_t, ia g (Q_t 2) 10 (F_t 2), ia g (Q_t 3) 88 (F_t 3), oX8 (Q_t 0) Q_t_one, la g (Q_t_one 0) 8 (L_t_one 0), la g (Q_t_one 1) 8 (L_t_one 1), oX4 q_a1 Q_a1 (F_a1 0 0) (F_a1 1 0) (F_a1 2 0), ia g (Q_a1 3) 8 (F_a1 3), ia g (Q_a1 5) 10 (F_a1 5), ia g (Q_a1 6) 10 (F_a1 6), ia g (Q_a1 7) 10 (F_a1 7), ia g (Q_a1 8) 10 (F_a1 8), oX0 q_a2 Q_a2 (F_a2 0 0) (F_a2 1 0)] [oX7 q_t Q_t, ia g (Q_t 2) 10 o.2.1, ia g (Q_t 3) 88 o.2.2.1, oX8 (Q_t 0) Q_t_one, la g (Q_t_one 0) 8 o.2.2.2.1, la g (Q_t_one 1) 8 o.2.2.2.2, oX4 q_a1 Q_a1 (F_a1 0 0) (F_a1 1 0) (F_a1 2 0), ia g (Q_a1 3) 8 (F_a1 3), ia g (Q_a1 5) 10 (F_a1 5), ia g (Q_a1 6) 10 (F_a1 6), ia g (Q_a1 7) 10 (F_a1 7), ia g (Q_a1 8) 10 (F_a1 8), oX0 q_a2 Q_a2 (F_a2 0 0) (F_a2 1 0)] sz :=
  mkI (av := [.ref q_t, .ref q_a1, .ref q_a2, .int x3, .int x4]) (by decide +kernel) rfl (fun p e s m below meth c A E H locs ls hP hD hS hl => t_X7_bestListener E q_t Q_t Q_t_one q_a1 Q_a1 q_a2 Q_a2 N F_t L_t_one F_a1 F_a2 x3 x4 o h H locs ls hP hD hS hl) sz
