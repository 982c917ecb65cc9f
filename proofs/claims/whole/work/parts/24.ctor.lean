abbrev wX0 (g : gG) (q : Nat) (Q : Ad) (F : St) : va_W := [oX0 q Q (F 0 0) (F 1 0), ia g (Q 2) 10 (F 2), ia g (Q 3) 10 (F 3), ia g (Q 4) 8 (F 4), ia g (Q 5) 64 (F 5), ia g (Q 6) 80 (F 6)]
abbrev wX2 (g : gG) (q : Nat) (Q : Ad) (F : St) : va_W := [oX2 q Q (F 0 0) (F 1 0), ia g (Q 2) 6 (F 2), ia g (Q 3) 6 (F 3), ia g (Q 4) 6 (F 4), ia g (Q 5) 15 (F 5), ia g (Q 6) 15 (F 6)]
abbrev wX4 (g : gG) (q : Nat) (Q : Ad) (F : St) : va_W := [oX4 q Q (F 0 0) (F 1 0) (F 2 0), ia g (Q 3) 8 (F 3), ia g (Q 4) 8 (F 4), ia g (Q 5) 10 (F 5), ia g (Q 6) 10 (F 6), ia g (Q 7) 10 (F 7), ia g (Q 8) 10 (F 8)]
abbrev wX5 (g : gG) (q : Nat) (Q : Ad) (F : St) : va_W := [oX5 q Q (F 1 0) (F 2 0) (F 3 0) (F 4 0) (F 5 0), ia g (Q 0) 240 (F 0)]
abbrev wX6 (g : gG) (q : Nat) (Q : Ad) (F : St) : va_W := [oX6 q Q, ia g (Q 0) 8 (F 0), ia g (Q 1) 8 (F 1)]
abbrev wX8 (g : gG) (q : Nat) (Q : Ad) (L : SL) : va_W := [oX8 q Q, la g (Q 0) 8 (L 0), la g (Q 1) 8 (L 1)]
/-- n flows, by their addresses and states; each one's own address at 7 -/
def pF (g : gG) (n : Nat) (RQ : Nat → Ad) (RF : Nat → St) : va_W := (List.range n).flatMap (fun i => wX0 g (RQ i 7) (RQ i) (RF i))
set_option maxHeartbeats 40000000 in
set_option maxRecDepth 100000 in
theorem c_X0_init (l : Launch) (g : gG) (q : Nat) (N : Nat) (vc vf : Nat → Int32) (hvc : x_J7_fill_53178 N 10 (fun _ => 0) (-1 : Int32) = some vc) (hvf : x_J7_fill_53178 N 64 (fun _ => 0) (-1 : Int32) = some vf) (sz : Nat) : MetC l yX0_init cX0_init 1 1 23 5 172 q g [(q, .inr (0, [.int 0, .int 0, .null, .null, .null, .null, .null]))] (fun u => wX0 g q (u 0) (Fi vc vf)) sz := by
  refine mkC (by decide +kernel) rfl rfl ?_ sz
  intro p e s m below meth c A ls E hin hP hD hS hl
  obtain ⟨⟨hx, hb, hml, hown, hts⟩, hr, hK, hA, hlk⟩ := id E
  have hown : s.vm.findClass RX0 = some m.cls := hown
  obtain ⟨H, hH⟩ : ∃ H, H = s.heap := ⟨_, rfl⟩
  have hS : va_S A s.heap H [] := by rw [hH]; exact hS
  have hP : va_P g.1 vwCl [(q, .inr (0, [.int 0, .int 0, .null, .null, .null, .null, .null]))] H := by rw [hH]; exact hP
  suffices hgo : W p l e (rC 1 5 172 23) s m [Value.ref q].toArray below meth c H [] 0 0 (MQ below (QC g A (fun u => wX0 g q (u 0) (Fi vc vf))) [Value.ref q].toArray s 5 172 A) (F0 m 0 ls []) by rw [hH] at hgo; exact hgo
  clear hH
  refine lv_aload_n hx hb dX0_init_0 rfl (lv_at hl 0 rfl) ?_
  refine W.objInit hx hb hown (hts _ (.tail _ u_ml_X0_3)) (hts _ (.tail _ u_im_obj)) (hts _ (.tail _ u_co_obj)) rfl (by rw [hml]; exact hl.1) rfl dX0_init_1 (Nat.le_of_ble_eq_true rfl) (Nat.le_of_ble_eq_true rfl) ?_
  refine W.eq (g2 := F0 m 4 ls []) rfl ?_
  refine lv_aload_n hx hb dX0_init_4 rfl (lv_at hl 0 rfl) ?_
  refine lv_iconst (v := (0 : Int32)) hx hb dX0_init_5 (by decide) ?_
  refine va_put (ci := 0) (v := .int (0 : Int32)) (ty := .int) (C := RX0) (T := TX0) (N := 7) hx hb hts (fun w h => .tail _ (u_inX0 w h)) tyX0 tyX0_ok nmX0 hown hK.1 hP hD hS 0 rfl rfl 0 (by decide) (hts _ (.tail _ u_fl_X0_9)) (fun _ h9 => h9) rfl (tyX0_ok 0 (by decide)) rfl rfl (Nat.le_of_ble_eq_true rfl) dX0_init_6 (fun H locs hP hD hS => ?_)
  have hP : va_P g.1 vwCl ([(q, .inr (0, [.int (0 : Int32), .int 0, .null, .null, .null, .null, .null]))]) H := hP
  have hD : va_D A ([(q, .inr (0, [.int (0 : Int32), .int 0, .null, .null, .null, .null, .null]))]) := hD
  refine lv_aload_n hx hb dX0_init_9 rfl (lv_at hl 0 rfl) ?_
  refine lv_iconst (v := (0 : Int32)) hx hb dX0_init_10 (by decide) ?_
  refine va_put (ci := 0) (v := .int (0 : Int32)) (ty := .int) (C := RX0) (T := TX0) (N := 7) hx hb hts (fun w h => .tail _ (u_inX0 w h)) tyX0 tyX0_ok nmX0 hown hK.1 hP hD hS 0 rfl rfl 1 (by decide) (hts _ (.tail _ u_fl_X0_15)) (fun _ h9 => h9) rfl (tyX0_ok 1 (by decide)) rfl rfl (Nat.le_of_ble_eq_true rfl) dX0_init_11 (fun H locs hP hD hS => ?_)
  have hP : va_P g.1 vwCl ([(q, .inr (0, [.int (0 : Int32), .int (0 : Int32), .null, .null, .null, .null, .null]))]) H := hP
  have hD : va_D A ([(q, .inr (0, [.int (0 : Int32), .int (0 : Int32), .null, .null, .null, .null, .null]))]) := hD
  refine lv_aload_n hx hb dX0_init_14 rfl (lv_at hl 0 rfl) ?_
  refine lv_bipush (v := (10 : Int32)) hx hb dX0_init_15 (by decide) ?_
  refine k_newi hx hb hts hK hP hD hS hA (N' := 10) (by decide) (by decide) (by decide) (Nat.le_of_ble_eq_true rfl) (Nat.le_of_ble_eq_true rfl) dX0_init_17 (fun q1 H hP hD hS => ?_)
  have hP : va_P g.1 vwCl ([(q, .inr (0, [.int (0 : Int32), .int (0 : Int32), .null, .null, .null, .null, .null]))] ++ [ia g q1 10 (fun _ => 0)]) H := hP
  have hD : va_D A ([(q, .inr (0, [.int (0 : Int32), .int (0 : Int32), .null, .null, .null, .null, .null]))] ++ [ia g q1 10 (fun _ => 0)]) := hD
  refine va_putF (ci := 0) (v := .ref q1) (ty := (.array .int)) (C := RX0) (T := TX0) (N := 7) hx hb hts (fun w h => .tail _ (u_inX0 w h)) tyX0 tyX0_ok nmX0 hown hK.1 hP hD hS 0 rfl rfl 2 (by decide) (hts _ (.tail _ u_fl_X0_18)) (fun _ h9 => h9) rfl hin rfl (tyX0_ok 2 (by decide)) rfl rfl (Nat.le_of_ble_eq_true rfl) dX0_init_19 (fun H locs hP hD hS => ?_)
  have hP : va_P g.1 vwCl ([(q, .inr (0, [.int (0 : Int32), .int (0 : Int32), .ref q1, .null, .null, .null, .null]))] ++ [ia g q1 10 (fun _ => 0)]) H := hP
  have hD : va_D A ([(q, .inr (0, [.int (0 : Int32), .int (0 : Int32), .ref q1, .null, .null, .null, .null]))] ++ [ia g q1 10 (fun _ => 0)]) := hD
  refine lv_aload_n hx hb dX0_init_22 rfl (lv_at hl 0 rfl) ?_
  refine lv_bipush (v := (10 : Int32)) hx hb dX0_init_23 (by decide) ?_
  refine k_newi hx hb hts hK hP hD hS hA (N' := 10) (by decide) (by decide) (by decide) (Nat.le_of_ble_eq_true rfl) (Nat.le_of_ble_eq_true rfl) dX0_init_25 (fun q2 H hP hD hS => ?_)
  have hP : va_P g.1 vwCl ([(q, .inr (0, [.int (0 : Int32), .int (0 : Int32), .ref q1, .null, .null, .null, .null]))] ++ [ia g q1 10 (fun _ => 0)] ++ [ia g q2 10 (fun _ => 0)]) H := hP
  have hD : va_D A ([(q, .inr (0, [.int (0 : Int32), .int (0 : Int32), .ref q1, .null, .null, .null, .null]))] ++ [ia g q1 10 (fun _ => 0)] ++ [ia g q2 10 (fun _ => 0)]) := hD
  refine va_putF (ci := 0) (v := .ref q2) (ty := (.array .int)) (C := RX0) (T := TX0) (N := 7) hx hb hts (fun w h => .tail _ (u_inX0 w h)) tyX0 tyX0_ok nmX0 hown hK.1 hP hD hS 0 rfl rfl 3 (by decide) (hts _ (.tail _ u_fl_X0_22)) (fun _ h9 => h9) rfl hin rfl (tyX0_ok 3 (by decide)) rfl rfl (Nat.le_of_ble_eq_true rfl) dX0_init_27 (fun H locs hP hD hS => ?_)
  have hP : va_P g.1 vwCl ([(q, .inr (0, [.int (0 : Int32), .int (0 : Int32), .ref q1, .ref q2, .null, .null, .null]))] ++ [ia g q1 10 (fun _ => 0)] ++ [ia g q2 10 (fun _ => 0)]) H := hP
  have hD : va_D A ([(q, .inr (0, [.int (0 : Int32), .int (0 : Int32), .ref q1, .ref q2, .null, .null, .null]))] ++ [ia g q1 10 (fun _ => 0)] ++ [ia g q2 10 (fun _ => 0)]) := hD
  refine lv_aload_n hx hb dX0_init_30 rfl (lv_at hl 0 rfl) ?_
  refine lv_bipush (v := (8 : Int32)) hx hb dX0_init_31 (by decide) ?_
  refine k_newi hx hb hts hK hP hD hS hA (N' := 8) (by decide) (by decide) (by decide) (Nat.le_of_ble_eq_true rfl) (Nat.le_of_ble_eq_true rfl) dX0_init_33 (fun q3 H hP hD hS => ?_)
  have hP : va_P g.1 vwCl ([(q, .inr (0, [.int (0 : Int32), .int (0 : Int32), .ref q1, .ref q2, .null, .null, .null]))] ++ [ia g q1 10 (fun _ => 0)] ++ [ia g q2 10 (fun _ => 0)] ++ [ia g q3 8 (fun _ => 0)]) H := hP
  have hD : va_D A ([(q, .inr (0, [.int (0 : Int32), .int (0 : Int32), .ref q1, .ref q2, .null, .null, .null]))] ++ [ia g q1 10 (fun _ => 0)] ++ [ia g q2 10 (fun _ => 0)] ++ [ia g q3 8 (fun _ => 0)]) := hD
  refine va_putF (ci := 0) (v := .ref q3) (ty := (.array .int)) (C := RX0) (T := TX0) (N := 7) hx hb hts (fun w h => .tail _ (u_inX0 w h)) tyX0 tyX0_ok nmX0 hown hK.1 hP hD hS 0 rfl rfl 4 (by decide) (hts _ (.tail _ u_fl_X0_25)) (fun _ h9 => h9) rfl hin rfl (tyX0_ok 4 (by decide)) rfl rfl (Nat.le_of_ble_eq_true rfl) dX0_init_35 (fun H locs hP hD hS => ?_)
  have hP : va_P g.1 vwCl ([(q, .inr (0, [.int (0 : Int32), .int (0 : Int32), .ref q1, .ref q2, .ref q3, .null, .null]))] ++ [ia g q1 10 (fun _ => 0)] ++ [ia g q2 10 (fun _ => 0)] ++ [ia g q3 8 (fun _ => 0)]) H := hP
  have hD : va_D A ([(q, .inr (0, [.int (0 : Int32), .int (0 : Int32), .ref q1, .ref q2, .ref q3, .null, .null]))] ++ [ia g q1 10 (fun _ => 0)] ++ [ia g q2 10 (fun _ => 0)] ++ [ia g q3 8 (fun _ => 0)]) := hD
  refine lv_aload_n hx hb dX0_init_38 rfl (lv_at hl 0 rfl) ?_
  refine lv_bipush (v := (64 : Int32)) hx hb dX0_init_39 (by decide) ?_
  refine k_newi hx hb hts hK hP hD hS hA (N' := 64) (by decide) (by decide) (by decide) (Nat.le_of_ble_eq_true rfl) (Nat.le_of_ble_eq_true rfl) dX0_init_41 (fun q4 H hP hD hS => ?_)
  have hP : va_P g.1 vwCl ([(q, .inr (0, [.int (0 : Int32), .int (0 : Int32), .ref q1, .ref q2, .ref q3, .null, .null]))] ++ [ia g q1 10 (fun _ => 0)] ++ [ia g q2 10 (fun _ => 0)] ++ [ia g q3 8 (fun _ => 0)] ++ [ia g q4 64 (fun _ => 0)]) H := hP
  have hD : va_D A ([(q, .inr (0, [.int (0 : Int32), .int (0 : Int32), .ref q1, .ref q2, .ref q3, .null, .null]))] ++ [ia g q1 10 (fun _ => 0)] ++ [ia g q2 10 (fun _ => 0)] ++ [ia g q3 8 (fun _ => 0)] ++ [ia g q4 64 (fun _ => 0)]) := hD
  refine va_putF (ci := 0) (v := .ref q4) (ty := (.array .int)) (C := RX0) (T := TX0) (N := 7) hx hb hts (fun w h => .tail _ (u_inX0 w h)) tyX0 tyX0_ok nmX0 hown hK.1 hP hD hS 0 rfl rfl 5 (by decide) (hts _ (.tail _ u_fl_X0_28)) (fun _ h9 => h9) rfl hin rfl (tyX0_ok 5 (by decide)) rfl rfl (Nat.le_of_ble_eq_true rfl) dX0_init_43 (fun H locs hP hD hS => ?_)
  have hP : va_P g.1 vwCl ([(q, .inr (0, [.int (0 : Int32), .int (0 : Int32), .ref q1, .ref q2, .ref q3, .ref q4, .null]))] ++ [ia g q1 10 (fun _ => 0)] ++ [ia g q2 10 (fun _ => 0)] ++ [ia g q3 8 (fun _ => 0)] ++ [ia g q4 64 (fun _ => 0)]) H := hP
  have hD : va_D A ([(q, .inr (0, [.int (0 : Int32), .int (0 : Int32), .ref q1, .ref q2, .ref q3, .ref q4, .null]))] ++ [ia g q1 10 (fun _ => 0)] ++ [ia g q2 10 (fun _ => 0)] ++ [ia g q3 8 (fun _ => 0)] ++ [ia g q4 64 (fun _ => 0)]) := hD
  refine lv_aload_n hx hb dX0_init_46 rfl (lv_at hl 0 rfl) ?_
  refine lv_bipush (v := (80 : Int32)) hx hb dX0_init_47 (by decide) ?_
  refine k_newi hx hb hts hK hP hD hS hA (N' := 80) (by decide) (by decide) (by decide) (Nat.le_of_ble_eq_true rfl) (Nat.le_of_ble_eq_true rfl) dX0_init_49 (fun q5 H hP hD hS => ?_)
  have hP : va_P g.1 vwCl ([(q, .inr (0, [.int (0 : Int32), .int (0 : Int32), .ref q1, .ref q2, .ref q3, .ref q4, .null]))] ++ [ia g q1 10 (fun _ => 0)] ++ [ia g q2 10 (fun _ => 0)] ++ [ia g q3 8 (fun _ => 0)] ++ [ia g q4 64 (fun _ => 0)] ++ [ia g q5 80 (fun _ => 0)]) H := hP
  have hD : va_D A ([(q, .inr (0, [.int (0 : Int32), .int (0 : Int32), .ref q1, .ref q2, .ref q3, .ref q4, .null]))] ++ [ia g q1 10 (fun _ => 0)] ++ [ia g q2 10 (fun _ => 0)] ++ [ia g q3 8 (fun _ => 0)] ++ [ia g q4 64 (fun _ => 0)] ++ [ia g q5 80 (fun _ => 0)]) := hD
  refine va_putF (ci := 0) (v := .ref q5) (ty := (.array .int)) (C := RX0) (T := TX0) (N := 7) hx hb hts (fun w h => .tail _ (u_inX0 w h)) tyX0 tyX0_ok nmX0 hown hK.1 hP hD hS 0 rfl rfl 6 (by decide) (hts _ (.tail _ u_fl_X0_31)) (fun _ h9 => h9) rfl hin rfl (tyX0_ok 6 (by decide)) rfl rfl (Nat.le_of_ble_eq_true rfl) dX0_init_51 (fun H locs hP hD hS => ?_)
  have hP : va_P g.1 vwCl ([(q, .inr (0, [.int (0 : Int32), .int (0 : Int32), .ref q1, .ref q2, .ref q3, .ref q4, .ref q5]))] ++ [ia g q1 10 (fun _ => 0)] ++ [ia g q2 10 (fun _ => 0)] ++ [ia g q3 8 (fun _ => 0)] ++ [ia g q4 64 (fun _ => 0)] ++ [ia g q5 80 (fun _ => 0)]) H := hP
  have hD : va_D A ([(q, .inr (0, [.int (0 : Int32), .int (0 : Int32), .ref q1, .ref q2, .ref q3, .ref q4, .ref q5]))] ++ [ia g q1 10 (fun _ => 0)] ++ [ia g q2 10 (fun _ => 0)] ++ [ia g q3 8 (fun _ => 0)] ++ [ia g q4 64 (fun _ => 0)] ++ [ia g q5 80 (fun _ => 0)]) := hD
  refine lv_aload_n hx hb dX0_init_54 rfl (lv_at hl 0 rfl) ?_
  refine va_get (ci := 0) (v := .ref q2) (C := RX0) (T := TX0) (N := 7) hx hb hts (fun w h => .tail _ (u_inX0 w h)) hown hK.1 hP 0 rfl rfl 3 (by decide) (hts _ (.tail _ u_fl_X0_22)) (fun _ h9 => h9) rfl dX0_init_55 ?_
  refine lv_iconst (v := (-1 : Int32)) hx hb dX0_init_58 (by decide) ?_
  refine kSvC ⟨hx, hb, hml, hown, hts⟩ (c_J7_fill_53178 l g q2 N 10 (fun _ => 0) (-1 : Int32) vc hvc H.size) (gS u_ml_X0_34 u_st_J7_fill_53178 u_ini_J7 u_co_J7_fill_53178) hd_J7_fill_53178 ⟨rfl, rfl⟩ ⟨rfl, rfl⟩ hK hP hD hS hA [2] [1, 2, 0, 4, 5, 6] rfl rfl 1 rfl (w2 := [(q, .inr (0, [.int (0 : Int32), .int (0 : Int32), .ref q1, .ref q2, .ref q3, .ref q4, .ref q5]))] ++ [ia g q1 10 (fun _ => 0)] ++ [ia g q2 10 vc] ++ [ia g q3 8 (fun _ => 0)] ++ [ia g q4 64 (fun _ => 0)] ++ [ia g q5 80 (fun _ => 0)]) rfl rfl (As := [.ref q2, .int (-1 : Int32)]) (rest := []) rfl hl.1 rfl rfl dX0_init_59 (fun H locs hP hD hS => ?_)
  have hP : va_P g.1 vwCl ([(q, .inr (0, [.int (0 : Int32), .int (0 : Int32), .ref q1, .ref q2, .ref q3, .ref q4, .ref q5]))] ++ [ia g q1 10 (fun _ => 0)] ++ [ia g q2 10 vc] ++ [ia g q3 8 (fun _ => 0)] ++ [ia g q4 64 (fun _ => 0)] ++ [ia g q5 80 (fun _ => 0)]) H := hP
  have hD : va_D A ([(q, .inr (0, [.int (0 : Int32), .int (0 : Int32), .ref q1, .ref q2, .ref q3, .ref q4, .ref q5]))] ++ [ia g q1 10 (fun _ => 0)] ++ [ia g q2 10 vc] ++ [ia g q3 8 (fun _ => 0)] ++ [ia g q4 64 (fun _ => 0)] ++ [ia g q5 80 (fun _ => 0)]) := hD
  refine lv_aload_n hx hb dX0_init_62 rfl (lv_at hl 0 rfl) ?_
  refine va_get (ci := 0) (v := .ref q4) (C := RX0) (T := TX0) (N := 7) hx hb hts (fun w h => .tail _ (u_inX0 w h)) hown hK.1 hP 0 rfl rfl 5 (by decide) (hts _ (.tail _ u_fl_X0_28)) (fun _ h9 => h9) rfl dX0_init_63 ?_
  refine lv_iconst (v := (-1 : Int32)) hx hb dX0_init_66 (by decide) ?_
  refine kSvC ⟨hx, hb, hml, hown, hts⟩ (c_J7_fill_53178 l g q4 N 64 (fun _ => 0) (-1 : Int32) vf hvf H.size) (gS u_ml_X0_34 u_st_J7_fill_53178 u_ini_J7 u_co_J7_fill_53178) hd_J7_fill_53178 ⟨rfl, rfl⟩ ⟨rfl, rfl⟩ hK hP hD hS hA [4] [1, 2, 3, 4, 0, 6] rfl rfl 1 rfl (w2 := [(q, .inr (0, [.int (0 : Int32), .int (0 : Int32), .ref q1, .ref q2, .ref q3, .ref q4, .ref q5]))] ++ [ia g q1 10 (fun _ => 0)] ++ [ia g q2 10 vc] ++ [ia g q3 8 (fun _ => 0)] ++ [ia g q4 64 vf] ++ [ia g q5 80 (fun _ => 0)]) rfl rfl (As := [.ref q4, .int (-1 : Int32)]) (rest := []) rfl hl.1 rfl rfl dX0_init_67 (fun H locs hP hD hS => ?_)
  have hP : va_P g.1 vwCl ([(q, .inr (0, [.int (0 : Int32), .int (0 : Int32), .ref q1, .ref q2, .ref q3, .ref q4, .ref q5]))] ++ [ia g q1 10 (fun _ => 0)] ++ [ia g q2 10 vc] ++ [ia g q3 8 (fun _ => 0)] ++ [ia g q4 64 vf] ++ [ia g q5 80 (fun _ => 0)]) H := hP
  have hD : va_D A ([(q, .inr (0, [.int (0 : Int32), .int (0 : Int32), .ref q1, .ref q2, .ref q3, .ref q4, .ref q5]))] ++ [ia g q1 10 (fun _ => 0)] ++ [ia g q2 10 vc] ++ [ia g q3 8 (fun _ => 0)] ++ [ia g q4 64 vf] ++ [ia g q5 80 (fun _ => 0)]) := hD
  exact k_cret (w1 := fun u => wX0 g q (u 0) (Fi vc vf)) (va_up (fun _ _ => 0) 0 (va_up (va_up (va_up (va_up (va_up (fun _ => 0) 2 q1) 3 q2) 4 q3) 5 q4) 6 q5)) hx hb hr hlk hP hD hS dX0_init_70
set_option maxHeartbeats 40000000 in
set_option maxRecDepth 100000 in
theorem c_X4_init (l : Launch) (g : gG) (q : Nat) (sz : Nat) : MetC l yX4_init cX4_init 1 1 12 6 56 q g [(q, .inr (4, [.int 0, .int 0, .int 0, .null, .null, .null, .null, .null, .null]))] (fun u => wX4 g q (u 0) z0) sz := by
  refine mkC (by decide +kernel) rfl rfl ?_ sz
  intro p e s m below meth c A ls E hin hP hD hS hl
  obtain ⟨⟨hx, hb, hml, hown, hts⟩, hr, hK, hA, hlk⟩ := id E
  have hown : s.vm.findClass RX4 = some m.cls := hown
  obtain ⟨H, hH⟩ : ∃ H, H = s.heap := ⟨_, rfl⟩
  have hS : va_S A s.heap H [] := by rw [hH]; exact hS
  have hP : va_P g.1 vwCl [(q, .inr (4, [.int 0, .int 0, .int 0, .null, .null, .null, .null, .null, .null]))] H := by rw [hH]; exact hP
  suffices hgo : W p l e (rC 1 6 56 12) s m [Value.ref q].toArray below meth c H [] 0 0 (MQ below (QC g A (fun u => wX4 g q (u 0) z0)) [Value.ref q].toArray s 6 56 A) (F0 m 0 ls []) by rw [hH] at hgo; exact hgo
  clear hH
  refine lv_aload_n hx hb dX4_init_0 rfl (lv_at hl 0 rfl) ?_
  refine W.objInit hx hb hown (hts _ (.tail _ u_ml_X4_3)) (hts _ (.tail _ u_im_obj)) (hts _ (.tail _ u_co_obj)) rfl (by rw [hml]; exact hl.1) rfl dX4_init_1 (Nat.le_of_ble_eq_true rfl) (Nat.le_of_ble_eq_true rfl) ?_
  refine W.eq (g2 := F0 m 4 ls []) rfl ?_
  refine lv_aload_n hx hb dX4_init_4 rfl (lv_at hl 0 rfl) ?_
  refine lv_iconst (v := (0 : Int32)) hx hb dX4_init_5 (by decide) ?_
  refine va_put (ci := 4) (v := .int (0 : Int32)) (ty := .int) (C := RX4) (T := TX4) (N := 9) hx hb hts (fun w h => .tail _ (u_inX4 w h)) tyX4 tyX4_ok nmX4 hown hK.1 hP hD hS 0 rfl rfl 0 (by decide) (hts _ (.tail _ u_fl_X4_9)) (fun _ h9 => h9) rfl (tyX4_ok 0 (by decide)) rfl rfl (Nat.le_of_ble_eq_true rfl) dX4_init_6 (fun H locs hP hD hS => ?_)
  have hP : va_P g.1 vwCl ([(q, .inr (4, [.int (0 : Int32), .int 0, .int 0, .null, .null, .null, .null, .null, .null]))]) H := hP
  have hD : va_D A ([(q, .inr (4, [.int (0 : Int32), .int 0, .int 0, .null, .null, .null, .null, .null, .null]))]) := hD
  refine lv_aload_n hx hb dX4_init_9 rfl (lv_at hl 0 rfl) ?_
  refine lv_iconst (v := (0 : Int32)) hx hb dX4_init_10 (by decide) ?_
  refine va_put (ci := 4) (v := .int (0 : Int32)) (ty := .int) (C := RX4) (T := TX4) (N := 9) hx hb hts (fun w h => .tail _ (u_inX4 w h)) tyX4 tyX4_ok nmX4 hown hK.1 hP hD hS 0 rfl rfl 1 (by decide) (hts _ (.tail _ u_fl_X4_15)) (fun _ h9 => h9) rfl (tyX4_ok 1 (by decide)) rfl rfl (Nat.le_of_ble_eq_true rfl) dX4_init_11 (fun H locs hP hD hS => ?_)
  have hP : va_P g.1 vwCl ([(q, .inr (4, [.int (0 : Int32), .int (0 : Int32), .int 0, .null, .null, .null, .null, .null, .null]))]) H := hP
  have hD : va_D A ([(q, .inr (4, [.int (0 : Int32), .int (0 : Int32), .int 0, .null, .null, .null, .null, .null, .null]))]) := hD
  refine lv_aload_n hx hb dX4_init_14 rfl (lv_at hl 0 rfl) ?_
  refine lv_iconst (v := (0 : Int32)) hx hb dX4_init_15 (by decide) ?_
  refine va_put (ci := 4) (v := .int (0 : Int32)) (ty := .int) (C := RX4) (T := TX4) (N := 9) hx hb hts (fun w h => .tail _ (u_inX4 w h)) tyX4 tyX4_ok nmX4 hown hK.1 hP hD hS 0 rfl rfl 2 (by decide) (hts _ (.tail _ u_fl_X4_18)) (fun _ h9 => h9) rfl (tyX4_ok 2 (by decide)) rfl rfl (Nat.le_of_ble_eq_true rfl) dX4_init_16 (fun H locs hP hD hS => ?_)
  have hP : va_P g.1 vwCl ([(q, .inr (4, [.int (0 : Int32), .int (0 : Int32), .int (0 : Int32), .null, .null, .null, .null, .null, .null]))]) H := hP
  have hD : va_D A ([(q, .inr (4, [.int (0 : Int32), .int (0 : Int32), .int (0 : Int32), .null, .null, .null, .null, .null, .null]))]) := hD
  refine lv_aload_n hx hb dX4_init_19 rfl (lv_at hl 0 rfl) ?_
  refine lv_bipush (v := (8 : Int32)) hx hb dX4_init_20 (by decide) ?_
  refine k_newi hx hb hts hK hP hD hS hA (N' := 8) (by decide) (by decide) (by decide) (Nat.le_of_ble_eq_true rfl) (Nat.le_of_ble_eq_true rfl) dX4_init_22 (fun q1 H hP hD hS => ?_)
  have hP : va_P g.1 vwCl ([(q, .inr (4, [.int (0 : Int32), .int (0 : Int32), .int (0 : Int32), .null, .null, .null, .null, .null, .null]))] ++ [ia g q1 8 (fun _ => 0)]) H := hP
  have hD : va_D A ([(q, .inr (4, [.int (0 : Int32), .int (0 : Int32), .int (0 : Int32), .null, .null, .null, .null, .null, .null]))] ++ [ia g q1 8 (fun _ => 0)]) := hD
  refine va_putF (ci := 4) (v := .ref q1) (ty := (.array .int)) (C := RX4) (T := TX4) (N := 9) hx hb hts (fun w h => .tail _ (u_inX4 w h)) tyX4 tyX4_ok nmX4 hown hK.1 hP hD hS 0 rfl rfl 3 (by decide) (hts _ (.tail _ u_fl_X4_21)) (fun _ h9 => h9) rfl hin rfl (tyX4_ok 3 (by decide)) rfl rfl (Nat.le_of_ble_eq_true rfl) dX4_init_24 (fun H locs hP hD hS => ?_)
  have hP : va_P g.1 vwCl ([(q, .inr (4, [.int (0 : Int32), .int (0 : Int32), .int (0 : Int32), .ref q1, .null, .null, .null, .null, .null]))] ++ [ia g q1 8 (fun _ => 0)]) H := hP
  have hD : va_D A ([(q, .inr (4, [.int (0 : Int32), .int (0 : Int32), .int (0 : Int32), .ref q1, .null, .null, .null, .null, .null]))] ++ [ia g q1 8 (fun _ => 0)]) := hD
  refine lv_aload_n hx hb dX4_init_27 rfl (lv_at hl 0 rfl) ?_
  refine lv_bipush (v := (8 : Int32)) hx hb dX4_init_28 (by decide) ?_
  refine k_newi hx hb hts hK hP hD hS hA (N' := 8) (by decide) (by decide) (by decide) (Nat.le_of_ble_eq_true rfl) (Nat.le_of_ble_eq_true rfl) dX4_init_30 (fun q2 H hP hD hS => ?_)
  have hP : va_P g.1 vwCl ([(q, .inr (4, [.int (0 : Int32), .int (0 : Int32), .int (0 : Int32), .ref q1, .null, .null, .null, .null, .null]))] ++ [ia g q1 8 (fun _ => 0)] ++ [ia g q2 8 (fun _ => 0)]) H := hP
  have hD : va_D A ([(q, .inr (4, [.int (0 : Int32), .int (0 : Int32), .int (0 : Int32), .ref q1, .null, .null, .null, .null, .null]))] ++ [ia g q1 8 (fun _ => 0)] ++ [ia g q2 8 (fun _ => 0)]) := hD
  refine va_putF (ci := 4) (v := .ref q2) (ty := (.array .int)) (C := RX4) (T := TX4) (N := 9) hx hb hts (fun w h => .tail _ (u_inX4 w h)) tyX4 tyX4_ok nmX4 hown hK.1 hP hD hS 0 rfl rfl 4 (by decide) (hts _ (.tail _ u_fl_X4_25)) (fun _ h9 => h9) rfl hin rfl (tyX4_ok 4 (by decide)) rfl rfl (Nat.le_of_ble_eq_true rfl) dX4_init_32 (fun H locs hP hD hS => ?_)
  have hP : va_P g.1 vwCl ([(q, .inr (4, [.int (0 : Int32), .int (0 : Int32), .int (0 : Int32), .ref q1, .ref q2, .null, .null, .null, .null]))] ++ [ia g q1 8 (fun _ => 0)] ++ [ia g q2 8 (fun _ => 0)]) H := hP
  have hD : va_D A ([(q, .inr (4, [.int (0 : Int32), .int (0 : Int32), .int (0 : Int32), .ref q1, .ref q2, .null, .null, .null, .null]))] ++ [ia g q1 8 (fun _ => 0)] ++ [ia g q2 8 (fun _ => 0)]) := hD
  refine lv_aload_n hx hb dX4_init_35 rfl (lv_at hl 0 rfl) ?_
  refine lv_bipush (v := (10 : Int32)) hx hb dX4_init_36 (by decide) ?_
  refine k_newi hx hb hts hK hP hD hS hA (N' := 10) (by decide) (by decide) (by decide) (Nat.le_of_ble_eq_true rfl) (Nat.le_of_ble_eq_true rfl) dX4_init_38 (fun q3 H hP hD hS => ?_)
  have hP : va_P g.1 vwCl ([(q, .inr (4, [.int (0 : Int32), .int (0 : Int32), .int (0 : Int32), .ref q1, .ref q2, .null, .null, .null, .null]))] ++ [ia g q1 8 (fun _ => 0)] ++ [ia g q2 8 (fun _ => 0)] ++ [ia g q3 10 (fun _ => 0)]) H := hP
  have hD : va_D A ([(q, .inr (4, [.int (0 : Int32), .int (0 : Int32), .int (0 : Int32), .ref q1, .ref q2, .null, .null, .null, .null]))] ++ [ia g q1 8 (fun _ => 0)] ++ [ia g q2 8 (fun _ => 0)] ++ [ia g q3 10 (fun _ => 0)]) := hD
  refine va_putF (ci := 4) (v := .ref q3) (ty := (.array .int)) (C := RX4) (T := TX4) (N := 9) hx hb hts (fun w h => .tail _ (u_inX4 w h)) tyX4 tyX4_ok nmX4 hown hK.1 hP hD hS 0 rfl rfl 5 (by decide) (hts _ (.tail _ u_fl_X4_28)) (fun _ h9 => h9) rfl hin rfl (tyX4_ok 5 (by decide)) rfl rfl (Nat.le_of_ble_eq_true rfl) dX4_init_40 (fun H locs hP hD hS => ?_)
  have hP : va_P g.1 vwCl ([(q, .inr (4, [.int (0 : Int32), .int (0 : Int32), .int (0 : Int32), .ref q1, .ref q2, .ref q3, .null, .null, .null]))] ++ [ia g q1 8 (fun _ => 0)] ++ [ia g q2 8 (fun _ => 0)] ++ [ia g q3 10 (fun _ => 0)]) H := hP
  have hD : va_D A ([(q, .inr (4, [.int (0 : Int32), .int (0 : Int32), .int (0 : Int32), .ref q1, .ref q2, .ref q3, .null, .null, .null]))] ++ [ia g q1 8 (fun _ => 0)] ++ [ia g q2 8 (fun _ => 0)] ++ [ia g q3 10 (fun _ => 0)]) := hD
  refine lv_aload_n hx hb dX4_init_43 rfl (lv_at hl 0 rfl) ?_
  refine lv_bipush (v := (10 : Int32)) hx hb dX4_init_44 (by decide) ?_
  refine k_newi hx hb hts hK hP hD hS hA (N' := 10) (by decide) (by decide) (by decide) (Nat.le_of_ble_eq_true rfl) (Nat.le_of_ble_eq_true rfl) dX4_init_46 (fun q4 H hP hD hS => ?_)
  have hP : va_P g.1 vwCl ([(q, .inr (4, [.int (0 : Int32), .int (0 : Int32), .int (0 : Int32), .ref q1, .ref q2, .ref q3, .null, .null, .null]))] ++ [ia g q1 8 (fun _ => 0)] ++ [ia g q2 8 (fun _ => 0)] ++ [ia g q3 10 (fun _ => 0)] ++ [ia g q4 10 (fun _ => 0)]) H := hP
  have hD : va_D A ([(q, .inr (4, [.int (0 : Int32), .int (0 : Int32), .int (0 : Int32), .ref q1, .ref q2, .ref q3, .null, .null, .null]))] ++ [ia g q1 8 (fun _ => 0)] ++ [ia g q2 8 (fun _ => 0)] ++ [ia g q3 10 (fun _ => 0)] ++ [ia g q4 10 (fun _ => 0)]) := hD
  refine va_putF (ci := 4) (v := .ref q4) (ty := (.array .int)) (C := RX4) (T := TX4) (N := 9) hx hb hts (fun w h => .tail _ (u_inX4 w h)) tyX4 tyX4_ok nmX4 hown hK.1 hP hD hS 0 rfl rfl 6 (by decide) (hts _ (.tail _ u_fl_X4_31)) (fun _ h9 => h9) rfl hin rfl (tyX4_ok 6 (by decide)) rfl rfl (Nat.le_of_ble_eq_true rfl) dX4_init_48 (fun H locs hP hD hS => ?_)
  have hP : va_P g.1 vwCl ([(q, .inr (4, [.int (0 : Int32), .int (0 : Int32), .int (0 : Int32), .ref q1, .ref q2, .ref q3, .ref q4, .null, .null]))] ++ [ia g q1 8 (fun _ => 0)] ++ [ia g q2 8 (fun _ => 0)] ++ [ia g q3 10 (fun _ => 0)] ++ [ia g q4 10 (fun _ => 0)]) H := hP
  have hD : va_D A ([(q, .inr (4, [.int (0 : Int32), .int (0 : Int32), .int (0 : Int32), .ref q1, .ref q2, .ref q3, .ref q4, .null, .null]))] ++ [ia g q1 8 (fun _ => 0)] ++ [ia g q2 8 (fun _ => 0)] ++ [ia g q3 10 (fun _ => 0)] ++ [ia g q4 10 (fun _ => 0)]) := hD
  refine lv_aload_n hx hb dX4_init_51 rfl (lv_at hl 0 rfl) ?_
  refine lv_bipush (v := (10 : Int32)) hx hb dX4_init_52 (by decide) ?_
  refine k_newi hx hb hts hK hP hD hS hA (N' := 10) (by decide) (by decide) (by decide) (Nat.le_of_ble_eq_true rfl) (Nat.le_of_ble_eq_true rfl) dX4_init_54 (fun q5 H hP hD hS => ?_)
  have hP : va_P g.1 vwCl ([(q, .inr (4, [.int (0 : Int32), .int (0 : Int32), .int (0 : Int32), .ref q1, .ref q2, .ref q3, .ref q4, .null, .null]))] ++ [ia g q1 8 (fun _ => 0)] ++ [ia g q2 8 (fun _ => 0)] ++ [ia g q3 10 (fun _ => 0)] ++ [ia g q4 10 (fun _ => 0)] ++ [ia g q5 10 (fun _ => 0)]) H := hP
  have hD : va_D A ([(q, .inr (4, [.int (0 : Int32), .int (0 : Int32), .int (0 : Int32), .ref q1, .ref q2, .ref q3, .ref q4, .null, .null]))] ++ [ia g q1 8 (fun _ => 0)] ++ [ia g q2 8 (fun _ => 0)] ++ [ia g q3 10 (fun _ => 0)] ++ [ia g q4 10 (fun _ => 0)] ++ [ia g q5 10 (fun _ => 0)]) := hD
  refine va_putF (ci := 4) (v := .ref q5) (ty := (.array .int)) (C := RX4) (T := TX4) (N := 9) hx hb hts (fun w h => .tail _ (u_inX4 w h)) tyX4 tyX4_ok nmX4 hown hK.1 hP hD hS 0 rfl rfl 7 (by decide) (hts _ (.tail _ u_fl_X4_34)) (fun _ h9 => h9) rfl hin rfl (tyX4_ok 7 (by decide)) rfl rfl (Nat.le_of_ble_eq_true rfl) dX4_init_56 (fun H locs hP hD hS => ?_)
  have hP : va_P g.1 vwCl ([(q, .inr (4, [.int (0 : Int32), .int (0 : Int32), .int (0 : Int32), .ref q1, .ref q2, .ref q3, .ref q4, .ref q5, .null]))] ++ [ia g q1 8 (fun _ => 0)] ++ [ia g q2 8 (fun _ => 0)] ++ [ia g q3 10 (fun _ => 0)] ++ [ia g q4 10 (fun _ => 0)] ++ [ia g q5 10 (fun _ => 0)]) H := hP
  have hD : va_D A ([(q, .inr (4, [.int (0 : Int32), .int (0 : Int32), .int (0 : Int32), .ref q1, .ref q2, .ref q3, .ref q4, .ref q5, .null]))] ++ [ia g q1 8 (fun _ => 0)] ++ [ia g q2 8 (fun _ => 0)] ++ [ia g q3 10 (fun _ => 0)] ++ [ia g q4 10 (fun _ => 0)] ++ [ia g q5 10 (fun _ => 0)]) := hD
  refine lv_aload_n hx hb dX4_init_59 rfl (lv_at hl 0 rfl) ?_
  refine lv_bipush (v := (10 : Int32)) hx hb dX4_init_60 (by decide) ?_
  refine k_newi hx hb hts hK hP hD hS hA (N' := 10) (by decide) (by decide) (by decide) (Nat.le_of_ble_eq_true rfl) (Nat.le_of_ble_eq_true rfl) dX4_init_62 (fun q6 H hP hD hS => ?_)
  have hP : va_P g.1 vwCl ([(q, .inr (4, [.int (0 : Int32), .int (0 : Int32), .int (0 : Int32), .ref q1, .ref q2, .ref q3, .ref q4, .ref q5, .null]))] ++ [ia g q1 8 (fun _ => 0)] ++ [ia g q2 8 (fun _ => 0)] ++ [ia g q3 10 (fun _ => 0)] ++ [ia g q4 10 (fun _ => 0)] ++ [ia g q5 10 (fun _ => 0)] ++ [ia g q6 10 (fun _ => 0)]) H := hP
  have hD : va_D A ([(q, .inr (4, [.int (0 : Int32), .int (0 : Int32), .int (0 : Int32), .ref q1, .ref q2, .ref q3, .ref q4, .ref q5, .null]))] ++ [ia g q1 8 (fun _ => 0)] ++ [ia g q2 8 (fun _ => 0)] ++ [ia g q3 10 (fun _ => 0)] ++ [ia g q4 10 (fun _ => 0)] ++ [ia g q5 10 (fun _ => 0)] ++ [ia g q6 10 (fun _ => 0)]) := hD
  refine va_putF (ci := 4) (v := .ref q6) (ty := (.array .int)) (C := RX4) (T := TX4) (N := 9) hx hb hts (fun w h => .tail _ (u_inX4 w h)) tyX4 tyX4_ok nmX4 hown hK.1 hP hD hS 0 rfl rfl 8 (by decide) (hts _ (.tail _ u_fl_X4_37)) (fun _ h9 => h9) rfl hin rfl (tyX4_ok 8 (by decide)) rfl rfl (Nat.le_of_ble_eq_true rfl) dX4_init_64 (fun H locs hP hD hS => ?_)
  have hP : va_P g.1 vwCl ([(q, .inr (4, [.int (0 : Int32), .int (0 : Int32), .int (0 : Int32), .ref q1, .ref q2, .ref q3, .ref q4, .ref q5, .ref q6]))] ++ [ia g q1 8 (fun _ => 0)] ++ [ia g q2 8 (fun _ => 0)] ++ [ia g q3 10 (fun _ => 0)] ++ [ia g q4 10 (fun _ => 0)] ++ [ia g q5 10 (fun _ => 0)] ++ [ia g q6 10 (fun _ => 0)]) H := hP
  have hD : va_D A ([(q, .inr (4, [.int (0 : Int32), .int (0 : Int32), .int (0 : Int32), .ref q1, .ref q2, .ref q3, .ref q4, .ref q5, .ref q6]))] ++ [ia g q1 8 (fun _ => 0)] ++ [ia g q2 8 (fun _ => 0)] ++ [ia g q3 10 (fun _ => 0)] ++ [ia g q4 10 (fun _ => 0)] ++ [ia g q5 10 (fun _ => 0)] ++ [ia g q6 10 (fun _ => 0)]) := hD
  exact k_cret (w1 := fun u => wX4 g q (u 0) z0) (va_up (fun _ _ => 0) 0 (va_up (va_up (va_up (va_up (va_up (va_up (fun _ => 0) 3 q1) 4 q2) 5 q3) 6 q4) 7 q5) 8 q6)) hx hb hr hlk hP hD hS dX4_init_67
set_option maxHeartbeats 40000000 in
set_option maxRecDepth 100000 in
theorem c_X5_init (l : Launch) (g : gG) (q : Nat) (sz : Nat) : MetC l yX5_init cX5_init 1 1 12 1 240 q g [(q, .inr (5, [.null, .int 0, .int 0, .int 0, .int 0, .int 0]))] (fun u => wX5 g q (u 0) (va_up z0 3 (fun _ => -1))) sz := by
  refine mkC (by decide +kernel) rfl rfl ?_ sz
  intro p e s m below meth c A ls E hin hP hD hS hl
  obtain ⟨⟨hx, hb, hml, hown, hts⟩, hr, hK, hA, hlk⟩ := id E
  have hown : s.vm.findClass RX5 = some m.cls := hown
  obtain ⟨H, hH⟩ : ∃ H, H = s.heap := ⟨_, rfl⟩
  have hS : va_S A s.heap H [] := by rw [hH]; exact hS
  have hP : va_P g.1 vwCl [(q, .inr (5, [.null, .int 0, .int 0, .int 0, .int 0, .int 0]))] H := by rw [hH]; exact hP
  suffices hgo : W p l e (rC 1 1 240 12) s m [Value.ref q].toArray below meth c H [] 0 0 (MQ below (QC g A (fun u => wX5 g q (u 0) (va_up z0 3 (fun _ => -1)))) [Value.ref q].toArray s 1 240 A) (F0 m 0 ls []) by rw [hH] at hgo; exact hgo
  clear hH
  refine lv_aload_n hx hb dX5_init_0 rfl (lv_at hl 0 rfl) ?_
  refine W.objInit hx hb hown (hts _ (.tail _ u_ml_X5_3)) (hts _ (.tail _ u_im_obj)) (hts _ (.tail _ u_co_obj)) rfl (by rw [hml]; exact hl.1) rfl dX5_init_1 (Nat.le_of_ble_eq_true rfl) (Nat.le_of_ble_eq_true rfl) ?_
  refine W.eq (g2 := F0 m 4 ls []) rfl ?_
  refine lv_aload_n hx hb dX5_init_4 rfl (lv_at hl 0 rfl) ?_
  refine lv_sipush (v := (240 : Int32)) hx hb dX5_init_5 (by decide) ?_
  refine k_newi hx hb hts hK hP hD hS hA (N' := 240) (by decide) (by decide) (by decide) (Nat.le_of_ble_eq_true rfl) (Nat.le_of_ble_eq_true rfl) dX5_init_8 (fun q1 H hP hD hS => ?_)
  have hP : va_P g.1 vwCl ([(q, .inr (5, [.null, .int 0, .int 0, .int 0, .int 0, .int 0]))] ++ [ia g q1 240 (fun _ => 0)]) H := hP
  have hD : va_D A ([(q, .inr (5, [.null, .int 0, .int 0, .int 0, .int 0, .int 0]))] ++ [ia g q1 240 (fun _ => 0)]) := hD
  refine va_putF (ci := 5) (v := .ref q1) (ty := (.array .int)) (C := RX5) (T := TX5) (N := 6) hx hb hts (fun w h => .tail _ (u_inX5 w h)) tyX5 tyX5_ok nmX5 hown hK.1 hP hD hS 0 rfl rfl 0 (by decide) (hts _ (.tail _ u_fl_X5_9)) (fun _ h9 => h9) rfl hin rfl (tyX5_ok 0 (by decide)) rfl rfl (Nat.le_of_ble_eq_true rfl) dX5_init_10 (fun H locs hP hD hS => ?_)
  have hP : va_P g.1 vwCl ([(q, .inr (5, [.ref q1, .int 0, .int 0, .int 0, .int 0, .int 0]))] ++ [ia g q1 240 (fun _ => 0)]) H := hP
  have hD : va_D A ([(q, .inr (5, [.ref q1, .int 0, .int 0, .int 0, .int 0, .int 0]))] ++ [ia g q1 240 (fun _ => 0)]) := hD
  refine lv_aload_n hx hb dX5_init_13 rfl (lv_at hl 0 rfl) ?_
  refine lv_iconst (v := (0 : Int32)) hx hb dX5_init_14 (by decide) ?_
  refine va_put (ci := 5) (v := .int (0 : Int32)) (ty := .int) (C := RX5) (T := TX5) (N := 6) hx hb hts (fun w h => .tail _ (u_inX5 w h)) tyX5 tyX5_ok nmX5 hown hK.1 hP hD hS 0 rfl rfl 1 (by decide) (hts _ (.tail _ u_fl_X5_15)) (fun _ h9 => h9) rfl (tyX5_ok 1 (by decide)) rfl rfl (Nat.le_of_ble_eq_true rfl) dX5_init_15 (fun H locs hP hD hS => ?_)
  have hP : va_P g.1 vwCl ([(q, .inr (5, [.ref q1, .int (0 : Int32), .int 0, .int 0, .int 0, .int 0]))] ++ [ia g q1 240 (fun _ => 0)]) H := hP
  have hD : va_D A ([(q, .inr (5, [.ref q1, .int (0 : Int32), .int 0, .int 0, .int 0, .int 0]))] ++ [ia g q1 240 (fun _ => 0)]) := hD
  refine lv_aload_n hx hb dX5_init_18 rfl (lv_at hl 0 rfl) ?_
  refine lv_iconst (v := (0 : Int32)) hx hb dX5_init_19 (by decide) ?_
  refine va_put (ci := 5) (v := .int (0 : Int32)) (ty := .int) (C := RX5) (T := TX5) (N := 6) hx hb hts (fun w h => .tail _ (u_inX5 w h)) tyX5 tyX5_ok nmX5 hown hK.1 hP hD hS 0 rfl rfl 2 (by decide) (hts _ (.tail _ u_fl_X5_19)) (fun _ h9 => h9) rfl (tyX5_ok 2 (by decide)) rfl rfl (Nat.le_of_ble_eq_true rfl) dX5_init_20 (fun H locs hP hD hS => ?_)
  have hP : va_P g.1 vwCl ([(q, .inr (5, [.ref q1, .int (0 : Int32), .int (0 : Int32), .int 0, .int 0, .int 0]))] ++ [ia g q1 240 (fun _ => 0)]) H := hP
  have hD : va_D A ([(q, .inr (5, [.ref q1, .int (0 : Int32), .int (0 : Int32), .int 0, .int 0, .int 0]))] ++ [ia g q1 240 (fun _ => 0)]) := hD
  refine lv_aload_n hx hb dX5_init_23 rfl (lv_at hl 0 rfl) ?_
  refine lv_iconst (v := (-1 : Int32)) hx hb dX5_init_24 (by decide) ?_
  refine va_put (ci := 5) (v := .int (-1 : Int32)) (ty := .int) (C := RX5) (T := TX5) (N := 6) hx hb hts (fun w h => .tail _ (u_inX5 w h)) tyX5 tyX5_ok nmX5 hown hK.1 hP hD hS 0 rfl rfl 3 (by decide) (hts _ (.tail _ u_fl_X5_22)) (fun _ h9 => h9) rfl (tyX5_ok 3 (by decide)) rfl rfl (Nat.le_of_ble_eq_true rfl) dX5_init_25 (fun H locs hP hD hS => ?_)
  have hP : va_P g.1 vwCl ([(q, .inr (5, [.ref q1, .int (0 : Int32), .int (0 : Int32), .int (-1 : Int32), .int 0, .int 0]))] ++ [ia g q1 240 (fun _ => 0)]) H := hP
  have hD : va_D A ([(q, .inr (5, [.ref q1, .int (0 : Int32), .int (0 : Int32), .int (-1 : Int32), .int 0, .int 0]))] ++ [ia g q1 240 (fun _ => 0)]) := hD
  refine lv_aload_n hx hb dX5_init_28 rfl (lv_at hl 0 rfl) ?_
  refine lv_iconst (v := (0 : Int32)) hx hb dX5_init_29 (by decide) ?_
  refine va_put (ci := 5) (v := .int (0 : Int32)) (ty := .int) (C := RX5) (T := TX5) (N := 6) hx hb hts (fun w h => .tail _ (u_inX5 w h)) tyX5 tyX5_ok nmX5 hown hK.1 hP hD hS 0 rfl rfl 4 (by decide) (hts _ (.tail _ u_fl_X5_25)) (fun _ h9 => h9) rfl (tyX5_ok 4 (by decide)) rfl rfl (Nat.le_of_ble_eq_true rfl) dX5_init_30 (fun H locs hP hD hS => ?_)
  have hP : va_P g.1 vwCl ([(q, .inr (5, [.ref q1, .int (0 : Int32), .int (0 : Int32), .int (-1 : Int32), .int (0 : Int32), .int 0]))] ++ [ia g q1 240 (fun _ => 0)]) H := hP
  have hD : va_D A ([(q, .inr (5, [.ref q1, .int (0 : Int32), .int (0 : Int32), .int (-1 : Int32), .int (0 : Int32), .int 0]))] ++ [ia g q1 240 (fun _ => 0)]) := hD
  refine lv_aload_n hx hb dX5_init_33 rfl (lv_at hl 0 rfl) ?_
  refine lv_iconst (v := (0 : Int32)) hx hb dX5_init_34 (by decide) ?_
  refine va_put (ci := 5) (v := .int (0 : Int32)) (ty := .int) (C := RX5) (T := TX5) (N := 6) hx hb hts (fun w h => .tail _ (u_inX5 w h)) tyX5 tyX5_ok nmX5 hown hK.1 hP hD hS 0 rfl rfl 5 (by decide) (hts _ (.tail _ u_fl_X5_28)) (fun _ h9 => h9) rfl (tyX5_ok 5 (by decide)) rfl rfl (Nat.le_of_ble_eq_true rfl) dX5_init_35 (fun H locs hP hD hS => ?_)
  have hP : va_P g.1 vwCl ([(q, .inr (5, [.ref q1, .int (0 : Int32), .int (0 : Int32), .int (-1 : Int32), .int (0 : Int32), .int (0 : Int32)]))] ++ [ia g q1 240 (fun _ => 0)]) H := hP
  have hD : va_D A ([(q, .inr (5, [.ref q1, .int (0 : Int32), .int (0 : Int32), .int (-1 : Int32), .int (0 : Int32), .int (0 : Int32)]))] ++ [ia g q1 240 (fun _ => 0)]) := hD
  exact k_cret (w1 := fun u => wX5 g q (u 0) (va_up z0 3 (fun _ => -1))) (va_up (fun _ _ => 0) 0 (va_up (fun _ => 0) 0 q1)) hx hb hr hlk hP hD hS dX5_init_38
set_option maxHeartbeats 40000000 in
set_option maxRecDepth 100000 in
theorem c_X6_init (l : Launch) (g : gG) (q : Nat) (sz : Nat) : MetC l yX6_init cX6_init 1 1 12 2 16 q g [(q, .inr (6, [.null, .null]))] (fun u => wX6 g q (u 0) z0) sz := by
  refine mkC (by decide +kernel) rfl rfl ?_ sz
  intro p e s m below meth c A ls E hin hP hD hS hl
  obtain ⟨⟨hx, hb, hml, hown, hts⟩, hr, hK, hA, hlk⟩ := id E
  have hown : s.vm.findClass RX6 = some m.cls := hown
  obtain ⟨H, hH⟩ : ∃ H, H = s.heap := ⟨_, rfl⟩
  have hS : va_S A s.heap H [] := by rw [hH]; exact hS
  have hP : va_P g.1 vwCl [(q, .inr (6, [.null, .null]))] H := by rw [hH]; exact hP
  suffices hgo : W p l e (rC 1 2 16 12) s m [Value.ref q].toArray below meth c H [] 0 0 (MQ below (QC g A (fun u => wX6 g q (u 0) z0)) [Value.ref q].toArray s 2 16 A) (F0 m 0 ls []) by rw [hH] at hgo; exact hgo
  clear hH
  refine lv_aload_n hx hb dX6_init_0 rfl (lv_at hl 0 rfl) ?_
  refine W.objInit hx hb hown (hts _ (.tail _ u_ml_X6_3)) (hts _ (.tail _ u_im_obj)) (hts _ (.tail _ u_co_obj)) rfl (by rw [hml]; exact hl.1) rfl dX6_init_1 (Nat.le_of_ble_eq_true rfl) (Nat.le_of_ble_eq_true rfl) ?_
  refine W.eq (g2 := F0 m 4 ls []) rfl ?_
  refine lv_aload_n hx hb dX6_init_4 rfl (lv_at hl 0 rfl) ?_
  refine lv_bipush (v := (8 : Int32)) hx hb dX6_init_5 (by decide) ?_
  refine k_newi hx hb hts hK hP hD hS hA (N' := 8) (by decide) (by decide) (by decide) (Nat.le_of_ble_eq_true rfl) (Nat.le_of_ble_eq_true rfl) dX6_init_7 (fun q1 H hP hD hS => ?_)
  have hP : va_P g.1 vwCl ([(q, .inr (6, [.null, .null]))] ++ [ia g q1 8 (fun _ => 0)]) H := hP
  have hD : va_D A ([(q, .inr (6, [.null, .null]))] ++ [ia g q1 8 (fun _ => 0)]) := hD
  refine va_putF (ci := 6) (v := .ref q1) (ty := (.array .int)) (C := RX6) (T := TX6) (N := 2) hx hb hts (fun w h => .tail _ (u_inX6 w h)) tyX6 tyX6_ok nmX6 hown hK.1 hP hD hS 0 rfl rfl 0 (by decide) (hts _ (.tail _ u_fl_X6_9)) (fun _ h9 => h9) rfl hin rfl (tyX6_ok 0 (by decide)) rfl rfl (Nat.le_of_ble_eq_true rfl) dX6_init_9 (fun H locs hP hD hS => ?_)
  have hP : va_P g.1 vwCl ([(q, .inr (6, [.ref q1, .null]))] ++ [ia g q1 8 (fun _ => 0)]) H := hP
  have hD : va_D A ([(q, .inr (6, [.ref q1, .null]))] ++ [ia g q1 8 (fun _ => 0)]) := hD
  refine lv_aload_n hx hb dX6_init_12 rfl (lv_at hl 0 rfl) ?_
  refine lv_bipush (v := (8 : Int32)) hx hb dX6_init_13 (by decide) ?_
  refine k_newi hx hb hts hK hP hD hS hA (N' := 8) (by decide) (by decide) (by decide) (Nat.le_of_ble_eq_true rfl) (Nat.le_of_ble_eq_true rfl) dX6_init_15 (fun q2 H hP hD hS => ?_)
  have hP : va_P g.1 vwCl ([(q, .inr (6, [.ref q1, .null]))] ++ [ia g q1 8 (fun _ => 0)] ++ [ia g q2 8 (fun _ => 0)]) H := hP
  have hD : va_D A ([(q, .inr (6, [.ref q1, .null]))] ++ [ia g q1 8 (fun _ => 0)] ++ [ia g q2 8 (fun _ => 0)]) := hD
  refine va_putF (ci := 6) (v := .ref q2) (ty := (.array .int)) (C := RX6) (T := TX6) (N := 2) hx hb hts (fun w h => .tail _ (u_inX6 w h)) tyX6 tyX6_ok nmX6 hown hK.1 hP hD hS 0 rfl rfl 1 (by decide) (hts _ (.tail _ u_fl_X6_15)) (fun _ h9 => h9) rfl hin rfl (tyX6_ok 1 (by decide)) rfl rfl (Nat.le_of_ble_eq_true rfl) dX6_init_17 (fun H locs hP hD hS => ?_)
  have hP : va_P g.1 vwCl ([(q, .inr (6, [.ref q1, .ref q2]))] ++ [ia g q1 8 (fun _ => 0)] ++ [ia g q2 8 (fun _ => 0)]) H := hP
  have hD : va_D A ([(q, .inr (6, [.ref q1, .ref q2]))] ++ [ia g q1 8 (fun _ => 0)] ++ [ia g q2 8 (fun _ => 0)]) := hD
  exact k_cret (w1 := fun u => wX6 g q (u 0) z0) (va_up (fun _ _ => 0) 0 (va_up (va_up (fun _ => 0) 0 q1) 1 q2)) hx hb hr hlk hP hD hS dX6_init_20
set_option maxHeartbeats 40000000 in
set_option maxRecDepth 100000 in
theorem c_X8_init (l : Launch) (g : gG) (q : Nat) (sz : Nat) : MetC l yX8_init cX8_init 1 1 12 2 16 q g [(q, .inr (8, [.null, .null]))] (fun u => wX8 g q (u 0) zL) sz := by
  refine mkC (by decide +kernel) rfl rfl ?_ sz
  intro p e s m below meth c A ls E hin hP hD hS hl
  obtain ⟨⟨hx, hb, hml, hown, hts⟩, hr, hK, hA, hlk⟩ := id E
  have hown : s.vm.findClass RX8 = some m.cls := hown
  obtain ⟨H, hH⟩ : ∃ H, H = s.heap := ⟨_, rfl⟩
  have hS : va_S A s.heap H [] := by rw [hH]; exact hS
  have hP : va_P g.1 vwCl [(q, .inr (8, [.null, .null]))] H := by rw [hH]; exact hP
  suffices hgo : W p l e (rC 1 2 16 12) s m [Value.ref q].toArray below meth c H [] 0 0 (MQ below (QC g A (fun u => wX8 g q (u 0) zL)) [Value.ref q].toArray s 2 16 A) (F0 m 0 ls []) by rw [hH] at hgo; exact hgo
  clear hH
  refine lv_aload_n hx hb dX8_init_0 rfl (lv_at hl 0 rfl) ?_
  refine W.objInit hx hb hown (hts _ (.tail _ u_ml_X8_3)) (hts _ (.tail _ u_im_obj)) (hts _ (.tail _ u_co_obj)) rfl (by rw [hml]; exact hl.1) rfl dX8_init_1 (Nat.le_of_ble_eq_true rfl) (Nat.le_of_ble_eq_true rfl) ?_
  refine W.eq (g2 := F0 m 4 ls []) rfl ?_
  refine lv_aload_n hx hb dX8_init_4 rfl (lv_at hl 0 rfl) ?_
  refine lv_bipush (v := (8 : Int32)) hx hb dX8_init_5 (by decide) ?_
  refine k_newl hx hb hts hK hP hD hS hA (N' := 8) (by decide) (by decide) (by decide) (Nat.le_of_ble_eq_true rfl) (Nat.le_of_ble_eq_true rfl) dX8_init_7 (fun q1 H hP hD hS => ?_)
  have hP : va_P g.1 vwCl ([(q, .inr (8, [.null, .null]))] ++ [la g q1 8 (fun _ => 0)]) H := hP
  have hD : va_D A ([(q, .inr (8, [.null, .null]))] ++ [la g q1 8 (fun _ => 0)]) := hD
  refine va_putF (ci := 8) (v := .ref q1) (ty := (.array .long)) (C := RX8) (T := TX8) (N := 2) hx hb hts (fun w h => .tail _ (u_inX8 w h)) tyX8 tyX8_ok nmX8 hown hK.1 hP hD hS 0 rfl rfl 0 (by decide) (hts _ (.tail _ u_fl_X8_9)) (fun _ h9 => h9) rfl hin rfl (tyX8_ok 0 (by decide)) rfl rfl (Nat.le_of_ble_eq_true rfl) dX8_init_9 (fun H locs hP hD hS => ?_)
  have hP : va_P g.1 vwCl ([(q, .inr (8, [.ref q1, .null]))] ++ [la g q1 8 (fun _ => 0)]) H := hP
  have hD : va_D A ([(q, .inr (8, [.ref q1, .null]))] ++ [la g q1 8 (fun _ => 0)]) := hD
  refine lv_aload_n hx hb dX8_init_12 rfl (lv_at hl 0 rfl) ?_
  refine lv_bipush (v := (8 : Int32)) hx hb dX8_init_13 (by decide) ?_
  refine k_newl hx hb hts hK hP hD hS hA (N' := 8) (by decide) (by decide) (by decide) (Nat.le_of_ble_eq_true rfl) (Nat.le_of_ble_eq_true rfl) dX8_init_15 (fun q2 H hP hD hS => ?_)
  have hP : va_P g.1 vwCl ([(q, .inr (8, [.ref q1, .null]))] ++ [la g q1 8 (fun _ => 0)] ++ [la g q2 8 (fun _ => 0)]) H := hP
  have hD : va_D A ([(q, .inr (8, [.ref q1, .null]))] ++ [la g q1 8 (fun _ => 0)] ++ [la g q2 8 (fun _ => 0)]) := hD
  refine va_putF (ci := 8) (v := .ref q2) (ty := (.array .long)) (C := RX8) (T := TX8) (N := 2) hx hb hts (fun w h => .tail _ (u_inX8 w h)) tyX8 tyX8_ok nmX8 hown hK.1 hP hD hS 0 rfl rfl 1 (by decide) (hts _ (.tail _ u_fl_X8_15)) (fun _ h9 => h9) rfl hin rfl (tyX8_ok 1 (by decide)) rfl rfl (Nat.le_of_ble_eq_true rfl) dX8_init_17 (fun H locs hP hD hS => ?_)
  have hP : va_P g.1 vwCl ([(q, .inr (8, [.ref q1, .ref q2]))] ++ [la g q1 8 (fun _ => 0)] ++ [la g q2 8 (fun _ => 0)]) H := hP
  have hD : va_D A ([(q, .inr (8, [.ref q1, .ref q2]))] ++ [la g q1 8 (fun _ => 0)] ++ [la g q2 8 (fun _ => 0)]) := hD
  exact k_cret (w1 := fun u => wX8 g q (u 0) zL) (va_up (fun _ _ => 0) 0 (va_up (va_up (fun _ => 0) 0 q1) 1 q2)) hx hb hr hlk hP hD hS dX8_init_20
set_option maxHeartbeats 40000000 in
set_option maxRecDepth 100000 in
theorem c_X2_init (l : Launch) (g : gG) (q : Nat) (sz : Nat) : MetC l yX2_init cX2_init 1 1 12 5 48 q g [(q, .inr (2, [.int 0, .int 0, .null, .null, .null, .null, .null]))] (fun u => wX2 g q (u 0) z0) sz := by
  refine mkC (by decide +kernel) rfl rfl ?_ sz
  intro p e s m below meth c A ls E hin hP hD hS hl
  obtain ⟨⟨hx, hb, hml, hown, hts⟩, hr, hK, hA, hlk⟩ := id E
  have hown : s.vm.findClass RX2 = some m.cls := hown
  obtain ⟨H, hH⟩ : ∃ H, H = s.heap := ⟨_, rfl⟩
  have hS : va_S A s.heap H [] := by rw [hH]; exact hS
  have hP : va_P g.1 vwCl [(q, .inr (2, [.int 0, .int 0, .null, .null, .null, .null, .null]))] H := by rw [hH]; exact hP
  suffices hgo : W p l e (rC 1 5 48 12) s m [Value.ref q].toArray below meth c H [] 0 0 (MQ below (QC g A (fun u => wX2 g q (u 0) z0)) [Value.ref q].toArray s 5 48 A) (F0 m 0 ls []) by rw [hH] at hgo; exact hgo
  clear hH
  refine lv_aload_n hx hb dX2_init_0 rfl (lv_at hl 0 rfl) ?_
  refine W.objInit hx hb hown (hts _ (.tail _ u_ml_X2_3)) (hts _ (.tail _ u_im_obj)) (hts _ (.tail _ u_co_obj)) rfl (by rw [hml]; exact hl.1) rfl dX2_init_1 (Nat.le_of_ble_eq_true rfl) (Nat.le_of_ble_eq_true rfl) ?_
  refine W.eq (g2 := F0 m 4 ls []) rfl ?_
  refine lv_aload_n hx hb dX2_init_4 rfl (lv_at hl 0 rfl) ?_
  refine lv_iconst (v := (0 : Int32)) hx hb dX2_init_5 (by decide) ?_
  refine va_put (ci := 2) (v := .int (0 : Int32)) (ty := .int) (C := RX2) (T := TX2) (N := 7) hx hb hts (fun w h => .tail _ (u_inX2 w h)) tyX2 tyX2_ok nmX2 hown hK.1 hP hD hS 0 rfl rfl 0 (by decide) (hts _ (.tail _ u_fl_X2_9)) (fun _ h9 => h9) rfl (tyX2_ok 0 (by decide)) rfl rfl (Nat.le_of_ble_eq_true rfl) dX2_init_6 (fun H locs hP hD hS => ?_)
  have hP : va_P g.1 vwCl ([(q, .inr (2, [.int (0 : Int32), .int 0, .null, .null, .null, .null, .null]))]) H := hP
  have hD : va_D A ([(q, .inr (2, [.int (0 : Int32), .int 0, .null, .null, .null, .null, .null]))]) := hD
  refine lv_aload_n hx hb dX2_init_9 rfl (lv_at hl 0 rfl) ?_
  refine lv_iconst (v := (0 : Int32)) hx hb dX2_init_10 (by decide) ?_
  refine va_put (ci := 2) (v := .int (0 : Int32)) (ty := .int) (C := RX2) (T := TX2) (N := 7) hx hb hts (fun w h => .tail _ (u_inX2 w h)) tyX2 tyX2_ok nmX2 hown hK.1 hP hD hS 0 rfl rfl 1 (by decide) (hts _ (.tail _ u_fl_X2_15)) (fun _ h9 => h9) rfl (tyX2_ok 1 (by decide)) rfl rfl (Nat.le_of_ble_eq_true rfl) dX2_init_11 (fun H locs hP hD hS => ?_)
  have hP : va_P g.1 vwCl ([(q, .inr (2, [.int (0 : Int32), .int (0 : Int32), .null, .null, .null, .null, .null]))]) H := hP
  have hD : va_D A ([(q, .inr (2, [.int (0 : Int32), .int (0 : Int32), .null, .null, .null, .null, .null]))]) := hD
  refine lv_aload_n hx hb dX2_init_14 rfl (lv_at hl 0 rfl) ?_
  refine lv_bipush (v := (6 : Int32)) hx hb dX2_init_15 (by decide) ?_
  refine k_newi hx hb hts hK hP hD hS hA (N' := 6) (by decide) (by decide) (by decide) (Nat.le_of_ble_eq_true rfl) (Nat.le_of_ble_eq_true rfl) dX2_init_17 (fun q1 H hP hD hS => ?_)
  have hP : va_P g.1 vwCl ([(q, .inr (2, [.int (0 : Int32), .int (0 : Int32), .null, .null, .null, .null, .null]))] ++ [ia g q1 6 (fun _ => 0)]) H := hP
  have hD : va_D A ([(q, .inr (2, [.int (0 : Int32), .int (0 : Int32), .null, .null, .null, .null, .null]))] ++ [ia g q1 6 (fun _ => 0)]) := hD
  refine va_putF (ci := 2) (v := .ref q1) (ty := (.array .int)) (C := RX2) (T := TX2) (N := 7) hx hb hts (fun w h => .tail _ (u_inX2 w h)) tyX2 tyX2_ok nmX2 hown hK.1 hP hD hS 0 rfl rfl 2 (by decide) (hts _ (.tail _ u_fl_X2_18)) (fun _ h9 => h9) rfl hin rfl (tyX2_ok 2 (by decide)) rfl rfl (Nat.le_of_ble_eq_true rfl) dX2_init_19 (fun H locs hP hD hS => ?_)
  have hP : va_P g.1 vwCl ([(q, .inr (2, [.int (0 : Int32), .int (0 : Int32), .ref q1, .null, .null, .null, .null]))] ++ [ia g q1 6 (fun _ => 0)]) H := hP
  have hD : va_D A ([(q, .inr (2, [.int (0 : Int32), .int (0 : Int32), .ref q1, .null, .null, .null, .null]))] ++ [ia g q1 6 (fun _ => 0)]) := hD
  refine lv_aload_n hx hb dX2_init_22 rfl (lv_at hl 0 rfl) ?_
  refine lv_bipush (v := (6 : Int32)) hx hb dX2_init_23 (by decide) ?_
  refine k_newi hx hb hts hK hP hD hS hA (N' := 6) (by decide) (by decide) (by decide) (Nat.le_of_ble_eq_true rfl) (Nat.le_of_ble_eq_true rfl) dX2_init_25 (fun q2 H hP hD hS => ?_)
  have hP : va_P g.1 vwCl ([(q, .inr (2, [.int (0 : Int32), .int (0 : Int32), .ref q1, .null, .null, .null, .null]))] ++ [ia g q1 6 (fun _ => 0)] ++ [ia g q2 6 (fun _ => 0)]) H := hP
  have hD : va_D A ([(q, .inr (2, [.int (0 : Int32), .int (0 : Int32), .ref q1, .null, .null, .null, .null]))] ++ [ia g q1 6 (fun _ => 0)] ++ [ia g q2 6 (fun _ => 0)]) := hD
  refine va_putF (ci := 2) (v := .ref q2) (ty := (.array .int)) (C := RX2) (T := TX2) (N := 7) hx hb hts (fun w h => .tail _ (u_inX2 w h)) tyX2 tyX2_ok nmX2 hown hK.1 hP hD hS 0 rfl rfl 3 (by decide) (hts _ (.tail _ u_fl_X2_22)) (fun _ h9 => h9) rfl hin rfl (tyX2_ok 3 (by decide)) rfl rfl (Nat.le_of_ble_eq_true rfl) dX2_init_27 (fun H locs hP hD hS => ?_)
  have hP : va_P g.1 vwCl ([(q, .inr (2, [.int (0 : Int32), .int (0 : Int32), .ref q1, .ref q2, .null, .null, .null]))] ++ [ia g q1 6 (fun _ => 0)] ++ [ia g q2 6 (fun _ => 0)]) H := hP
  have hD : va_D A ([(q, .inr (2, [.int (0 : Int32), .int (0 : Int32), .ref q1, .ref q2, .null, .null, .null]))] ++ [ia g q1 6 (fun _ => 0)] ++ [ia g q2 6 (fun _ => 0)]) := hD
  refine lv_aload_n hx hb dX2_init_30 rfl (lv_at hl 0 rfl) ?_
  refine lv_bipush (v := (6 : Int32)) hx hb dX2_init_31 (by decide) ?_
  refine k_newi hx hb hts hK hP hD hS hA (N' := 6) (by decide) (by decide) (by decide) (Nat.le_of_ble_eq_true rfl) (Nat.le_of_ble_eq_true rfl) dX2_init_33 (fun q3 H hP hD hS => ?_)
  have hP : va_P g.1 vwCl ([(q, .inr (2, [.int (0 : Int32), .int (0 : Int32), .ref q1, .ref q2, .null, .null, .null]))] ++ [ia g q1 6 (fun _ => 0)] ++ [ia g q2 6 (fun _ => 0)] ++ [ia g q3 6 (fun _ => 0)]) H := hP
  have hD : va_D A ([(q, .inr (2, [.int (0 : Int32), .int (0 : Int32), .ref q1, .ref q2, .null, .null, .null]))] ++ [ia g q1 6 (fun _ => 0)] ++ [ia g q2 6 (fun _ => 0)] ++ [ia g q3 6 (fun _ => 0)]) := hD
  refine va_putF (ci := 2) (v := .ref q3) (ty := (.array .int)) (C := RX2) (T := TX2) (N := 7) hx hb hts (fun w h => .tail _ (u_inX2 w h)) tyX2 tyX2_ok nmX2 hown hK.1 hP hD hS 0 rfl rfl 4 (by decide) (hts _ (.tail _ u_fl_X2_25)) (fun _ h9 => h9) rfl hin rfl (tyX2_ok 4 (by decide)) rfl rfl (Nat.le_of_ble_eq_true rfl) dX2_init_35 (fun H locs hP hD hS => ?_)
  have hP : va_P g.1 vwCl ([(q, .inr (2, [.int (0 : Int32), .int (0 : Int32), .ref q1, .ref q2, .ref q3, .null, .null]))] ++ [ia g q1 6 (fun _ => 0)] ++ [ia g q2 6 (fun _ => 0)] ++ [ia g q3 6 (fun _ => 0)]) H := hP
  have hD : va_D A ([(q, .inr (2, [.int (0 : Int32), .int (0 : Int32), .ref q1, .ref q2, .ref q3, .null, .null]))] ++ [ia g q1 6 (fun _ => 0)] ++ [ia g q2 6 (fun _ => 0)] ++ [ia g q3 6 (fun _ => 0)]) := hD
  refine lv_aload_n hx hb dX2_init_38 rfl (lv_at hl 0 rfl) ?_
  refine lv_bipush (v := (15 : Int32)) hx hb dX2_init_39 (by decide) ?_
  refine k_newi hx hb hts hK hP hD hS hA (N' := 15) (by decide) (by decide) (by decide) (Nat.le_of_ble_eq_true rfl) (Nat.le_of_ble_eq_true rfl) dX2_init_41 (fun q4 H hP hD hS => ?_)
  have hP : va_P g.1 vwCl ([(q, .inr (2, [.int (0 : Int32), .int (0 : Int32), .ref q1, .ref q2, .ref q3, .null, .null]))] ++ [ia g q1 6 (fun _ => 0)] ++ [ia g q2 6 (fun _ => 0)] ++ [ia g q3 6 (fun _ => 0)] ++ [ia g q4 15 (fun _ => 0)]) H := hP
  have hD : va_D A ([(q, .inr (2, [.int (0 : Int32), .int (0 : Int32), .ref q1, .ref q2, .ref q3, .null, .null]))] ++ [ia g q1 6 (fun _ => 0)] ++ [ia g q2 6 (fun _ => 0)] ++ [ia g q3 6 (fun _ => 0)] ++ [ia g q4 15 (fun _ => 0)]) := hD
  refine va_putF (ci := 2) (v := .ref q4) (ty := (.array .int)) (C := RX2) (T := TX2) (N := 7) hx hb hts (fun w h => .tail _ (u_inX2 w h)) tyX2 tyX2_ok nmX2 hown hK.1 hP hD hS 0 rfl rfl 5 (by decide) (hts _ (.tail _ u_fl_X2_28)) (fun _ h9 => h9) rfl hin rfl (tyX2_ok 5 (by decide)) rfl rfl (Nat.le_of_ble_eq_true rfl) dX2_init_43 (fun H locs hP hD hS => ?_)
  have hP : va_P g.1 vwCl ([(q, .inr (2, [.int (0 : Int32), .int (0 : Int32), .ref q1, .ref q2, .ref q3, .ref q4, .null]))] ++ [ia g q1 6 (fun _ => 0)] ++ [ia g q2 6 (fun _ => 0)] ++ [ia g q3 6 (fun _ => 0)] ++ [ia g q4 15 (fun _ => 0)]) H := hP
  have hD : va_D A ([(q, .inr (2, [.int (0 : Int32), .int (0 : Int32), .ref q1, .ref q2, .ref q3, .ref q4, .null]))] ++ [ia g q1 6 (fun _ => 0)] ++ [ia g q2 6 (fun _ => 0)] ++ [ia g q3 6 (fun _ => 0)] ++ [ia g q4 15 (fun _ => 0)]) := hD
  refine lv_aload_n hx hb dX2_init_46 rfl (lv_at hl 0 rfl) ?_
  refine lv_bipush (v := (15 : Int32)) hx hb dX2_init_47 (by decide) ?_
  refine k_newi hx hb hts hK hP hD hS hA (N' := 15) (by decide) (by decide) (by decide) (Nat.le_of_ble_eq_true rfl) (Nat.le_of_ble_eq_true rfl) dX2_init_49 (fun q5 H hP hD hS => ?_)
  have hP : va_P g.1 vwCl ([(q, .inr (2, [.int (0 : Int32), .int (0 : Int32), .ref q1, .ref q2, .ref q3, .ref q4, .null]))] ++ [ia g q1 6 (fun _ => 0)] ++ [ia g q2 6 (fun _ => 0)] ++ [ia g q3 6 (fun _ => 0)] ++ [ia g q4 15 (fun _ => 0)] ++ [ia g q5 15 (fun _ => 0)]) H := hP
  have hD : va_D A ([(q, .inr (2, [.int (0 : Int32), .int (0 : Int32), .ref q1, .ref q2, .ref q3, .ref q4, .null]))] ++ [ia g q1 6 (fun _ => 0)] ++ [ia g q2 6 (fun _ => 0)] ++ [ia g q3 6 (fun _ => 0)] ++ [ia g q4 15 (fun _ => 0)] ++ [ia g q5 15 (fun _ => 0)]) := hD
  refine va_putF (ci := 2) (v := .ref q5) (ty := (.array .int)) (C := RX2) (T := TX2) (N := 7) hx hb hts (fun w h => .tail _ (u_inX2 w h)) tyX2 tyX2_ok nmX2 hown hK.1 hP hD hS 0 rfl rfl 6 (by decide) (hts _ (.tail _ u_fl_X2_31)) (fun _ h9 => h9) rfl hin rfl (tyX2_ok 6 (by decide)) rfl rfl (Nat.le_of_ble_eq_true rfl) dX2_init_51 (fun H locs hP hD hS => ?_)
  have hP : va_P g.1 vwCl ([(q, .inr (2, [.int (0 : Int32), .int (0 : Int32), .ref q1, .ref q2, .ref q3, .ref q4, .ref q5]))] ++ [ia g q1 6 (fun _ => 0)] ++ [ia g q2 6 (fun _ => 0)] ++ [ia g q3 6 (fun _ => 0)] ++ [ia g q4 15 (fun _ => 0)] ++ [ia g q5 15 (fun _ => 0)]) H := hP
  have hD : va_D A ([(q, .inr (2, [.int (0 : Int32), .int (0 : Int32), .ref q1, .ref q2, .ref q3, .ref q4, .ref q5]))] ++ [ia g q1 6 (fun _ => 0)] ++ [ia g q2 6 (fun _ => 0)] ++ [ia g q3 6 (fun _ => 0)] ++ [ia g q4 15 (fun _ => 0)] ++ [ia g q5 15 (fun _ => 0)]) := hD
  exact k_cret (w1 := fun u => wX2 g q (u 0) z0) (va_up (fun _ _ => 0) 0 (va_up (va_up (va_up (va_up (va_up (fun _ => 0) 2 q1) 3 q2) 4 q3) 5 q4) 6 q5)) hx hb hr hlk hP hD hS dX2_init_54
set_option maxHeartbeats 40000000 in
set_option maxRecDepth 100000 in
theorem c_X1_init (l : Launch) (g : gG) (q : Nat) (N : Nat) (vc vf : Nat → Int32) (hvc : x_J7_fill_53178 N 10 (fun _ => 0) (-1 : Int32) = some vc) (hvf : x_J7_fill_53178 N 64 (fun _ => 0) (-1 : Int32) = some vf) (sz : Nat) : MetC l yX1_init cX1_init 1 2 43 6 179 q g [(q, .inr (1, [.int 0, .int 0, .null]))] (fun u => [oX1 q (u 0) 0 0] ++ wX0 g (u 0 2) (u 1) (Fi vc vf)) sz := by
  refine mkC (by decide +kernel) rfl rfl ?_ sz
  intro p e s m below meth c A ls E hin hP hD hS hl
  obtain ⟨⟨hx, hb, hml, hown, hts⟩, hr, hK, hA, hlk⟩ := id E
  have hown : s.vm.findClass RX1 = some m.cls := hown
  obtain ⟨H, hH⟩ : ∃ H, H = s.heap := ⟨_, rfl⟩
  have hS : va_S A s.heap H [] := by rw [hH]; exact hS
  have hP : va_P g.1 vwCl [(q, .inr (1, [.int 0, .int 0, .null]))] H := by rw [hH]; exact hP
  suffices hgo : W p l e (rC 2 6 179 43) s m [Value.ref q].toArray below meth c H [] 0 0 (MQ below (QC g A (fun u => [oX1 q (u 0) 0 0] ++ wX0 g (u 0 2) (u 1) (Fi vc vf))) [Value.ref q].toArray s 6 179 A) (F0 m 0 ls []) by rw [hH] at hgo; exact hgo
  clear hH
  refine lv_aload_n hx hb dX1_init_0 rfl (lv_at hl 0 rfl) ?_
  refine W.objInit hx hb hown (hts _ (.tail _ u_ml_X1_1)) (hts _ (.tail _ u_im_obj)) (hts _ (.tail _ u_co_obj)) rfl (by rw [hml]; exact hl.1) rfl dX1_init_1 (Nat.le_of_ble_eq_true rfl) (Nat.le_of_ble_eq_true rfl) ?_
  refine W.eq (g2 := F0 m 4 ls []) rfl ?_
  refine lv_aload_n hx hb dX1_init_4 rfl (lv_at hl 0 rfl) ?_
  refine lv_iconst (v := (0 : Int32)) hx hb dX1_init_5 (by decide) ?_
  refine va_put (ci := 1) (v := .int (0 : Int32)) (ty := .boolean) (C := RX1) (T := TX1) (N := 3) hx hb hts (fun w h => .tail _ (u_inX1 w h)) tyX1 tyX1_ok nmX1 hown hK.1 hP hD hS 0 rfl rfl 0 (by decide) (hts _ (.tail _ u_fl_X1_7)) (fun _ h9 => h9) rfl (tyX1_ok 0 (by decide)) rfl rfl (Nat.le_of_ble_eq_true rfl) dX1_init_6 (fun H locs hP hD hS => ?_)
  have hP : va_P g.1 vwCl ([(q, .inr (1, [.int (0 : Int32), .int 0, .null]))]) H := hP
  have hD : va_D A ([(q, .inr (1, [.int (0 : Int32), .int 0, .null]))]) := hD
  refine lv_aload_n hx hb dX1_init_9 rfl (lv_at hl 0 rfl) ?_
  refine lv_iconst (v := (0 : Int32)) hx hb dX1_init_10 (by decide) ?_
  refine va_put (ci := 1) (v := .int (0 : Int32)) (ty := .int) (C := RX1) (T := TX1) (N := 3) hx hb hts (fun w h => .tail _ (u_inX1 w h)) tyX1 tyX1_ok nmX1 hown hK.1 hP hD hS 0 rfl rfl 1 (by decide) (hts _ (.tail _ u_fl_X1_13)) (fun _ h9 => h9) rfl (tyX1_ok 1 (by decide)) rfl rfl (Nat.le_of_ble_eq_true rfl) dX1_init_11 (fun H locs hP hD hS => ?_)
  have hP : va_P g.1 vwCl ([(q, .inr (1, [.int (0 : Int32), .int (0 : Int32), .null]))]) H := hP
  have hD : va_D A ([(q, .inr (1, [.int (0 : Int32), .int (0 : Int32), .null]))]) := hD
  refine lv_aload_n hx hb dX1_init_14 rfl (lv_at hl 0 rfl) ?_
  refine va_new (ci := 0) (fs := [.int 0, .int 0, .null, .null, .null, .null, .null]) (C := RX0) (T := TX0) (N := 7) hx hb hts (fun w h => .tail _ (u_inX0 w h)) tyX0 tyX0_ok hown (hts _ (.tail _ u_cl_X1_17)) (hts _ (.tail _ u_ins_X0)) (hts _ (.tail _ u_ini_X0)) hK.1 hP hD hS hA rfl (fun j hj => by rcases (show j = 0 ∨ j = 1 ∨ j = 2 ∨ j = 3 ∨ j = 4 ∨ j = 5 ∨ j = 6 by omega) with rfl | rfl | rfl | rfl | rfl | rfl | rfl <;> rfl) (Nat.le_of_ble_eq_true rfl) (Nat.le_of_ble_eq_true rfl) dX1_init_15 (fun q1 H hP hD hS => ?_)
  have hP : va_P g.1 vwCl ([(q, .inr (1, [.int (0 : Int32), .int (0 : Int32), .null]))] ++ [(q1, .inr (0, [.int 0, .int 0, .null, .null, .null, .null, .null]))]) H := hP
  have hD : va_D A ([(q, .inr (1, [.int (0 : Int32), .int (0 : Int32), .null]))] ++ [(q1, .inr (0, [.int 0, .int 0, .null, .null, .null, .null, .null]))]) := hD
  refine lv_dup hx hb dX1_init_18 rfl ?_
  refine kIc (rest := [.ref q1, .ref q]) ⟨hx, hb, hml, hown, hts⟩ (c_X0_init l g q1 N vc vf hvc hvf H.size) u_co_X0_init u_ml_X1_19 u_im_X0_init u_ini_X0 rfl hd_X0_init.2 ⟨rfl, rfl⟩ ⟨rfl, rfl⟩ hK hP hD hS hA hl.1 rfl rfl dX1_init_19 (fun u2 H locs hP hD hS => ?_)
  have hP : va_P g.1 vwCl ([(q, .inr (1, [.int (0 : Int32), .int (0 : Int32), .null]))] ++ (wX0 g q1 (u2 0) (Fi vc vf))) H := hP
  have hD : va_D A ([(q, .inr (1, [.int (0 : Int32), .int (0 : Int32), .null]))] ++ (wX0 g q1 (u2 0) (Fi vc vf))) := hD
  refine va_putF (ci := 1) (v := .ref q1) (ty := (.object "GossipArches$Flow")) (C := RX1) (T := TX1) (N := 3) hx hb hts (fun w h => .tail _ (u_inX1 w h)) tyX1 tyX1_ok nmX1 hown hK.1 hP hD hS 0 rfl rfl 2 (by decide) (hts _ (.tail _ u_fl_X1_20)) (fun _ h9 => h9) rfl hin rfl (tyX1_ok 2 (by decide)) rfl rfl (Nat.le_of_ble_eq_true rfl) dX1_init_22 (fun H locs hP hD hS => ?_)
  have hP : va_P g.1 vwCl ([(q, .inr (1, [.int (0 : Int32), .int (0 : Int32), .ref q1]))] ++ (wX0 g q1 (u2 0) (Fi vc vf))) H := hP
  have hD : va_D A ([(q, .inr (1, [.int (0 : Int32), .int (0 : Int32), .ref q1]))] ++ (wX0 g q1 (u2 0) (Fi vc vf))) := hD
  exact k_cret (w1 := fun u => [oX1 q (u 0) 0 0] ++ wX0 g (u 0 2) (u 1) (Fi vc vf)) (va_up (va_up (fun _ _ => 0) 0 (va_up (fun _ => 0) 2 q1)) 1 (u2 0)) hx hb hr hlk hP hD hS dX1_init_25
set_option maxHeartbeats 40000000 in
set_option maxRecDepth 100000 in
theorem c_X7_init (l : Launch) (g : gG) (q : Nat) (sz : Nat) : MetC l yX7_init cX7_init 1 2 32 8 134 q g [(q, .inr (7, [.null, .null, .null, .null]))] (fun u => [oX7 q (u 0)] ++ wX8 g (u 0 0) (u 1) zL ++ wX8 g (u 0 1) (u 2) zL ++ [ia g (u 0 2) 10 (fun _ => 0)] ++ [ia g (u 0 3) 88 (fun _ => 0)]) sz := by
  refine mkC (by decide +kernel) rfl rfl ?_ sz
  intro p e s m below meth c A ls E hin hP hD hS hl
  obtain ⟨⟨hx, hb, hml, hown, hts⟩, hr, hK, hA, hlk⟩ := id E
  have hown : s.vm.findClass RX7 = some m.cls := hown
  obtain ⟨H, hH⟩ : ∃ H, H = s.heap := ⟨_, rfl⟩
  have hS : va_S A s.heap H [] := by rw [hH]; exact hS
  have hP : va_P g.1 vwCl [(q, .inr (7, [.null, .null, .null, .null]))] H := by rw [hH]; exact hP
  suffices hgo : W p l e (rC 2 8 134 32) s m [Value.ref q].toArray below meth c H [] 0 0 (MQ below (QC g A (fun u => [oX7 q (u 0)] ++ wX8 g (u 0 0) (u 1) zL ++ wX8 g (u 0 1) (u 2) zL ++ [ia g (u 0 2) 10 (fun _ => 0)] ++ [ia g (u 0 3) 88 (fun _ => 0)])) [Value.ref q].toArray s 8 134 A) (F0 m 0 ls []) by rw [hH] at hgo; exact hgo
  clear hH
  refine lv_aload_n hx hb dX7_init_0 rfl (lv_at hl 0 rfl) ?_
  refine W.objInit hx hb hown (hts _ (.tail _ u_ml_X7_3)) (hts _ (.tail _ u_im_obj)) (hts _ (.tail _ u_co_obj)) rfl (by rw [hml]; exact hl.1) rfl dX7_init_1 (Nat.le_of_ble_eq_true rfl) (Nat.le_of_ble_eq_true rfl) ?_
  refine W.eq (g2 := F0 m 4 ls []) rfl ?_
  refine lv_aload_n hx hb dX7_init_4 rfl (lv_at hl 0 rfl) ?_
  refine va_new (ci := 8) (fs := [.null, .null]) (C := RX8) (T := TX8) (N := 2) hx hb hts (fun w h => .tail _ (u_inX8 w h)) tyX8 tyX8_ok hown (hts _ (.tail _ u_cl_X7_9)) (hts _ (.tail _ u_ins_X8)) (hts _ (.tail _ u_ini_X8)) hK.1 hP hD hS hA rfl (fun j hj => by rcases (show j = 0 ∨ j = 1 by omega) with rfl | rfl <;> rfl) (Nat.le_of_ble_eq_true rfl) (Nat.le_of_ble_eq_true rfl) dX7_init_5 (fun q1 H hP hD hS => ?_)
  have hP : va_P g.1 vwCl ([(q, .inr (7, [.null, .null, .null, .null]))] ++ [(q1, .inr (8, [.null, .null]))]) H := hP
  have hD : va_D A ([(q, .inr (7, [.null, .null, .null, .null]))] ++ [(q1, .inr (8, [.null, .null]))]) := hD
  refine lv_dup hx hb dX7_init_8 rfl ?_
  refine kIn (rest := [.ref q1, .ref q]) ⟨hx, hb, hml, hown, hts⟩ (c_X8_init l g q1 H.size) u_co_X8_init n_X7_11 u_im_X8_init u_ini_X8 rfl hd_X8_init.2 ⟨rfl, rfl⟩ ⟨rfl, rfl⟩ hK hP hD hS hA hl.1 rfl rfl dX7_init_9 (fun u2 H locs hP hD hS => ?_)
  have hP : va_P g.1 vwCl ([(q, .inr (7, [.null, .null, .null, .null]))] ++ (wX8 g q1 (u2 0) zL)) H := hP
  have hD : va_D A ([(q, .inr (7, [.null, .null, .null, .null]))] ++ (wX8 g q1 (u2 0) zL)) := hD
  refine va_putF (ci := 7) (v := .ref q1) (ty := (.object "GossipArches$Spread")) (C := RX7) (T := TX7) (N := 4) hx hb hts (fun w h => .tail _ (u_inX7 w h)) tyX7 tyX7_ok nmX7 hown hK.1 hP hD hS 0 rfl rfl 0 (by decide) (hts _ (.tail _ u_fl_X7_12)) (fun _ h9 => h9) rfl hin rfl (tyX7_ok 0 (by decide)) rfl rfl (Nat.le_of_ble_eq_true rfl) dX7_init_12 (fun H locs hP hD hS => ?_)
  have hP : va_P g.1 vwCl ([(q, .inr (7, [.ref q1, .null, .null, .null]))] ++ (wX8 g q1 (u2 0) zL)) H := hP
  have hD : va_D A ([(q, .inr (7, [.ref q1, .null, .null, .null]))] ++ (wX8 g q1 (u2 0) zL)) := hD
  refine lv_aload_n hx hb dX7_init_15 rfl (lv_at hl 0 rfl) ?_
  refine va_new (ci := 8) (fs := [.null, .null]) (C := RX8) (T := TX8) (N := 2) hx hb hts (fun w h => .tail _ (u_inX8 w h)) tyX8 tyX8_ok hown (hts _ (.tail _ u_cl_X7_9)) (hts _ (.tail _ u_ins_X8)) (hts _ (.tail _ u_ini_X8)) hK.1 hP hD hS hA rfl (fun j hj => by rcases (show j = 0 ∨ j = 1 by omega) with rfl | rfl <;> rfl) (Nat.le_of_ble_eq_true rfl) (Nat.le_of_ble_eq_true rfl) dX7_init_16 (fun q3 H hP hD hS => ?_)
  have hP : va_P g.1 vwCl ([(q, .inr (7, [.ref q1, .null, .null, .null]))] ++ (wX8 g q1 (u2 0) zL) ++ [(q3, .inr (8, [.null, .null]))]) H := hP
  have hD : va_D A ([(q, .inr (7, [.ref q1, .null, .null, .null]))] ++ (wX8 g q1 (u2 0) zL) ++ [(q3, .inr (8, [.null, .null]))]) := hD
  refine lv_dup hx hb dX7_init_19 rfl ?_
  refine kIn (rest := [.ref q3, .ref q]) ⟨hx, hb, hml, hown, hts⟩ (c_X8_init l g q3 H.size) u_co_X8_init n_X7_11 u_im_X8_init u_ini_X8 rfl hd_X8_init.2 ⟨rfl, rfl⟩ ⟨rfl, rfl⟩ hK hP hD hS hA hl.1 rfl rfl dX7_init_20 (fun u4 H locs hP hD hS => ?_)
  have hP : va_P g.1 vwCl ([(q, .inr (7, [.ref q1, .null, .null, .null]))] ++ (wX8 g q1 (u2 0) zL) ++ (wX8 g q3 (u4 0) zL)) H := hP
  have hD : va_D A ([(q, .inr (7, [.ref q1, .null, .null, .null]))] ++ (wX8 g q1 (u2 0) zL) ++ (wX8 g q3 (u4 0) zL)) := hD
  refine va_putF (ci := 7) (v := .ref q3) (ty := (.object "GossipArches$Spread")) (C := RX7) (T := TX7) (N := 4) hx hb hts (fun w h => .tail _ (u_inX7 w h)) tyX7 tyX7_ok nmX7 hown hK.1 hP hD hS 0 rfl rfl 1 (by decide) (hts _ (.tail _ u_fl_X7_18)) (fun _ h9 => h9) rfl hin rfl (tyX7_ok 1 (by decide)) rfl rfl (Nat.le_of_ble_eq_true rfl) dX7_init_23 (fun H locs hP hD hS => ?_)
  have hP : va_P g.1 vwCl ([(q, .inr (7, [.ref q1, .ref q3, .null, .null]))] ++ (wX8 g q1 (u2 0) zL) ++ (wX8 g q3 (u4 0) zL)) H := hP
  have hD : va_D A ([(q, .inr (7, [.ref q1, .ref q3, .null, .null]))] ++ (wX8 g q1 (u2 0) zL) ++ (wX8 g q3 (u4 0) zL)) := hD
  refine lv_aload_n hx hb dX7_init_26 rfl (lv_at hl 0 rfl) ?_
  refine lv_bipush (v := (10 : Int32)) hx hb dX7_init_27 (by decide) ?_
  refine k_newi hx hb hts hK hP hD hS hA (N' := 10) (by decide) (by decide) (by decide) (Nat.le_of_ble_eq_true rfl) (Nat.le_of_ble_eq_true rfl) dX7_init_29 (fun q5 H hP hD hS => ?_)
  have hP : va_P g.1 vwCl ([(q, .inr (7, [.ref q1, .ref q3, .null, .null]))] ++ (wX8 g q1 (u2 0) zL) ++ (wX8 g q3 (u4 0) zL) ++ [ia g q5 10 (fun _ => 0)]) H := hP
  have hD : va_D A ([(q, .inr (7, [.ref q1, .ref q3, .null, .null]))] ++ (wX8 g q1 (u2 0) zL) ++ (wX8 g q3 (u4 0) zL) ++ [ia g q5 10 (fun _ => 0)]) := hD
  refine va_putF (ci := 7) (v := .ref q5) (ty := (.array .int)) (C := RX7) (T := TX7) (N := 4) hx hb hts (fun w h => .tail _ (u_inX7 w h)) tyX7 tyX7_ok nmX7 hown hK.1 hP hD hS 0 rfl rfl 2 (by decide) (hts _ (.tail _ u_fl_X7_21)) (fun _ h9 => h9) rfl hin rfl (tyX7_ok 2 (by decide)) rfl rfl (Nat.le_of_ble_eq_true rfl) dX7_init_31 (fun H locs hP hD hS => ?_)
  have hP : va_P g.1 vwCl ([(q, .inr (7, [.ref q1, .ref q3, .ref q5, .null]))] ++ (wX8 g q1 (u2 0) zL) ++ (wX8 g q3 (u4 0) zL) ++ [ia g q5 10 (fun _ => 0)]) H := hP
  have hD : va_D A ([(q, .inr (7, [.ref q1, .ref q3, .ref q5, .null]))] ++ (wX8 g q1 (u2 0) zL) ++ (wX8 g q3 (u4 0) zL) ++ [ia g q5 10 (fun _ => 0)]) := hD
  refine lv_aload_n hx hb dX7_init_34 rfl (lv_at hl 0 rfl) ?_
  refine lv_bipush (v := (88 : Int32)) hx hb dX7_init_35 (by decide) ?_
  refine k_newi hx hb hts hK hP hD hS hA (N' := 88) (by decide) (by decide) (by decide) (Nat.le_of_ble_eq_true rfl) (Nat.le_of_ble_eq_true rfl) dX7_init_37 (fun q6 H hP hD hS => ?_)
  have hP : va_P g.1 vwCl ([(q, .inr (7, [.ref q1, .ref q3, .ref q5, .null]))] ++ (wX8 g q1 (u2 0) zL) ++ (wX8 g q3 (u4 0) zL) ++ [ia g q5 10 (fun _ => 0)] ++ [ia g q6 88 (fun _ => 0)]) H := hP
  have hD : va_D A ([(q, .inr (7, [.ref q1, .ref q3, .ref q5, .null]))] ++ (wX8 g q1 (u2 0) zL) ++ (wX8 g q3 (u4 0) zL) ++ [ia g q5 10 (fun _ => 0)] ++ [ia g q6 88 (fun _ => 0)]) := hD
  refine va_putF (ci := 7) (v := .ref q6) (ty := (.array .int)) (C := RX7) (T := TX7) (N := 4) hx hb hts (fun w h => .tail _ (u_inX7 w h)) tyX7 tyX7_ok nmX7 hown hK.1 hP hD hS 0 rfl rfl 3 (by decide) (hts _ (.tail _ u_fl_X7_25)) (fun _ h9 => h9) rfl hin rfl (tyX7_ok 3 (by decide)) rfl rfl (Nat.le_of_ble_eq_true rfl) dX7_init_39 (fun H locs hP hD hS => ?_)
  have hP : va_P g.1 vwCl ([(q, .inr (7, [.ref q1, .ref q3, .ref q5, .ref q6]))] ++ (wX8 g q1 (u2 0) zL) ++ (wX8 g q3 (u4 0) zL) ++ [ia g q5 10 (fun _ => 0)] ++ [ia g q6 88 (fun _ => 0)]) H := hP
  have hD : va_D A ([(q, .inr (7, [.ref q1, .ref q3, .ref q5, .ref q6]))] ++ (wX8 g q1 (u2 0) zL) ++ (wX8 g q3 (u4 0) zL) ++ [ia g q5 10 (fun _ => 0)] ++ [ia g q6 88 (fun _ => 0)]) := hD
  exact k_cret (w1 := fun u => [oX7 q (u 0)] ++ wX8 g (u 0 0) (u 1) zL ++ wX8 g (u 0 1) (u 2) zL ++ [ia g (u 0 2) 10 (fun _ => 0)] ++ [ia g (u 0 3) 88 (fun _ => 0)]) (va_up (va_up (va_up (fun _ _ => 0) 0 (va_up (va_up (va_up (va_up (fun _ => 0) 0 q1) 1 q3) 2 q5) 3 q6)) 1 (u2 0)) 2 (u4 0)) hx hb hr hlk hP hD hS dX7_init_42
