def x_X10_hearAt_b16_k86 (N : Nat) (f_a0 : (Nat → Int32)) (x1 : Int32) (x2 : Int32) (x3 : Int32) (s1 : Int32) (s2 : Int32) : Option ((Int32 × (Nat → Int32)) ⊕ ((Nat → Int32))) :=
  if s1 < 0 ∨ 174 ≤ s1.toNatClampNeg then none else some (.inl ((x3 + (1 : Int32)), (upd f_a0 s1.toNatClampNeg s2)))
set_option maxHeartbeats 4000000 in
set_option maxRecDepth 100000 in
theorem t_X10_hearAt_b16_k86 {p : Program} {l : Launch} {e : Env} {s : State} {m : MethodId} {args : Array Value} {below : List Frame} {meth : Method} {c : Code} {g : gG} {A : Nat → Prop} {Q : State → Prop} (E : En p s m args meth c g A cX10_hearAt 5 (.code yX10_hearAt cX10_hearAt 5 none :: gW) RX10 none) (q_a0 : Nat) (N : Nat) (f_a0 : (Nat → Int32)) (x1 : Int32) (x2 : Int32) (x3 : Int32) (s1 : Int32) (s2 : Int32) (o : (Int32 × (Nat → Int32)) ⊕ ((Nat → Int32))) (h : x_X10_hearAt_b16_k86 N f_a0 x1 x2 x3 s1 s2 = some o) (hc : ∀ z, o = .inl z → WA p l e (rM 1 21) s m args below meth c g A Q 5 16 [ia g q_a0 174 z.2] [(0, .ref q_a0), (1, .int x1), (2, .int x2), (3, .int z.1)] []) (he : ∀ v, o = .inr v → WA p l e (rM 1 21) s m args below meth c g A Q 5 93 [ia g q_a0 174 v] [] []) : WA p l e (rM 1 21) s m args below meth c g A Q 5 86 [ia g q_a0 174 f_a0] [(0, .ref q_a0), (1, .int x1), (2, .int x2), (3, .int x3)] [.int s2, .int s1, .ref q_a0] := by
  obtain ⟨⟨hx, hb, hml, hown, hts⟩, hr, hK, hA, hlk⟩ := id E
  intro H locs ls hP hD hS hl
  obtain ⟨hi_4, h⟩ := ox_chk h
  refine va_iast hx hb hK.1 hP hD hS 0 0 rfl rfl hi_4 dX10_hearAt_86 (fun H locs hP hD hS => ?_)
  have hP : va_P g.1 vwCl [ia g q_a0 174 (upd f_a0 s1.toNatClampNeg s2)] H := hP
  have hD : va_D A [ia g q_a0 174 (upd f_a0 s1.toNatClampNeg s2)] := hD
  refine lv_iinc (v := (x3 + (1 : Int32))) (lv' := [(3, .int (x3 + (1 : Int32))), (0, .ref q_a0), (1, .int x1), (2, .int x2)]) hx hb dX10_hearAt_87 hl (k := 3) rfl rfl (by decide) rfl (fun ls hl => ?_)
  refine lv_goto (tgt := 16) hx hb dX10_hearAt_90 (by decide) ?_
  obtain rfl := Option.some.inj h
  exact hc _ rfl H locs ls hP hD hS (lv_sub hl [1, 2, 3, 0] rfl)
def x_X10_hearAt_b16_k50 (N : Nat) (f_a0 : (Nat → Int32)) (x1 : Int32) (x2 : Int32) (x3 : Int32) (s0 : Int32) : Option ((Int32 × (Nat → Int32)) ⊕ ((Nat → Int32))) :=
  if s0 = 0 then (if (((88 : Int32) + ((8 : Int32) * x1)) + x3) < 0 ∨ 174 ≤ (((88 : Int32) + ((8 : Int32) * x1)) + x3).toNatClampNeg then none else x_X10_hearAt_b16_k86 N f_a0 x1 x2 x3 (((88 : Int32) + ((8 : Int32) * x1)) + x3) (f_a0 (((88 : Int32) + ((8 : Int32) * x1)) + x3).toNatClampNeg)) else (x_X10_hearAt_b16_k86 N f_a0 x1 x2 x3 (((88 : Int32) + ((8 : Int32) * x1)) + x3) (f_a0 (173 : Int32).toNatClampNeg))
set_option maxHeartbeats 4000000 in
set_option maxRecDepth 100000 in
theorem t_X10_hearAt_b16_k50 {p : Program} {l : Launch} {e : Env} {s : State} {m : MethodId} {args : Array Value} {below : List Frame} {meth : Method} {c : Code} {g : gG} {A : Nat → Prop} {Q : State → Prop} (E : En p s m args meth c g A cX10_hearAt 5 (.code yX10_hearAt cX10_hearAt 5 none :: gW) RX10 none) (q_a0 : Nat) (N : Nat) (f_a0 : (Nat → Int32)) (x1 : Int32) (x2 : Int32) (x3 : Int32) (s0 : Int32) (o : (Int32 × (Nat → Int32)) ⊕ ((Nat → Int32))) (h : x_X10_hearAt_b16_k50 N f_a0 x1 x2 x3 s0 = some o) (hc : ∀ z, o = .inl z → WA p l e (rM 1 21) s m args below meth c g A Q 5 16 [ia g q_a0 174 z.2] [(0, .ref q_a0), (1, .int x1), (2, .int x2), (3, .int z.1)] []) (he : ∀ v, o = .inr v → WA p l e (rM 1 21) s m args below meth c g A Q 5 93 [ia g q_a0 174 v] [] []) : WA p l e (rM 1 21) s m args below meth c g A Q 5 50 [ia g q_a0 174 f_a0] [(0, .ref q_a0), (1, .int x1), (2, .int x2), (3, .int x3)] [.int s0] := by
  obtain ⟨⟨hx, hb, hml, hown, hts⟩, hr, hK, hA, hlk⟩ := id E
  intro H locs ls hP hD hS hl
  refine lv_istore (lv' := [(4, .int s0), (0, .ref q_a0), (1, .int x1), (2, .int x2), (3, .int x3)]) hx hb dX10_hearAt_50 hl (by decide) rfl (fun ls hl => ?_)
  refine lv_aload_n hx hb dX10_hearAt_52 rfl (lv_at hl 1 rfl) ?_
  refine lv_bipush (v := (88 : Int32)) hx hb dX10_hearAt_53 (by decide) ?_
  refine lv_bipush (v := (8 : Int32)) hx hb dX10_hearAt_55 (by decide) ?_
  refine lv_iload_n hx hb dX10_hearAt_57 rfl (lv_at hl 2 rfl) ?_
  refine lv_imul hx hb dX10_hearAt_58 ?_
  refine lv_iadd hx hb dX10_hearAt_59 ?_
  refine lv_iload_n hx hb dX10_hearAt_60 rfl (lv_at hl 4 rfl) ?_
  refine lv_iadd hx hb dX10_hearAt_61 ?_
  refine lv_iload hx hb dX10_hearAt_62 (lv_at hl 0 rfl) ?_
  refine lv_if_eq (tgt := 75) hx hb dX10_hearAt_64 (by decide) (fun c_5 => ?_) (fun c_5 => ?_)
  · have h := ox_t c_5 h
    refine lv_aload_n hx hb dX10_hearAt_75 rfl (lv_at hl 1 rfl) ?_
    refine lv_bipush (v := (88 : Int32)) hx hb dX10_hearAt_76 (by decide) ?_
    refine lv_bipush (v := (8 : Int32)) hx hb dX10_hearAt_78 (by decide) ?_
    refine lv_iload_n hx hb dX10_hearAt_80 rfl (lv_at hl 2 rfl) ?_
    refine lv_imul hx hb dX10_hearAt_81 ?_
    refine lv_iadd hx hb dX10_hearAt_82 ?_
    refine lv_iload_n hx hb dX10_hearAt_83 rfl (lv_at hl 4 rfl) ?_
    refine lv_iadd hx hb dX10_hearAt_84 ?_
    obtain ⟨hi_6, h⟩ := ox_chk h
    refine va_iald hx hb hK.1 hP 0 0 rfl rfl hi_6 dX10_hearAt_85 ?_
    exact t_X10_hearAt_b16_k86 E q_a0 N f_a0 x1 x2 x3 (((88 : Int32) + ((8 : Int32) * x1)) + x3) (f_a0 (((88 : Int32) + ((8 : Int32) * x1)) + x3).toNatClampNeg) _ h hc he H locs ls hP hD hS (lv_sub hl [1, 2, 3, 4] rfl)
  · have h := ox_f c_5 h
    refine lv_aload_n hx hb dX10_hearAt_67 rfl (lv_at hl 1 rfl) ?_
    refine lv_sipush (v := (173 : Int32)) hx hb dX10_hearAt_68 (by decide) ?_
    refine va_iald hx hb hK.1 hP 0 0 rfl rfl (by unfold vp_in; decide) dX10_hearAt_71 ?_
    refine lv_goto (tgt := 86) hx hb dX10_hearAt_72 (by decide) ?_
    exact t_X10_hearAt_b16_k86 E q_a0 N f_a0 x1 x2 x3 (((88 : Int32) + ((8 : Int32) * x1)) + x3) (f_a0 (173 : Int32).toNatClampNeg) _ h hc he H locs ls hP hD hS (lv_sub hl [1, 2, 3, 4] rfl)
def x_X10_hearAt_b16_k49 (N : Nat) (f_a0 : (Nat → Int32)) (x1 : Int32) (x2 : Int32) (x3 : Int32) : Option ((Int32 × (Nat → Int32)) ⊕ ((Nat → Int32))) :=
  x_X10_hearAt_b16_k50 N f_a0 x1 x2 x3 (0 : Int32)
set_option maxHeartbeats 4000000 in
set_option maxRecDepth 100000 in
theorem t_X10_hearAt_b16_k49 {p : Program} {l : Launch} {e : Env} {s : State} {m : MethodId} {args : Array Value} {below : List Frame} {meth : Method} {c : Code} {g : gG} {A : Nat → Prop} {Q : State → Prop} (E : En p s m args meth c g A cX10_hearAt 5 (.code yX10_hearAt cX10_hearAt 5 none :: gW) RX10 none) (q_a0 : Nat) (N : Nat) (f_a0 : (Nat → Int32)) (x1 : Int32) (x2 : Int32) (x3 : Int32) (o : (Int32 × (Nat → Int32)) ⊕ ((Nat → Int32))) (h : x_X10_hearAt_b16_k49 N f_a0 x1 x2 x3 = some o) (hc : ∀ z, o = .inl z → WA p l e (rM 1 21) s m args below meth c g A Q 5 16 [ia g q_a0 174 z.2] [(0, .ref q_a0), (1, .int x1), (2, .int x2), (3, .int z.1)] []) (he : ∀ v, o = .inr v → WA p l e (rM 1 21) s m args below meth c g A Q 5 93 [ia g q_a0 174 v] [] []) : WA p l e (rM 1 21) s m args below meth c g A Q 5 49 [ia g q_a0 174 f_a0] [(0, .ref q_a0), (1, .int x1), (2, .int x2), (3, .int x3)] [] := by
  obtain ⟨⟨hx, hb, hml, hown, hts⟩, hr, hK, hA, hlk⟩ := id E
  intro H locs ls hP hD hS hl
  refine lv_iconst (v := (0 : Int32)) hx hb dX10_hearAt_49 (by decide) ?_
  exact t_X10_hearAt_b16_k50 E q_a0 N f_a0 x1 x2 x3 (0 : Int32) _ h hc he H locs ls hP hD hS hl
def x_X10_hearAt_b16 (N : Nat) (f_a0 : (Nat → Int32)) (x1 : Int32) (x2 : Int32) (x3 : Int32) : Option ((Int32 × (Nat → Int32)) ⊕ ((Nat → Int32))) :=
  if (8 : Int32) ≤ x3 then (some (.inr f_a0)) else (Option.bind (x_X10_has x2 x3) (fun v_8 => if v_8 = 0 then (x_X10_hearAt_b16_k49 N f_a0 x1 x2 x3) else (if (((88 : Int32) + ((8 : Int32) * x1)) + x3) < 0 ∨ 174 ≤ (((88 : Int32) + ((8 : Int32) * x1)) + x3).toNatClampNeg then none else if (f_a0 (((88 : Int32) + ((8 : Int32) * x1)) + x3).toNatClampNeg) = (-1 : Int32) then (x_X10_hearAt_b16_k50 N f_a0 x1 x2 x3 (1 : Int32)) else (x_X10_hearAt_b16_k49 N f_a0 x1 x2 x3))))
set_option maxHeartbeats 4000000 in
set_option maxRecDepth 100000 in
theorem t_X10_hearAt_b16 {p : Program} {l : Launch} {e : Env} {s : State} {m : MethodId} {args : Array Value} {below : List Frame} {meth : Method} {c : Code} {g : gG} {A : Nat → Prop} {Q : State → Prop} (E : En p s m args meth c g A cX10_hearAt 5 (.code yX10_hearAt cX10_hearAt 5 none :: gW) RX10 none) (q_a0 : Nat) (N : Nat) (f_a0 : (Nat → Int32)) (x1 : Int32) (x2 : Int32) (x3 : Int32) (o : (Int32 × (Nat → Int32)) ⊕ ((Nat → Int32))) (h : x_X10_hearAt_b16 N f_a0 x1 x2 x3 = some o) (hc : ∀ z, o = .inl z → WA p l e (rM 1 21) s m args below meth c g A Q 5 16 [ia g q_a0 174 z.2] [(0, .ref q_a0), (1, .int x1), (2, .int x2), (3, .int z.1)] []) (he : ∀ v, o = .inr v → WA p l e (rM 1 21) s m args below meth c g A Q 5 93 [ia g q_a0 174 v] [] []) : WA p l e (rM 1 21) s m args below meth c g A Q 5 16 [ia g q_a0 174 f_a0] [(0, .ref q_a0), (1, .int x1), (2, .int x2), (3, .int x3)] [] := by
  obtain ⟨⟨hx, hb, hml, hown, hts⟩, hr, hK, hA, hlk⟩ := id E
  intro H locs ls hP hD hS hl
  refine lv_iload_n hx hb dX10_hearAt_16 rfl (lv_at hl 3 rfl) ?_
  refine lv_bipush (v := (8 : Int32)) hx hb dX10_hearAt_17 (by decide) ?_
  refine lv_icmp_ge (tgt := 93) hx hb dX10_hearAt_19 (by decide) (fun c_7 => ?_) (fun c_7 => ?_)
  · have h := ox_t c_7 h
    obtain rfl := Option.some.inj h
    exact he _ rfl H locs ls hP hD hS (lv_sub hl [] rfl)
  · have h := ox_f c_7 h
    refine lv_iload_n hx hb dX10_hearAt_22 rfl (lv_at hl 2 rfl) ?_
    refine lv_iload_n hx hb dX10_hearAt_23 rfl (lv_at hl 3 rfl) ?_
    obtain ⟨v_8, hv_8, h⟩ := ox_bind h
    refine kSi ⟨hx, hb, hml, hown, hts⟩ (c_X10_has l g x2 x3 v_8 hv_8 H.size) (gS u_ml_X10_194 u_st_X10_has u_ini_X10 u_co_X10_has) hd_X10_has ⟨rfl, rfl⟩ hK hP hD hS hA [] [0] rfl rfl 0 rfl (w2 := [ia g q_a0 174 f_a0]) rfl rfl (As := [.int x2, .int x3]) (rest := []) rfl hl.1 rfl rfl dX10_hearAt_24 (fun H locs hP hD hS => ?_)
    refine lv_if_eq (tgt := 49) hx hb dX10_hearAt_27 (by decide) (fun c_9 => ?_) (fun c_9 => ?_)
    · have h := ox_t c_9 h
      exact t_X10_hearAt_b16_k49 E q_a0 N f_a0 x1 x2 x3 _ h hc he H locs ls hP hD hS hl
    · have h := ox_f c_9 h
      refine lv_aload_n hx hb dX10_hearAt_30 rfl (lv_at hl 0 rfl) ?_
      refine lv_bipush (v := (88 : Int32)) hx hb dX10_hearAt_31 (by decide) ?_
      refine lv_bipush (v := (8 : Int32)) hx hb dX10_hearAt_33 (by decide) ?_
      refine lv_iload_n hx hb dX10_hearAt_35 rfl (lv_at hl 1 rfl) ?_
      refine lv_imul hx hb dX10_hearAt_36 ?_
      refine lv_iadd hx hb dX10_hearAt_37 ?_
      refine lv_iload_n hx hb dX10_hearAt_38 rfl (lv_at hl 3 rfl) ?_
      refine lv_iadd hx hb dX10_hearAt_39 ?_
      obtain ⟨hi_10, h⟩ := ox_chk h
      refine va_iald hx hb hK.1 hP 0 0 rfl rfl hi_10 dX10_hearAt_40 ?_
      refine lv_iconst (v := (-1 : Int32)) hx hb dX10_hearAt_41 (by decide) ?_
      refine lv_icmp_ne (tgt := 49) hx hb dX10_hearAt_42 (by decide) (fun c_11 => ?_) (fun c_11 => ?_)
      · have h := ox_f c_11 h
        exact t_X10_hearAt_b16_k49 E q_a0 N f_a0 x1 x2 x3 _ h hc he H locs ls hP hD hS hl
      · have h := ox_t c_11 h
        refine lv_iconst (v := (1 : Int32)) hx hb dX10_hearAt_45 (by decide) ?_
        refine lv_goto (tgt := 50) hx hb dX10_hearAt_46 (by decide) ?_
        exact t_X10_hearAt_b16_k50 E q_a0 N f_a0 x1 x2 x3 (1 : Int32) _ h hc he H locs ls hP hD hS hl
def x_X10_hearAt (N : Nat) (f_a0 : (Nat → Int32)) (x1 : Int32) (x2 : Int32) : Option ((Nat → Int32)) :=
  if ((80 : Int32) + x1) < 0 ∨ 174 ≤ ((80 : Int32) + x1).toNatClampNeg then none else if ((80 : Int32) + x1) < 0 ∨ 174 ≤ ((80 : Int32) + x1).toNatClampNeg then none else xl ((f_a0 ((80 : Int32) + x1).toNatClampNeg) ||| x2) (fun y_3 => Option.bind (lpc (fun (z : Int32 × (Nat → Int32)) => x_X10_hearAt_b16 N z.2 x1 x2 z.1) N ((0 : Int32), (upd f_a0 ((80 : Int32) + x1).toNatClampNeg y_3))) (fun v_12 => some v_12))
set_option maxHeartbeats 4000000 in
set_option maxRecDepth 100000 in
theorem t_X10_hearAt {p : Program} {l : Launch} {e : Env} {s : State} {m : MethodId} {args : Array Value} {below : List Frame} {meth : Method} {c : Code} {g : gG} {A : Nat → Prop} (E : En p s m args meth c g A cX10_hearAt 5 (.code yX10_hearAt cX10_hearAt 5 none :: gW) RX10 none) (q_a0 : Nat) (N : Nat) (f_a0 : (Nat → Int32)) (x1 : Int32) (x2 : Int32) (o : (Nat → Int32)) (h : x_X10_hearAt N f_a0 x1 x2 = some o) : WA p l e (rM 1 21) s m args below meth c g A (MQ below (QV g A [ia g q_a0 174 o]) args s 0 0 A) 5 0 [ia g q_a0 174 f_a0] [(0, .ref q_a0), (1, .int x1), (2, .int x2)] [] := by
  obtain ⟨⟨hx, hb, hml, hown, hts⟩, hr, hK, hA, hlk⟩ := id E
  intro H locs ls hP hD hS hl
  refine lv_aload_n hx hb dX10_hearAt_0 rfl (lv_at hl 0 rfl) ?_
  refine lv_bipush (v := (80 : Int32)) hx hb dX10_hearAt_1 (by decide) ?_
  refine lv_iload_n hx hb dX10_hearAt_3 rfl (lv_at hl 1 rfl) ?_
  refine lv_iadd hx hb dX10_hearAt_4 ?_
  refine lv_aload_n hx hb dX10_hearAt_5 rfl (lv_at hl 0 rfl) ?_
  refine lv_bipush (v := (80 : Int32)) hx hb dX10_hearAt_6 (by decide) ?_
  refine lv_iload_n hx hb dX10_hearAt_8 rfl (lv_at hl 1 rfl) ?_
  refine lv_iadd hx hb dX10_hearAt_9 ?_
  obtain ⟨hi_1, h⟩ := ox_chk h
  refine va_iald hx hb hK.1 hP 0 0 rfl rfl hi_1 dX10_hearAt_10 ?_
  refine lv_iload_n hx hb dX10_hearAt_11 rfl (lv_at hl 2 rfl) ?_
  refine lv_ior hx hb dX10_hearAt_12 ?_
  obtain ⟨hi_2, h⟩ := ox_chk h
  refine lv_topi (fun y_3 ey_3 => ?_)
  have h := xl_at ey_3 h
  refine va_iast hx hb hK.1 hP hD hS 0 0 rfl rfl hi_2 dX10_hearAt_13 (fun H locs hP hD hS => ?_)
  have hP : va_P g.1 vwCl [ia g q_a0 174 (upd f_a0 ((80 : Int32) + x1).toNatClampNeg y_3)] H := hP
  have hD : va_D A [ia g q_a0 174 (upd f_a0 ((80 : Int32) + x1).toNatClampNeg y_3)] := hD
  refine lv_iconst (v := (0 : Int32)) hx hb dX10_hearAt_14 (by decide) ?_
  refine lv_istore_n (lv' := [(3, .int (0 : Int32)), (0, .ref q_a0), (1, .int x1), (2, .int x2)]) hx hb dX10_hearAt_15 rfl hl (by decide) rfl (fun ls hl => ?_)
  obtain ⟨v_12, hv_12, h⟩ := ox_bind h
  refine lpc_W (Wh := fun (z : Int32 × (Nat → Int32)) => WA p l e (rM 1 21) s m args below meth c g A (MQ below (QV g A [ia g q_a0 174 o]) args s 0 0 A) 5 16 [ia g q_a0 174 z.2] [(0, .ref q_a0), (1, .int x1), (2, .int x2), (3, .int z.1)] []) (We := fun (v : (Nat → Int32)) => WA p l e (rM 1 21) s m args below meth c g A (MQ below (QV g A [ia g q_a0 174 o]) args s 0 0 A) 5 93 [ia g q_a0 174 v] [] []) (fun z r hb hc he => t_X10_hearAt_b16 E q_a0 N z.2 x1 x2 z.1 r hb hc he) N ((0 : Int32), (upd f_a0 ((80 : Int32) + x1).toNatClampNeg y_3)) v_12 hv_12 ?_ H locs ls hP hD hS (lv_sub hl [1, 2, 3, 0] rfl)
  intro H locs ls hP hD hS hl
  obtain rfl := Option.some.inj h
  exact k_vret hx hb hr hlk hP hD hS dX10_hearAt_93
set_option maxRecDepth 100000 in
theorem c_X10_hearAt (l : Launch) (g : gG) (q_a0 : Nat) (N : Nat) (f_a0 : (Nat → Int32)) (x1 : Int32) (x2 : Int32) (o : (Nat → Int32)) (h : x_X10_hearAt N f_a0 x1 x2 = some o) (sz : Nat) : MetV l yX10_hearAt (.code yX10_hearAt cX10_hearAt 5 none :: gW) 1 21 [.ref q_a0, .int x1, .int x2] g [ia g q_a0 174 f_a0] [ia g q_a0 174 o] sz :=
  mkV (av := [.ref q_a0, .int x1, .int x2]) (by decide +kernel) rfl (fun p e s m below meth c A E H locs ls hP hD hS hl => t_X10_hearAt E q_a0 N f_a0 x1 x2 o h H locs ls hP hD hS hl) sz
def x_X10_goesOn (F_t : St) (x1 : Int32) (x2 : Int32) : Option (Int32) :=
  if ((2 : Int32) * x1) < 0 ∨ 16 ≤ ((2 : Int32) * x1).toNatClampNeg then none else xl ((F_t 18) ((2 : Int32) * x1).toNatClampNeg) (fun y_2 => if y_2 = (3 : Int32) then (some (0 : Int32)) else (if y_2 = (1 : Int32) then (some (x2 &&& (85 : Int32))) else (some x2)))
set_option maxHeartbeats 4000000 in
set_option maxRecDepth 100000 in
theorem t_X10_goesOn {p : Program} {l : Launch} {e : Env} {s : State} {m : MethodId} {args : Array Value} {below : List Frame} {meth : Method} {c : Code} {g : gG} {A : Nat → Prop} (E : En p s m args meth c g A cX10_goesOn 4 (.code yX10_goesOn cX10_goesOn 4 (some .int) :: gW) RX10 (some .int)) (q_t : Nat) (Q_t : Ad) (F_t : St) (x1 : Int32) (x2 : Int32) (o : Int32) (h : x_X10_goesOn F_t x1 x2 = some o) : WA p l e (rM 0 0) s m args below meth c g A (MQ below (QI g A o [oX10 q_t Q_t (F_t 0 0) (F_t 2 0) (F_t 3 0) (F_t 4 0) (F_t 5 0) (F_t 6 0) (F_t 7 0) (F_t 8 0) (F_t 9 0) (F_t 10 0) (F_t 11 0) (F_t 12 0) (F_t 15 0) (F_t 16 0) (F_t 17 0) (F_t 23 0) (F_t 27 0) (F_t 28 0) (F_t 30 0), ia g (Q_t 18) 16 (F_t 18)]) args s 0 0 A) 4 0 [oX10 q_t Q_t (F_t 0 0) (F_t 2 0) (F_t 3 0) (F_t 4 0) (F_t 5 0) (F_t 6 0) (F_t 7 0) (F_t 8 0) (F_t 9 0) (F_t 10 0) (F_t 11 0) (F_t 12 0) (F_t 15 0) (F_t 16 0) (F_t 17 0) (F_t 23 0) (F_t 27 0) (F_t 28 0) (F_t 30 0), ia g (Q_t 18) 16 (F_t 18)] [(0, .ref q_t), (1, .int x1), (2, .int x2)] [] := by
  obtain ⟨⟨hx, hb, hml, hown, hts⟩, hr, hK, hA, hlk⟩ := id E
  intro H locs ls hP hD hS hl
  refine lv_aload_n hx hb dX10_goesOn_0 rfl (lv_at hl 0 rfl) ?_
  refine va_get (ci := 10) (v := .ref (Q_t 18)) (C := RX10) (T := TX10) (N := 38) hx hb hts (fun w h => .tail _ (u_inX10 w h)) hown hK.1 hP 0 rfl rfl 18 (by decide) (hts _ (.tail _ u_fl_X10_23)) (fun _ h9 => h9) rfl dX10_goesOn_1 ?_
  refine lv_iconst (v := (2 : Int32)) hx hb dX10_goesOn_4 (by decide) ?_
  refine lv_iload_n hx hb dX10_goesOn_5 rfl (lv_at hl 1 rfl) ?_
  refine lv_imul hx hb dX10_goesOn_6 ?_
  obtain ⟨hi_1, h⟩ := ox_chk h
  refine va_iald hx hb hK.1 hP 1 0 rfl rfl hi_1 dX10_goesOn_7 ?_
  refine lv_topi (fun y_2 ey_2 => ?_)
  have h := xl_at ey_2 h
  refine lv_istore_n (lv' := [(3, .int y_2), (0, .ref q_t), (1, .int x1), (2, .int x2)]) hx hb dX10_goesOn_8 rfl hl (by decide) rfl (fun ls hl => ?_)
  refine lv_iload_n hx hb dX10_goesOn_9 rfl (lv_at hl 0 rfl) ?_
  refine lv_iconst (v := (3 : Int32)) hx hb dX10_goesOn_10 (by decide) ?_
  refine lv_icmp_ne (tgt := 18) hx hb dX10_goesOn_11 (by decide) (fun c_3 => ?_) (fun c_3 => ?_)
  · have h := ox_f c_3 h
    refine lv_iload_n hx hb dX10_goesOn_18 rfl (lv_at hl 0 rfl) ?_
    refine lv_iconst (v := (1 : Int32)) hx hb dX10_goesOn_19 (by decide) ?_
    refine lv_icmp_ne (tgt := 30) hx hb dX10_goesOn_20 (by decide) (fun c_4 => ?_) (fun c_4 => ?_)
    · have h := ox_f c_4 h
      refine lv_iload_n hx hb dX10_goesOn_30 rfl (lv_at hl 3 rfl) ?_
      obtain rfl := Option.some.inj h
      exact k_iret hx hb hr hlk hP hD hS dX10_goesOn_31
    · have h := ox_t c_4 h
      refine lv_iload_n hx hb dX10_goesOn_23 rfl (lv_at hl 3 rfl) ?_
      refine lv_bipush (v := (85 : Int32)) hx hb dX10_goesOn_24 (by decide) ?_
      refine lv_iand hx hb dX10_goesOn_26 ?_
      refine lv_goto (tgt := 31) hx hb dX10_goesOn_27 (by decide) ?_
      obtain rfl := Option.some.inj h
      exact k_iret hx hb hr hlk hP hD hS dX10_goesOn_31
  · have h := ox_t c_3 h
    refine lv_iconst (v := (0 : Int32)) hx hb dX10_goesOn_14 (by decide) ?_
    refine lv_goto (tgt := 31) hx hb dX10_goesOn_15 (by decide) ?_
    obtain rfl := Option.some.inj h
    exact k_iret hx hb hr hlk hP hD hS dX10_goesOn_31
set_option maxRecDepth 100000 in
theorem c_X10_goesOn (l : Launch) (g : gG) (q_t : Nat) (Q_t : Ad) (F_t : St) (x1 : Int32) (x2 : Int32) (o : Int32) (h : x_X10_goesOn F_t x1 x2 = some o) (sz : Nat) : MetI l yX10_goesOn (.code yX10_goesOn cX10_goesOn 4 (some .int) :: gW) 0 0 [.ref q_t, .int x1, .int x2] o g [oX10 q_t Q_t (F_t 0 0) (F_t 2 0) (F_t 3 0) (F_t 4 0) (F_t 5 0) (F_t 6 0) (F_t 7 0) (F_t 8 0) (F_t 9 0) (F_t 10 0) (F_t 11 0) (F_t 12 0) (F_t 15 0) (F_t 16 0) (F_t 17 0) (F_t 23 0) (F_t 27 0) (F_t 28 0) (F_t 30 0), ia g (Q_t 18) 16 (F_t 18)] [oX10 q_t Q_t (F_t 0 0) (F_t 2 0) (F_t 3 0) (F_t 4 0) (F_t 5 0) (F_t 6 0) (F_t 7 0) (F_t 8 0) (F_t 9 0) (F_t 10 0) (F_t 11 0) (F_t 12 0) (F_t 15 0) (F_t 16 0) (F_t 17 0) (F_t 23 0) (F_t 27 0) (F_t 28 0) (F_t 30 0), ia g (Q_t 18) 16 (F_t 18)] sz :=
  mkI (av := [.ref q_t, .int x1, .int x2]) (by decide +kernel) rfl (fun p e s m below meth c A E H locs ls hP hD hS hl => t_X10_goesOn E q_t Q_t F_t x1 x2 o h H locs ls hP hD hS hl) sz
def x_X10_passHour_b34 (N : Nat) (F_t : St) (f_a1 : (Nat → Int32)) (x2 : Int32) (x4 : Int32) (x5 : Int32) : Option ((Int32 × (Nat → Int32)) ⊕ ((Nat → Int32))) :=
  if (F_t 17 0) ≤ x5 then (some (.inr f_a1)) else (if x4 = 0 then (some (.inr f_a1)) else (if ((3 : Int32) * x5) < 0 ∨ 30 ≤ ((3 : Int32) * x5).toNatClampNeg then none else if ((F_t 19) ((3 : Int32) * x5).toNatClampNeg) = x2 then (Option.bind (x_X10_has (f_a1 (172 : Int32).toNatClampNeg) x5) (fun v_10 => if v_10 = 0 then (if ((152 : Int32) + x5) < 0 ∨ 174 ≤ ((152 : Int32) + x5).toNatClampNeg then none else if (F_t 15 0) ≤ (f_a1 ((152 : Int32) + x5).toNatClampNeg) then (some (.inl ((x5 + (1 : Int32)), f_a1))) else (if (((3 : Int32) * x5) + (1 : Int32)) < 0 ∨ 30 ≤ (((3 : Int32) * x5) + (1 : Int32)).toNatClampNeg then none else if (((3 : Int32) * x5) + (2 : Int32)) < 0 ∨ 30 ≤ (((3 : Int32) * x5) + (2 : Int32)).toNatClampNeg then none else xl (((10 : Int32) * ((F_t 19) (((3 : Int32) * x5) + (1 : Int32)).toNatClampNeg)) + ((F_t 19) (((3 : Int32) * x5) + (2 : Int32)).toNatClampNeg)) (fun y_16 => if y_16 < 0 ∨ 174 ≤ y_16.toNatClampNeg then none else if y_16 < 0 ∨ 174 ≤ y_16.toNatClampNeg then none else xl ((f_a1 y_16.toNatClampNeg) ||| x4) (fun y_19 => if ((152 : Int32) + x5) < 0 ∨ 174 ≤ ((152 : Int32) + x5).toNatClampNeg then none else Option.bind (x_X10_bits N x4) (fun v_21 => if ((152 : Int32) + x5) < 0 ∨ 174 ≤ ((152 : Int32) + x5).toNatClampNeg then none else xl (((upd f_a1 y_16.toNatClampNeg y_19) ((152 : Int32) + x5).toNatClampNeg) + v_21) (fun y_23 => if ((162 : Int32) + x5) < 0 ∨ 174 ≤ ((162 : Int32) + x5).toNatClampNeg then none else if ((upd (upd f_a1 y_16.toNatClampNeg y_19) ((152 : Int32) + x5).toNatClampNeg y_23) ((162 : Int32) + x5).toNatClampNeg) = (-1 : Int32) then (some (.inl ((x5 + (1 : Int32)), (upd (upd f_a1 y_16.toNatClampNeg y_19) ((152 : Int32) + x5).toNatClampNeg y_23)))) else (if ((162 : Int32) + x5) < 0 ∨ 174 ≤ ((162 : Int32) + x5).toNatClampNeg then none else Option.bind (x_X10_hearAt N (upd (upd f_a1 y_16.toNatClampNeg y_19) ((152 : Int32) + x5).toNatClampNeg y_23) ((upd (upd f_a1 y_16.toNatClampNeg y_19) ((152 : Int32) + x5).toNatClampNeg y_23) ((162 : Int32) + x5).toNatClampNeg) x4) (fun v_27 => some (.inl ((x5 + (1 : Int32)), v_27)))))))))) else (some (.inl ((x5 + (1 : Int32)), f_a1))))) else (some (.inl ((x5 + (1 : Int32)), f_a1)))))
set_option maxHeartbeats 4000000 in
set_option maxRecDepth 100000 in
theorem t_X10_passHour_b34 {p : Program} {l : Launch} {e : Env} {s : State} {m : MethodId} {args : Array Value} {below : List Frame} {meth : Method} {c : Code} {g : gG} {A : Nat → Prop} {Q : State → Prop} (E : En p s m args meth c g A cX10_passHour 7 (.code yX10_passHour cX10_passHour 7 none :: gW) RX10 none) (q_t : Nat) (Q_t : Ad) (q_a1 : Nat) (N : Nat) (F_t : St) (f_a1 : (Nat → Int32)) (x2 : Int32) (x4 : Int32) (x5 : Int32) (o : (Int32 × (Nat → Int32)) ⊕ ((Nat → Int32))) (h : x_X10_passHour_b34 N F_t f_a1 x2 x4 x5 = some o) (hc : ∀ z, o = .inl z → WA p l e (rM 2 45) s m args below meth c g A Q 7 34 [oX10 q_t Q_t (F_t 0 0) (F_t 2 0) (F_t 3 0) (F_t 4 0) (F_t 5 0) (F_t 6 0) (F_t 7 0) (F_t 8 0) (F_t 9 0) (F_t 10 0) (F_t 11 0) (F_t 12 0) (F_t 15 0) (F_t 16 0) (F_t 17 0) (F_t 23 0) (F_t 27 0) (F_t 28 0) (F_t 30 0), ia g (Q_t 18) 16 (F_t 18), ia g (Q_t 19) 30 (F_t 19), ia g q_a1 174 z.2] [(0, .ref q_t), (1, .ref q_a1), (2, .int x2), (4, .int x4), (5, .int z.1)] []) (he : ∀ v, o = .inr v → WA p l e (rM 2 45) s m args below meth c g A Q 7 176 [oX10 q_t Q_t (F_t 0 0) (F_t 2 0) (F_t 3 0) (F_t 4 0) (F_t 5 0) (F_t 6 0) (F_t 7 0) (F_t 8 0) (F_t 9 0) (F_t 10 0) (F_t 11 0) (F_t 12 0) (F_t 15 0) (F_t 16 0) (F_t 17 0) (F_t 23 0) (F_t 27 0) (F_t 28 0) (F_t 30 0), ia g (Q_t 18) 16 (F_t 18), ia g (Q_t 19) 30 (F_t 19), ia g q_a1 174 v] [(0, .ref q_t), (1, .ref q_a1), (2, .int x2)] []) : WA p l e (rM 2 45) s m args below meth c g A Q 7 34 [oX10 q_t Q_t (F_t 0 0) (F_t 2 0) (F_t 3 0) (F_t 4 0) (F_t 5 0) (F_t 6 0) (F_t 7 0) (F_t 8 0) (F_t 9 0) (F_t 10 0) (F_t 11 0) (F_t 12 0) (F_t 15 0) (F_t 16 0) (F_t 17 0) (F_t 23 0) (F_t 27 0) (F_t 28 0) (F_t 30 0), ia g (Q_t 18) 16 (F_t 18), ia g (Q_t 19) 30 (F_t 19), ia g q_a1 174 f_a1] [(0, .ref q_t), (1, .ref q_a1), (2, .int x2), (4, .int x4), (5, .int x5)] [] := by
  obtain ⟨⟨hx, hb, hml, hown, hts⟩, hr, hK, hA, hlk⟩ := id E
  intro H locs ls hP hD hS hl
  refine lv_iload hx hb dX10_passHour_34 (lv_at hl 4 rfl) ?_
  refine lv_aload_n hx hb dX10_passHour_36 rfl (lv_at hl 0 rfl) ?_
  refine va_get (ci := 10) (v := .int (F_t 17 0)) (C := RX10) (T := TX10) (N := 38) hx hb hts (fun w h => .tail _ (u_inX10 w h)) hown hK.1 hP 0 rfl rfl 17 (by decide) (hts _ (.tail _ u_fl_X10_87)) (fun _ h9 => h9) rfl dX10_passHour_37 ?_
  refine lv_icmp_ge (tgt := 176) hx hb dX10_passHour_40 (by decide) (fun c_6 => ?_) (fun c_6 => ?_)
  · have h := ox_t c_6 h
    obtain rfl := Option.some.inj h
    exact he _ rfl H locs ls hP hD hS (lv_sub hl [0, 1, 2] rfl)
  · have h := ox_f c_6 h
    refine lv_iload hx hb dX10_passHour_43 (lv_at hl 3 rfl) ?_
    refine lv_if_eq (tgt := 176) hx hb dX10_passHour_45 (by decide) (fun c_7 => ?_) (fun c_7 => ?_)
    · have h := ox_t c_7 h
      obtain rfl := Option.some.inj h
      exact he _ rfl H locs ls hP hD hS (lv_sub hl [0, 1, 2] rfl)
    · have h := ox_f c_7 h
      refine lv_aload_n hx hb dX10_passHour_48 rfl (lv_at hl 0 rfl) ?_
      refine va_get (ci := 10) (v := .ref (Q_t 19)) (C := RX10) (T := TX10) (N := 38) hx hb hts (fun w h => .tail _ (u_inX10 w h)) hown hK.1 hP 0 rfl rfl 19 (by decide) (hts _ (.tail _ u_fl_X10_26)) (fun _ h9 => h9) rfl dX10_passHour_49 ?_
      refine lv_iconst (v := (3 : Int32)) hx hb dX10_passHour_52 (by decide) ?_
      refine lv_iload hx hb dX10_passHour_53 (lv_at hl 4 rfl) ?_
      refine lv_imul hx hb dX10_passHour_55 ?_
      obtain ⟨hi_8, h⟩ := ox_chk h
      refine va_iald hx hb hK.1 hP 2 0 rfl rfl hi_8 dX10_passHour_56 ?_
      refine lv_iload_n hx hb dX10_passHour_57 rfl (lv_at hl 2 rfl) ?_
      refine lv_icmp_ne (tgt := 170) hx hb dX10_passHour_58 (by decide) (fun c_9 => ?_) (fun c_9 => ?_)
      · have h := ox_f c_9 h
        refine lv_iinc (v := (x5 + (1 : Int32))) (lv' := [(5, .int (x5 + (1 : Int32))), (0, .ref q_t), (1, .ref q_a1), (2, .int x2), (4, .int x4)]) hx hb dX10_passHour_170 hl (k := 4) rfl rfl (by decide) rfl (fun ls hl => ?_)
        refine lv_goto (tgt := 34) hx hb dX10_passHour_173 (by decide) ?_
        obtain rfl := Option.some.inj h
        exact hc _ rfl H locs ls hP hD hS (lv_sub hl [1, 2, 3, 4, 0] rfl)
      · have h := ox_t c_9 h
        refine lv_aload_n hx hb dX10_passHour_61 rfl (lv_at hl 1 rfl) ?_
        refine lv_sipush (v := (172 : Int32)) hx hb dX10_passHour_62 (by decide) ?_
        refine va_iald hx hb hK.1 hP 3 0 rfl rfl (by unfold vp_in; decide) dX10_passHour_65 ?_
        refine lv_iload hx hb dX10_passHour_66 (lv_at hl 4 rfl) ?_
        obtain ⟨v_10, hv_10, h⟩ := ox_bind h
        refine kSi ⟨hx, hb, hml, hown, hts⟩ (c_X10_has l g (f_a1 (172 : Int32).toNatClampNeg) x5 v_10 hv_10 H.size) (gS u_ml_X10_194 u_st_X10_has u_ini_X10 u_co_X10_has) hd_X10_has ⟨rfl, rfl⟩ hK hP hD hS hA [] [0, 1, 2, 3] rfl rfl 0 rfl (w2 := [oX10 q_t Q_t (F_t 0 0) (F_t 2 0) (F_t 3 0) (F_t 4 0) (F_t 5 0) (F_t 6 0) (F_t 7 0) (F_t 8 0) (F_t 9 0) (F_t 10 0) (F_t 11 0) (F_t 12 0) (F_t 15 0) (F_t 16 0) (F_t 17 0) (F_t 23 0) (F_t 27 0) (F_t 28 0) (F_t 30 0), ia g (Q_t 18) 16 (F_t 18), ia g (Q_t 19) 30 (F_t 19), ia g q_a1 174 f_a1]) rfl rfl (As := [.int (f_a1 (172 : Int32).toNatClampNeg), .int x5]) (rest := []) rfl hl.1 rfl rfl dX10_passHour_68 (fun H locs hP hD hS => ?_)
        refine lv_if_ne (tgt := 170) hx hb dX10_passHour_71 (by decide) (fun c_11 => ?_) (fun c_11 => ?_)
        · have h := ox_f c_11 h
          refine lv_iinc (v := (x5 + (1 : Int32))) (lv' := [(5, .int (x5 + (1 : Int32))), (0, .ref q_t), (1, .ref q_a1), (2, .int x2), (4, .int x4)]) hx hb dX10_passHour_170 hl (k := 4) rfl rfl (by decide) rfl (fun ls hl => ?_)
          refine lv_goto (tgt := 34) hx hb dX10_passHour_173 (by decide) ?_
          obtain rfl := Option.some.inj h
          exact hc _ rfl H locs ls hP hD hS (lv_sub hl [1, 2, 3, 4, 0] rfl)
        · have h := ox_t c_11 h
          refine lv_aload_n hx hb dX10_passHour_74 rfl (lv_at hl 1 rfl) ?_
          refine lv_sipush (v := (152 : Int32)) hx hb dX10_passHour_75 (by decide) ?_
          refine lv_iload hx hb dX10_passHour_78 (lv_at hl 4 rfl) ?_
          refine lv_iadd hx hb dX10_passHour_80 ?_
          obtain ⟨hi_12, h⟩ := ox_chk h
          refine va_iald hx hb hK.1 hP 3 0 rfl rfl hi_12 dX10_passHour_81 ?_
          refine lv_aload_n hx hb dX10_passHour_82 rfl (lv_at hl 0 rfl) ?_
          refine va_get (ci := 10) (v := .int (F_t 15 0)) (C := RX10) (T := TX10) (N := 38) hx hb hts (fun w h => .tail _ (u_inX10 w h)) hown hK.1 hP 0 rfl rfl 15 (by decide) (hts _ (.tail _ u_fl_X10_156)) (fun _ h9 => h9) rfl dX10_passHour_83 ?_
          refine lv_icmp_ge (tgt := 170) hx hb dX10_passHour_86 (by decide) (fun c_13 => ?_) (fun c_13 => ?_)
          · have h := ox_t c_13 h
            refine lv_iinc (v := (x5 + (1 : Int32))) (lv' := [(5, .int (x5 + (1 : Int32))), (0, .ref q_t), (1, .ref q_a1), (2, .int x2), (4, .int x4)]) hx hb dX10_passHour_170 hl (k := 4) rfl rfl (by decide) rfl (fun ls hl => ?_)
            refine lv_goto (tgt := 34) hx hb dX10_passHour_173 (by decide) ?_
            obtain rfl := Option.some.inj h
            exact hc _ rfl H locs ls hP hD hS (lv_sub hl [1, 2, 3, 4, 0] rfl)
          · have h := ox_f c_13 h
            refine lv_bipush (v := (10 : Int32)) hx hb dX10_passHour_89 (by decide) ?_
            refine lv_aload_n hx hb dX10_passHour_91 rfl (lv_at hl 0 rfl) ?_
            refine va_get (ci := 10) (v := .ref (Q_t 19)) (C := RX10) (T := TX10) (N := 38) hx hb hts (fun w h => .tail _ (u_inX10 w h)) hown hK.1 hP 0 rfl rfl 19 (by decide) (hts _ (.tail _ u_fl_X10_26)) (fun _ h9 => h9) rfl dX10_passHour_92 ?_
            refine lv_iconst (v := (3 : Int32)) hx hb dX10_passHour_95 (by decide) ?_
            refine lv_iload hx hb dX10_passHour_96 (lv_at hl 4 rfl) ?_
            refine lv_imul hx hb dX10_passHour_98 ?_
            refine lv_iconst (v := (1 : Int32)) hx hb dX10_passHour_99 (by decide) ?_
            refine lv_iadd hx hb dX10_passHour_100 ?_
            obtain ⟨hi_14, h⟩ := ox_chk h
            refine va_iald hx hb hK.1 hP 2 0 rfl rfl hi_14 dX10_passHour_101 ?_
            refine lv_imul hx hb dX10_passHour_102 ?_
            refine lv_aload_n hx hb dX10_passHour_103 rfl (lv_at hl 0 rfl) ?_
            refine va_get (ci := 10) (v := .ref (Q_t 19)) (C := RX10) (T := TX10) (N := 38) hx hb hts (fun w h => .tail _ (u_inX10 w h)) hown hK.1 hP 0 rfl rfl 19 (by decide) (hts _ (.tail _ u_fl_X10_26)) (fun _ h9 => h9) rfl dX10_passHour_104 ?_
            refine lv_iconst (v := (3 : Int32)) hx hb dX10_passHour_107 (by decide) ?_
            refine lv_iload hx hb dX10_passHour_108 (lv_at hl 4 rfl) ?_
            refine lv_imul hx hb dX10_passHour_110 ?_
            refine lv_iconst (v := (2 : Int32)) hx hb dX10_passHour_111 (by decide) ?_
            refine lv_iadd hx hb dX10_passHour_112 ?_
            obtain ⟨hi_15, h⟩ := ox_chk h
            refine va_iald hx hb hK.1 hP 2 0 rfl rfl hi_15 dX10_passHour_113 ?_
            refine lv_iadd hx hb dX10_passHour_114 ?_
            refine lv_topi (fun y_16 ey_16 => ?_)
            have h := xl_at ey_16 h
            refine lv_istore (lv' := [(6, .int y_16), (0, .ref q_t), (1, .ref q_a1), (2, .int x2), (4, .int x4), (5, .int x5)]) hx hb dX10_passHour_115 hl (by decide) rfl (fun ls hl => ?_)
            refine lv_aload_n hx hb dX10_passHour_117 rfl (lv_at hl 2 rfl) ?_
            refine lv_iload hx hb dX10_passHour_118 (lv_at hl 0 rfl) ?_
            refine lv_aload_n hx hb dX10_passHour_120 rfl (lv_at hl 2 rfl) ?_
            refine lv_iload hx hb dX10_passHour_121 (lv_at hl 0 rfl) ?_
            obtain ⟨hi_17, h⟩ := ox_chk h
            refine va_iald hx hb hK.1 hP 3 0 rfl rfl hi_17 dX10_passHour_123 ?_
            refine lv_iload hx hb dX10_passHour_124 (lv_at hl 4 rfl) ?_
            refine lv_ior hx hb dX10_passHour_126 ?_
            obtain ⟨hi_18, h⟩ := ox_chk h
            refine lv_topi (fun y_19 ey_19 => ?_)
            have h := xl_at ey_19 h
            refine va_iast hx hb hK.1 hP hD hS 3 0 rfl rfl hi_18 dX10_passHour_127 (fun H locs hP hD hS => ?_)
            have hP : va_P g.1 vwCl [oX10 q_t Q_t (F_t 0 0) (F_t 2 0) (F_t 3 0) (F_t 4 0) (F_t 5 0) (F_t 6 0) (F_t 7 0) (F_t 8 0) (F_t 9 0) (F_t 10 0) (F_t 11 0) (F_t 12 0) (F_t 15 0) (F_t 16 0) (F_t 17 0) (F_t 23 0) (F_t 27 0) (F_t 28 0) (F_t 30 0), ia g (Q_t 18) 16 (F_t 18), ia g (Q_t 19) 30 (F_t 19), ia g q_a1 174 (upd f_a1 y_16.toNatClampNeg y_19)] H := hP
            have hD : va_D A [oX10 q_t Q_t (F_t 0 0) (F_t 2 0) (F_t 3 0) (F_t 4 0) (F_t 5 0) (F_t 6 0) (F_t 7 0) (F_t 8 0) (F_t 9 0) (F_t 10 0) (F_t 11 0) (F_t 12 0) (F_t 15 0) (F_t 16 0) (F_t 17 0) (F_t 23 0) (F_t 27 0) (F_t 28 0) (F_t 30 0), ia g (Q_t 18) 16 (F_t 18), ia g (Q_t 19) 30 (F_t 19), ia g q_a1 174 (upd f_a1 y_16.toNatClampNeg y_19)] := hD
            refine lv_aload_n hx hb dX10_passHour_128 rfl (lv_at hl 2 rfl) ?_
            refine lv_sipush (v := (152 : Int32)) hx hb dX10_passHour_129 (by decide) ?_
            refine lv_iload hx hb dX10_passHour_132 (lv_at hl 5 rfl) ?_
            refine lv_iadd hx hb dX10_passHour_134 ?_
            refine lv_dup2_11 hx hb dX10_passHour_135 rfl rfl ?_
            obtain ⟨hi_20, h⟩ := ox_chk h
            refine va_iald hx hb hK.1 hP 3 0 rfl rfl hi_20 dX10_passHour_136 ?_
            refine lv_iload hx hb dX10_passHour_137 (lv_at hl 4 rfl) ?_
            obtain ⟨v_21, hv_21, h⟩ := ox_bind h
            refine kSi ⟨hx, hb, hml, hown, hts⟩ (c_X10_bits l g N x4 v_21 hv_21 H.size) (gS u_ml_X10_168 u_st_X10_bits u_ini_X10 u_co_X10_bits) hd_X10_bits ⟨rfl, rfl⟩ hK hP hD hS hA [] [0, 1, 2, 3] rfl rfl 0 rfl (w2 := [oX10 q_t Q_t (F_t 0 0) (F_t 2 0) (F_t 3 0) (F_t 4 0) (F_t 5 0) (F_t 6 0) (F_t 7 0) (F_t 8 0) (F_t 9 0) (F_t 10 0) (F_t 11 0) (F_t 12 0) (F_t 15 0) (F_t 16 0) (F_t 17 0) (F_t 23 0) (F_t 27 0) (F_t 28 0) (F_t 30 0), ia g (Q_t 18) 16 (F_t 18), ia g (Q_t 19) 30 (F_t 19), ia g q_a1 174 (upd f_a1 y_16.toNatClampNeg y_19)]) rfl rfl (As := [.int x4]) (rest := [.int ((upd f_a1 y_16.toNatClampNeg y_19) ((152 : Int32) + x5).toNatClampNeg), .int ((152 : Int32) + x5), .ref q_a1]) rfl hl.1 rfl rfl dX10_passHour_139 (fun H locs hP hD hS => ?_)
            refine lv_iadd hx hb dX10_passHour_142 ?_
            obtain ⟨hi_22, h⟩ := ox_chk h
            refine lv_topi (fun y_23 ey_23 => ?_)
            have h := xl_at ey_23 h
            refine va_iast hx hb hK.1 hP hD hS 3 0 rfl rfl hi_22 dX10_passHour_143 (fun H locs hP hD hS => ?_)
            have hP : va_P g.1 vwCl [oX10 q_t Q_t (F_t 0 0) (F_t 2 0) (F_t 3 0) (F_t 4 0) (F_t 5 0) (F_t 6 0) (F_t 7 0) (F_t 8 0) (F_t 9 0) (F_t 10 0) (F_t 11 0) (F_t 12 0) (F_t 15 0) (F_t 16 0) (F_t 17 0) (F_t 23 0) (F_t 27 0) (F_t 28 0) (F_t 30 0), ia g (Q_t 18) 16 (F_t 18), ia g (Q_t 19) 30 (F_t 19), ia g q_a1 174 (upd (upd f_a1 y_16.toNatClampNeg y_19) ((152 : Int32) + x5).toNatClampNeg y_23)] H := hP
            have hD : va_D A [oX10 q_t Q_t (F_t 0 0) (F_t 2 0) (F_t 3 0) (F_t 4 0) (F_t 5 0) (F_t 6 0) (F_t 7 0) (F_t 8 0) (F_t 9 0) (F_t 10 0) (F_t 11 0) (F_t 12 0) (F_t 15 0) (F_t 16 0) (F_t 17 0) (F_t 23 0) (F_t 27 0) (F_t 28 0) (F_t 30 0), ia g (Q_t 18) 16 (F_t 18), ia g (Q_t 19) 30 (F_t 19), ia g q_a1 174 (upd (upd f_a1 y_16.toNatClampNeg y_19) ((152 : Int32) + x5).toNatClampNeg y_23)] := hD
            refine lv_aload_n hx hb dX10_passHour_144 rfl (lv_at hl 2 rfl) ?_
            refine lv_sipush (v := (162 : Int32)) hx hb dX10_passHour_145 (by decide) ?_
            refine lv_iload hx hb dX10_passHour_148 (lv_at hl 5 rfl) ?_
            refine lv_iadd hx hb dX10_passHour_150 ?_
            obtain ⟨hi_24, h⟩ := ox_chk h
            refine va_iald hx hb hK.1 hP 3 0 rfl rfl hi_24 dX10_passHour_151 ?_
            refine lv_iconst (v := (-1 : Int32)) hx hb dX10_passHour_152 (by decide) ?_
            refine lv_icmp_eq (tgt := 170) hx hb dX10_passHour_153 (by decide) (fun c_25 => ?_) (fun c_25 => ?_)
            · have h := ox_t c_25 h
              refine lv_iinc (v := (x5 + (1 : Int32))) (lv' := [(5, .int (x5 + (1 : Int32))), (6, .int y_16), (0, .ref q_t), (1, .ref q_a1), (2, .int x2), (4, .int x4)]) hx hb dX10_passHour_170 hl (k := 5) rfl rfl (by decide) rfl (fun ls hl => ?_)
              refine lv_goto (tgt := 34) hx hb dX10_passHour_173 (by decide) ?_
              obtain rfl := Option.some.inj h
              exact hc _ rfl H locs ls hP hD hS (lv_sub hl [2, 3, 4, 5, 0] rfl)
            · have h := ox_f c_25 h
              refine lv_aload_n hx hb dX10_passHour_156 rfl (lv_at hl 2 rfl) ?_
              refine lv_aload_n hx hb dX10_passHour_157 rfl (lv_at hl 2 rfl) ?_
              refine lv_sipush (v := (162 : Int32)) hx hb dX10_passHour_158 (by decide) ?_
              refine lv_iload hx hb dX10_passHour_161 (lv_at hl 5 rfl) ?_
              refine lv_iadd hx hb dX10_passHour_163 ?_
              obtain ⟨hi_26, h⟩ := ox_chk h
              refine va_iald hx hb hK.1 hP 3 0 rfl rfl hi_26 dX10_passHour_164 ?_
              refine lv_iload hx hb dX10_passHour_165 (lv_at hl 4 rfl) ?_
              obtain ⟨v_27, hv_27, h⟩ := ox_bind h
              refine kSv ⟨hx, hb, hml, hown, hts⟩ (c_X10_hearAt l g q_a1 N (upd (upd f_a1 y_16.toNatClampNeg y_19) ((152 : Int32) + x5).toNatClampNeg y_23) ((upd (upd f_a1 y_16.toNatClampNeg y_19) ((152 : Int32) + x5).toNatClampNeg y_23) ((162 : Int32) + x5).toNatClampNeg) x4 v_27 hv_27 H.size) (gS u_ml_X10_197 u_st_X10_hearAt u_ini_X10 u_co_X10_hearAt) hd_X10_hearAt ⟨rfl, rfl⟩ hK hP hD hS hA [3] [1, 2, 3, 0] rfl rfl 1 rfl (w2 := [oX10 q_t Q_t (F_t 0 0) (F_t 2 0) (F_t 3 0) (F_t 4 0) (F_t 5 0) (F_t 6 0) (F_t 7 0) (F_t 8 0) (F_t 9 0) (F_t 10 0) (F_t 11 0) (F_t 12 0) (F_t 15 0) (F_t 16 0) (F_t 17 0) (F_t 23 0) (F_t 27 0) (F_t 28 0) (F_t 30 0), ia g (Q_t 18) 16 (F_t 18), ia g (Q_t 19) 30 (F_t 19), ia g q_a1 174 v_27]) rfl rfl (As := [.ref q_a1, .int ((upd (upd f_a1 y_16.toNatClampNeg y_19) ((152 : Int32) + x5).toNatClampNeg y_23) ((162 : Int32) + x5).toNatClampNeg), .int x4]) (rest := []) rfl hl.1 rfl rfl dX10_passHour_167 (fun H locs hP hD hS => ?_)
              refine lv_iinc (v := (x5 + (1 : Int32))) (lv' := [(5, .int (x5 + (1 : Int32))), (6, .int y_16), (0, .ref q_t), (1, .ref q_a1), (2, .int x2), (4, .int x4)]) hx hb dX10_passHour_170 hl (k := 5) rfl rfl (by decide) rfl (fun ls hl => ?_)
              refine lv_goto (tgt := 34) hx hb dX10_passHour_173 (by decide) ?_
              obtain rfl := Option.some.inj h
              exact hc _ rfl H locs ls hP hD hS (lv_sub hl [2, 3, 4, 5, 0] rfl)
def x_X10_passHour_b2 (N : Nat) (F_t : St) (f_a1 : (Nat → Int32)) (x2 : Int32) : Option ((Int32 × (Nat → Int32)) ⊕ ((Nat → Int32))) :=
  if (F_t 16 0) ≤ x2 then (some (.inr f_a1)) else (if ((10 : Int32) * x2) < 0 ∨ 174 ≤ ((10 : Int32) * x2).toNatClampNeg then none else xl (f_a1 ((10 : Int32) * x2).toNatClampNeg) (fun y_3 => Option.bind (x_X10_hearAt N f_a1 x2 y_3) (fun v_4 => Option.bind (x_X10_goesOn F_t x2 y_3) (fun v_5 => Option.bind (lpc (fun (z : Int32 × (Nat → Int32)) => x_X10_passHour_b34 N F_t z.2 x2 v_5 z.1) N ((0 : Int32), v_4)) (fun v_28 => some (.inl ((x2 + (1 : Int32)), v_28)))))))
set_option maxHeartbeats 4000000 in
set_option maxRecDepth 100000 in
theorem t_X10_passHour_b2 {p : Program} {l : Launch} {e : Env} {s : State} {m : MethodId} {args : Array Value} {below : List Frame} {meth : Method} {c : Code} {g : gG} {A : Nat → Prop} {Q : State → Prop} (E : En p s m args meth c g A cX10_passHour 7 (.code yX10_passHour cX10_passHour 7 none :: gW) RX10 none) (q_t : Nat) (Q_t : Ad) (q_a1 : Nat) (N : Nat) (F_t : St) (f_a1 : (Nat → Int32)) (x2 : Int32) (o : (Int32 × (Nat → Int32)) ⊕ ((Nat → Int32))) (h : x_X10_passHour_b2 N F_t f_a1 x2 = some o) (hc : ∀ z, o = .inl z → WA p l e (rM 2 45) s m args below meth c g A Q 7 2 [oX10 q_t Q_t (F_t 0 0) (F_t 2 0) (F_t 3 0) (F_t 4 0) (F_t 5 0) (F_t 6 0) (F_t 7 0) (F_t 8 0) (F_t 9 0) (F_t 10 0) (F_t 11 0) (F_t 12 0) (F_t 15 0) (F_t 16 0) (F_t 17 0) (F_t 23 0) (F_t 27 0) (F_t 28 0) (F_t 30 0), ia g (Q_t 18) 16 (F_t 18), ia g (Q_t 19) 30 (F_t 19), ia g q_a1 174 z.2] [(0, .ref q_t), (1, .ref q_a1), (2, .int z.1)] []) (he : ∀ v, o = .inr v → WA p l e (rM 2 45) s m args below meth c g A Q 7 182 [oX10 q_t Q_t (F_t 0 0) (F_t 2 0) (F_t 3 0) (F_t 4 0) (F_t 5 0) (F_t 6 0) (F_t 7 0) (F_t 8 0) (F_t 9 0) (F_t 10 0) (F_t 11 0) (F_t 12 0) (F_t 15 0) (F_t 16 0) (F_t 17 0) (F_t 23 0) (F_t 27 0) (F_t 28 0) (F_t 30 0), ia g (Q_t 18) 16 (F_t 18), ia g (Q_t 19) 30 (F_t 19), ia g q_a1 174 v] [(0, .ref q_t), (1, .ref q_a1)] []) : WA p l e (rM 2 45) s m args below meth c g A Q 7 2 [oX10 q_t Q_t (F_t 0 0) (F_t 2 0) (F_t 3 0) (F_t 4 0) (F_t 5 0) (F_t 6 0) (F_t 7 0) (F_t 8 0) (F_t 9 0) (F_t 10 0) (F_t 11 0) (F_t 12 0) (F_t 15 0) (F_t 16 0) (F_t 17 0) (F_t 23 0) (F_t 27 0) (F_t 28 0) (F_t 30 0), ia g (Q_t 18) 16 (F_t 18), ia g (Q_t 19) 30 (F_t 19), ia g q_a1 174 f_a1] [(0, .ref q_t), (1, .ref q_a1), (2, .int x2)] [] := by
  obtain ⟨⟨hx, hb, hml, hown, hts⟩, hr, hK, hA, hlk⟩ := id E
  intro H locs ls hP hD hS hl
  refine lv_iload_n hx hb dX10_passHour_2 rfl (lv_at hl 2 rfl) ?_
  refine lv_aload_n hx hb dX10_passHour_3 rfl (lv_at hl 0 rfl) ?_
  refine va_get (ci := 10) (v := .int (F_t 16 0)) (C := RX10) (T := TX10) (N := 38) hx hb hts (fun w h => .tail _ (u_inX10 w h)) hown hK.1 hP 0 rfl rfl 16 (by decide) (hts _ (.tail _ u_fl_X10_80)) (fun _ h9 => h9) rfl dX10_passHour_4 ?_
  refine lv_icmp_ge (tgt := 182) hx hb dX10_passHour_7 (by decide) (fun c_1 => ?_) (fun c_1 => ?_)
  · have h := ox_t c_1 h
    obtain rfl := Option.some.inj h
    exact he _ rfl H locs ls hP hD hS (lv_sub hl [0, 1] rfl)
  · have h := ox_f c_1 h
    refine lv_aload_n hx hb dX10_passHour_10 rfl (lv_at hl 1 rfl) ?_
    refine lv_bipush (v := (10 : Int32)) hx hb dX10_passHour_11 (by decide) ?_
    refine lv_iload_n hx hb dX10_passHour_13 rfl (lv_at hl 2 rfl) ?_
    refine lv_imul hx hb dX10_passHour_14 ?_
    obtain ⟨hi_2, h⟩ := ox_chk h
    refine va_iald hx hb hK.1 hP 3 0 rfl rfl hi_2 dX10_passHour_15 ?_
    refine lv_topi (fun y_3 ey_3 => ?_)
    have h := xl_at ey_3 h
    refine lv_istore_n (lv' := [(3, .int y_3), (0, .ref q_t), (1, .ref q_a1), (2, .int x2)]) hx hb dX10_passHour_16 rfl hl (by decide) rfl (fun ls hl => ?_)
    refine lv_aload_n hx hb dX10_passHour_17 rfl (lv_at hl 2 rfl) ?_
    refine lv_iload_n hx hb dX10_passHour_18 rfl (lv_at hl 3 rfl) ?_
    refine lv_iload_n hx hb dX10_passHour_19 rfl (lv_at hl 0 rfl) ?_
    obtain ⟨v_4, hv_4, h⟩ := ox_bind h
    refine kSv ⟨hx, hb, hml, hown, hts⟩ (c_X10_hearAt l g q_a1 N f_a1 x2 y_3 v_4 hv_4 H.size) (gS u_ml_X10_197 u_st_X10_hearAt u_ini_X10 u_co_X10_hearAt) hd_X10_hearAt ⟨rfl, rfl⟩ hK hP hD hS hA [3] [1, 2, 3, 0] rfl rfl 1 rfl (w2 := [oX10 q_t Q_t (F_t 0 0) (F_t 2 0) (F_t 3 0) (F_t 4 0) (F_t 5 0) (F_t 6 0) (F_t 7 0) (F_t 8 0) (F_t 9 0) (F_t 10 0) (F_t 11 0) (F_t 12 0) (F_t 15 0) (F_t 16 0) (F_t 17 0) (F_t 23 0) (F_t 27 0) (F_t 28 0) (F_t 30 0), ia g (Q_t 18) 16 (F_t 18), ia g (Q_t 19) 30 (F_t 19), ia g q_a1 174 v_4]) rfl rfl (As := [.ref q_a1, .int x2, .int y_3]) (rest := []) rfl hl.1 rfl rfl dX10_passHour_20 (fun H locs hP hD hS => ?_)
    refine lv_aload_n hx hb dX10_passHour_23 rfl (lv_at hl 1 rfl) ?_
    refine lv_iload_n hx hb dX10_passHour_24 rfl (lv_at hl 3 rfl) ?_
    refine lv_iload_n hx hb dX10_passHour_25 rfl (lv_at hl 0 rfl) ?_
    obtain ⟨v_5, hv_5, h⟩ := ox_bind h
    refine kVi ⟨hx, hb, hml, hown, hts⟩ (c_X10_goesOn l g q_t Q_t F_t x2 y_3 v_5 hv_5 H.size) (gV u_ml_X10_201 u_im_X10_goesOn u_se_X10_goesOn u_ini_X10 u_co_X10_goesOn) hd_X10_goesOn ⟨rfl, rfl⟩ hK hP hD hS hA 0 10 rfl rfl [0, 1] [0, 1, 4, 5] rfl rfl 2 rfl (w2 := [oX10 q_t Q_t (F_t 0 0) (F_t 2 0) (F_t 3 0) (F_t 4 0) (F_t 5 0) (F_t 6 0) (F_t 7 0) (F_t 8 0) (F_t 9 0) (F_t 10 0) (F_t 11 0) (F_t 12 0) (F_t 15 0) (F_t 16 0) (F_t 17 0) (F_t 23 0) (F_t 27 0) (F_t 28 0) (F_t 30 0), ia g (Q_t 18) 16 (F_t 18), ia g (Q_t 19) 30 (F_t 19), ia g q_a1 174 v_4]) rfl rfl (As := [.int x2, .int y_3]) (rest := []) rfl hl.1 rfl rfl dX10_passHour_26 (fun H locs hP hD hS => ?_)
    refine lv_istore (lv' := [(4, .int v_5), (3, .int y_3), (0, .ref q_t), (1, .ref q_a1), (2, .int x2)]) hx hb dX10_passHour_29 hl (by decide) rfl (fun ls hl => ?_)
    refine lv_iconst (v := (0 : Int32)) hx hb dX10_passHour_31 (by decide) ?_
    refine lv_istore (lv' := [(5, .int (0 : Int32)), (4, .int v_5), (3, .int y_3), (0, .ref q_t), (1, .ref q_a1), (2, .int x2)]) hx hb dX10_passHour_32 hl (by decide) rfl (fun ls hl => ?_)
    obtain ⟨v_28, hv_28, h⟩ := ox_bind h
    refine lpc_W (Wh := fun (z : Int32 × (Nat → Int32)) => WA p l e (rM 2 45) s m args below meth c g A Q 7 34 [oX10 q_t Q_t (F_t 0 0) (F_t 2 0) (F_t 3 0) (F_t 4 0) (F_t 5 0) (F_t 6 0) (F_t 7 0) (F_t 8 0) (F_t 9 0) (F_t 10 0) (F_t 11 0) (F_t 12 0) (F_t 15 0) (F_t 16 0) (F_t 17 0) (F_t 23 0) (F_t 27 0) (F_t 28 0) (F_t 30 0), ia g (Q_t 18) 16 (F_t 18), ia g (Q_t 19) 30 (F_t 19), ia g q_a1 174 z.2] [(0, .ref q_t), (1, .ref q_a1), (2, .int x2), (4, .int v_5), (5, .int z.1)] []) (We := fun (v : (Nat → Int32)) => WA p l e (rM 2 45) s m args below meth c g A Q 7 176 [oX10 q_t Q_t (F_t 0 0) (F_t 2 0) (F_t 3 0) (F_t 4 0) (F_t 5 0) (F_t 6 0) (F_t 7 0) (F_t 8 0) (F_t 9 0) (F_t 10 0) (F_t 11 0) (F_t 12 0) (F_t 15 0) (F_t 16 0) (F_t 17 0) (F_t 23 0) (F_t 27 0) (F_t 28 0) (F_t 30 0), ia g (Q_t 18) 16 (F_t 18), ia g (Q_t 19) 30 (F_t 19), ia g q_a1 174 v] [(0, .ref q_t), (1, .ref q_a1), (2, .int x2)] []) (fun z r hb hc he => t_X10_passHour_b34 E q_t Q_t q_a1 N F_t z.2 x2 v_5 z.1 r hb hc he) N ((0 : Int32), v_4) v_28 hv_28 ?_ H locs ls hP hD hS (lv_sub hl [3, 4, 5, 1, 0] rfl)
    intro H locs ls hP hD hS hl
    refine lv_iinc (v := (x2 + (1 : Int32))) (lv' := [(2, .int (x2 + (1 : Int32))), (0, .ref q_t), (1, .ref q_a1)]) hx hb dX10_passHour_176 hl (k := 2) rfl rfl (by decide) rfl (fun ls hl => ?_)
    refine lv_goto (tgt := 2) hx hb dX10_passHour_179 (by decide) ?_
    obtain rfl := Option.some.inj h
    exact hc _ rfl H locs ls hP hD hS (lv_sub hl [1, 2, 0] rfl)
def x_X10_passHour_b184_k215 (N : Nat) (F_t : St) (f_a1 : (Nat → Int32)) (x2 : Int32) (s1 : Int32) (s2 : Int32) : Option ((Int32 × (Nat → Int32)) ⊕ ((Nat → Int32))) :=
  if s1 < 0 ∨ 174 ≤ s1.toNatClampNeg then none else some (.inl ((x2 + (1 : Int32)), (upd f_a1 s1.toNatClampNeg s2)))
set_option maxHeartbeats 4000000 in
set_option maxRecDepth 100000 in
theorem t_X10_passHour_b184_k215 {p : Program} {l : Launch} {e : Env} {s : State} {m : MethodId} {args : Array Value} {below : List Frame} {meth : Method} {c : Code} {g : gG} {A : Nat → Prop} {Q : State → Prop} (E : En p s m args meth c g A cX10_passHour 7 (.code yX10_passHour cX10_passHour 7 none :: gW) RX10 none) (q_t : Nat) (Q_t : Ad) (q_a1 : Nat) (N : Nat) (F_t : St) (f_a1 : (Nat → Int32)) (x2 : Int32) (s1 : Int32) (s2 : Int32) (o : (Int32 × (Nat → Int32)) ⊕ ((Nat → Int32))) (h : x_X10_passHour_b184_k215 N F_t f_a1 x2 s1 s2 = some o) (hc : ∀ z, o = .inl z → WA p l e (rM 2 45) s m args below meth c g A Q 7 184 [oX10 q_t Q_t (F_t 0 0) (F_t 2 0) (F_t 3 0) (F_t 4 0) (F_t 5 0) (F_t 6 0) (F_t 7 0) (F_t 8 0) (F_t 9 0) (F_t 10 0) (F_t 11 0) (F_t 12 0) (F_t 15 0) (F_t 16 0) (F_t 17 0) (F_t 23 0) (F_t 27 0) (F_t 28 0) (F_t 30 0), ia g (Q_t 18) 16 (F_t 18), ia g (Q_t 19) 30 (F_t 19), ia g q_a1 174 z.2] [(0, .ref q_t), (1, .ref q_a1), (2, .int z.1)] []) (he : ∀ v, o = .inr v → WA p l e (rM 2 45) s m args below meth c g A Q 7 222 [oX10 q_t Q_t (F_t 0 0) (F_t 2 0) (F_t 3 0) (F_t 4 0) (F_t 5 0) (F_t 6 0) (F_t 7 0) (F_t 8 0) (F_t 9 0) (F_t 10 0) (F_t 11 0) (F_t 12 0) (F_t 15 0) (F_t 16 0) (F_t 17 0) (F_t 23 0) (F_t 27 0) (F_t 28 0) (F_t 30 0), ia g (Q_t 18) 16 (F_t 18), ia g (Q_t 19) 30 (F_t 19), ia g q_a1 174 v] [(1, .ref q_a1)] []) : WA p l e (rM 2 45) s m args below meth c g A Q 7 215 [oX10 q_t Q_t (F_t 0 0) (F_t 2 0) (F_t 3 0) (F_t 4 0) (F_t 5 0) (F_t 6 0) (F_t 7 0) (F_t 8 0) (F_t 9 0) (F_t 10 0) (F_t 11 0) (F_t 12 0) (F_t 15 0) (F_t 16 0) (F_t 17 0) (F_t 23 0) (F_t 27 0) (F_t 28 0) (F_t 30 0), ia g (Q_t 18) 16 (F_t 18), ia g (Q_t 19) 30 (F_t 19), ia g q_a1 174 f_a1] [(0, .ref q_t), (1, .ref q_a1), (2, .int x2)] [.int s2, .int s1, .ref q_a1] := by
  obtain ⟨⟨hx, hb, hml, hown, hts⟩, hr, hK, hA, hlk⟩ := id E
  intro H locs ls hP hD hS hl
  obtain ⟨hi_30, h⟩ := ox_chk h
  refine va_iast hx hb hK.1 hP hD hS 3 0 rfl rfl hi_30 dX10_passHour_215 (fun H locs hP hD hS => ?_)
  have hP : va_P g.1 vwCl [oX10 q_t Q_t (F_t 0 0) (F_t 2 0) (F_t 3 0) (F_t 4 0) (F_t 5 0) (F_t 6 0) (F_t 7 0) (F_t 8 0) (F_t 9 0) (F_t 10 0) (F_t 11 0) (F_t 12 0) (F_t 15 0) (F_t 16 0) (F_t 17 0) (F_t 23 0) (F_t 27 0) (F_t 28 0) (F_t 30 0), ia g (Q_t 18) 16 (F_t 18), ia g (Q_t 19) 30 (F_t 19), ia g q_a1 174 (upd f_a1 s1.toNatClampNeg s2)] H := hP
  have hD : va_D A [oX10 q_t Q_t (F_t 0 0) (F_t 2 0) (F_t 3 0) (F_t 4 0) (F_t 5 0) (F_t 6 0) (F_t 7 0) (F_t 8 0) (F_t 9 0) (F_t 10 0) (F_t 11 0) (F_t 12 0) (F_t 15 0) (F_t 16 0) (F_t 17 0) (F_t 23 0) (F_t 27 0) (F_t 28 0) (F_t 30 0), ia g (Q_t 18) 16 (F_t 18), ia g (Q_t 19) 30 (F_t 19), ia g q_a1 174 (upd f_a1 s1.toNatClampNeg s2)] := hD
  refine lv_iinc (v := (x2 + (1 : Int32))) (lv' := [(2, .int (x2 + (1 : Int32))), (0, .ref q_t), (1, .ref q_a1)]) hx hb dX10_passHour_216 hl (k := 2) rfl rfl (by decide) rfl (fun ls hl => ?_)
  refine lv_goto (tgt := 184) hx hb dX10_passHour_219 (by decide) ?_
  obtain rfl := Option.some.inj h
  exact hc _ rfl H locs ls hP hD hS (lv_sub hl [1, 2, 0] rfl)
def x_X10_passHour_b184 (N : Nat) (F_t : St) (f_a1 : (Nat → Int32)) (x2 : Int32) : Option ((Int32 × (Nat → Int32)) ⊕ ((Nat → Int32))) :=
  if ((10 : Int32) * (F_t 16 0)) ≤ x2 then (some (.inr f_a1)) else (if (x2 - x2 / (10 : Int32) * (10 : Int32)) = (9 : Int32) then (x_X10_passHour_b184_k215 N F_t f_a1 x2 x2 (0 : Int32)) else (if (x2 + (1 : Int32)) < 0 ∨ 174 ≤ (x2 + (1 : Int32)).toNatClampNeg then none else x_X10_passHour_b184_k215 N F_t f_a1 x2 x2 (f_a1 (x2 + (1 : Int32)).toNatClampNeg)))
set_option maxHeartbeats 4000000 in
set_option maxRecDepth 100000 in
theorem t_X10_passHour_b184 {p : Program} {l : Launch} {e : Env} {s : State} {m : MethodId} {args : Array Value} {below : List Frame} {meth : Method} {c : Code} {g : gG} {A : Nat → Prop} {Q : State → Prop} (E : En p s m args meth c g A cX10_passHour 7 (.code yX10_passHour cX10_passHour 7 none :: gW) RX10 none) (q_t : Nat) (Q_t : Ad) (q_a1 : Nat) (N : Nat) (F_t : St) (f_a1 : (Nat → Int32)) (x2 : Int32) (o : (Int32 × (Nat → Int32)) ⊕ ((Nat → Int32))) (h : x_X10_passHour_b184 N F_t f_a1 x2 = some o) (hc : ∀ z, o = .inl z → WA p l e (rM 2 45) s m args below meth c g A Q 7 184 [oX10 q_t Q_t (F_t 0 0) (F_t 2 0) (F_t 3 0) (F_t 4 0) (F_t 5 0) (F_t 6 0) (F_t 7 0) (F_t 8 0) (F_t 9 0) (F_t 10 0) (F_t 11 0) (F_t 12 0) (F_t 15 0) (F_t 16 0) (F_t 17 0) (F_t 23 0) (F_t 27 0) (F_t 28 0) (F_t 30 0), ia g (Q_t 18) 16 (F_t 18), ia g (Q_t 19) 30 (F_t 19), ia g q_a1 174 z.2] [(0, .ref q_t), (1, .ref q_a1), (2, .int z.1)] []) (he : ∀ v, o = .inr v → WA p l e (rM 2 45) s m args below meth c g A Q 7 222 [oX10 q_t Q_t (F_t 0 0) (F_t 2 0) (F_t 3 0) (F_t 4 0) (F_t 5 0) (F_t 6 0) (F_t 7 0) (F_t 8 0) (F_t 9 0) (F_t 10 0) (F_t 11 0) (F_t 12 0) (F_t 15 0) (F_t 16 0) (F_t 17 0) (F_t 23 0) (F_t 27 0) (F_t 28 0) (F_t 30 0), ia g (Q_t 18) 16 (F_t 18), ia g (Q_t 19) 30 (F_t 19), ia g q_a1 174 v] [(1, .ref q_a1)] []) : WA p l e (rM 2 45) s m args below meth c g A Q 7 184 [oX10 q_t Q_t (F_t 0 0) (F_t 2 0) (F_t 3 0) (F_t 4 0) (F_t 5 0) (F_t 6 0) (F_t 7 0) (F_t 8 0) (F_t 9 0) (F_t 10 0) (F_t 11 0) (F_t 12 0) (F_t 15 0) (F_t 16 0) (F_t 17 0) (F_t 23 0) (F_t 27 0) (F_t 28 0) (F_t 30 0), ia g (Q_t 18) 16 (F_t 18), ia g (Q_t 19) 30 (F_t 19), ia g q_a1 174 f_a1] [(0, .ref q_t), (1, .ref q_a1), (2, .int x2)] [] := by
  obtain ⟨⟨hx, hb, hml, hown, hts⟩, hr, hK, hA, hlk⟩ := id E
  intro H locs ls hP hD hS hl
  refine lv_iload_n hx hb dX10_passHour_184 rfl (lv_at hl 2 rfl) ?_
  refine lv_bipush (v := (10 : Int32)) hx hb dX10_passHour_185 (by decide) ?_
  refine lv_aload_n hx hb dX10_passHour_187 rfl (lv_at hl 0 rfl) ?_
  refine va_get (ci := 10) (v := .int (F_t 16 0)) (C := RX10) (T := TX10) (N := 38) hx hb hts (fun w h => .tail _ (u_inX10 w h)) hown hK.1 hP 0 rfl rfl 16 (by decide) (hts _ (.tail _ u_fl_X10_80)) (fun _ h9 => h9) rfl dX10_passHour_188 ?_
  refine lv_imul hx hb dX10_passHour_191 ?_
  refine lv_icmp_ge (tgt := 222) hx hb dX10_passHour_192 (by decide) (fun c_31 => ?_) (fun c_31 => ?_)
  · have h := ox_t c_31 h
    obtain rfl := Option.some.inj h
    exact he _ rfl H locs ls hP hD hS (lv_sub hl [1] rfl)
  · have h := ox_f c_31 h
    refine lv_aload_n hx hb dX10_passHour_195 rfl (lv_at hl 1 rfl) ?_
    refine lv_iload_n hx hb dX10_passHour_196 rfl (lv_at hl 2 rfl) ?_
    refine lv_iload_n hx hb dX10_passHour_197 rfl (lv_at hl 2 rfl) ?_
    refine lv_bipush (v := (10 : Int32)) hx hb dX10_passHour_198 (by decide) ?_
    refine lv_irem hx hb dX10_passHour_200 (by decide) ?_
    refine lv_bipush (v := (9 : Int32)) hx hb dX10_passHour_201 (by decide) ?_
    refine lv_icmp_ne (tgt := 210) hx hb dX10_passHour_203 (by decide) (fun c_32 => ?_) (fun c_32 => ?_)
    · have h := ox_f c_32 h
      refine lv_aload_n hx hb dX10_passHour_210 rfl (lv_at hl 1 rfl) ?_
      refine lv_iload_n hx hb dX10_passHour_211 rfl (lv_at hl 2 rfl) ?_
      refine lv_iconst (v := (1 : Int32)) hx hb dX10_passHour_212 (by decide) ?_
      refine lv_iadd hx hb dX10_passHour_213 ?_
      obtain ⟨hi_33, h⟩ := ox_chk h
      refine va_iald hx hb hK.1 hP 3 0 rfl rfl hi_33 dX10_passHour_214 ?_
      exact t_X10_passHour_b184_k215 E q_t Q_t q_a1 N F_t f_a1 x2 x2 (f_a1 (x2 + (1 : Int32)).toNatClampNeg) _ h hc he H locs ls hP hD hS hl
    · have h := ox_t c_32 h
      refine lv_iconst (v := (0 : Int32)) hx hb dX10_passHour_206 (by decide) ?_
      refine lv_goto (tgt := 215) hx hb dX10_passHour_207 (by decide) ?_
      exact t_X10_passHour_b184_k215 E q_t Q_t q_a1 N F_t f_a1 x2 x2 (0 : Int32) _ h hc he H locs ls hP hD hS hl
def x_X10_passHour (N : Nat) (F_t : St) (f_a1 : (Nat → Int32)) : Option ((Nat → Int32)) :=
  Option.bind (lpc (fun (z : Int32 × (Nat → Int32)) => x_X10_passHour_b2 N F_t z.2 z.1) N ((0 : Int32), f_a1)) (fun v_29 => Option.bind (lpc (fun (z : Int32 × (Nat → Int32)) => x_X10_passHour_b184 N F_t z.2 z.1) N ((0 : Int32), v_29)) (fun v_34 => xl ((v_34 (173 : Int32).toNatClampNeg) + (1 : Int32)) (fun y_35 => some (upd v_34 (173 : Int32).toNatClampNeg y_35))))
set_option maxHeartbeats 4000000 in
set_option maxRecDepth 100000 in
theorem t_X10_passHour {p : Program} {l : Launch} {e : Env} {s : State} {m : MethodId} {args : Array Value} {below : List Frame} {meth : Method} {c : Code} {g : gG} {A : Nat → Prop} (E : En p s m args meth c g A cX10_passHour 7 (.code yX10_passHour cX10_passHour 7 none :: gW) RX10 none) (q_t : Nat) (Q_t : Ad) (q_a1 : Nat) (N : Nat) (F_t : St) (f_a1 : (Nat → Int32)) (o : (Nat → Int32)) (h : x_X10_passHour N F_t f_a1 = some o) : WA p l e (rM 2 45) s m args below meth c g A (MQ below (QV g A [oX10 q_t Q_t (F_t 0 0) (F_t 2 0) (F_t 3 0) (F_t 4 0) (F_t 5 0) (F_t 6 0) (F_t 7 0) (F_t 8 0) (F_t 9 0) (F_t 10 0) (F_t 11 0) (F_t 12 0) (F_t 15 0) (F_t 16 0) (F_t 17 0) (F_t 23 0) (F_t 27 0) (F_t 28 0) (F_t 30 0), ia g (Q_t 18) 16 (F_t 18), ia g (Q_t 19) 30 (F_t 19), ia g q_a1 174 o]) args s 0 0 A) 7 0 [oX10 q_t Q_t (F_t 0 0) (F_t 2 0) (F_t 3 0) (F_t 4 0) (F_t 5 0) (F_t 6 0) (F_t 7 0) (F_t 8 0) (F_t 9 0) (F_t 10 0) (F_t 11 0) (F_t 12 0) (F_t 15 0) (F_t 16 0) (F_t 17 0) (F_t 23 0) (F_t 27 0) (F_t 28 0) (F_t 30 0), ia g (Q_t 18) 16 (F_t 18), ia g (Q_t 19) 30 (F_t 19), ia g q_a1 174 f_a1] [(0, .ref q_t), (1, .ref q_a1)] [] := by
  obtain ⟨⟨hx, hb, hml, hown, hts⟩, hr, hK, hA, hlk⟩ := id E
  intro H locs ls hP hD hS hl
  refine lv_iconst (v := (0 : Int32)) hx hb dX10_passHour_0 (by decide) ?_
  refine lv_istore_n (lv' := [(2, .int (0 : Int32)), (0, .ref q_t), (1, .ref q_a1)]) hx hb dX10_passHour_1 rfl hl (by decide) rfl (fun ls hl => ?_)
  obtain ⟨v_29, hv_29, h⟩ := ox_bind h
  refine lpc_W (Wh := fun (z : Int32 × (Nat → Int32)) => WA p l e (rM 2 45) s m args below meth c g A (MQ below (QV g A [oX10 q_t Q_t (F_t 0 0) (F_t 2 0) (F_t 3 0) (F_t 4 0) (F_t 5 0) (F_t 6 0) (F_t 7 0) (F_t 8 0) (F_t 9 0) (F_t 10 0) (F_t 11 0) (F_t 12 0) (F_t 15 0) (F_t 16 0) (F_t 17 0) (F_t 23 0) (F_t 27 0) (F_t 28 0) (F_t 30 0), ia g (Q_t 18) 16 (F_t 18), ia g (Q_t 19) 30 (F_t 19), ia g q_a1 174 o]) args s 0 0 A) 7 2 [oX10 q_t Q_t (F_t 0 0) (F_t 2 0) (F_t 3 0) (F_t 4 0) (F_t 5 0) (F_t 6 0) (F_t 7 0) (F_t 8 0) (F_t 9 0) (F_t 10 0) (F_t 11 0) (F_t 12 0) (F_t 15 0) (F_t 16 0) (F_t 17 0) (F_t 23 0) (F_t 27 0) (F_t 28 0) (F_t 30 0), ia g (Q_t 18) 16 (F_t 18), ia g (Q_t 19) 30 (F_t 19), ia g q_a1 174 z.2] [(0, .ref q_t), (1, .ref q_a1), (2, .int z.1)] []) (We := fun (v : (Nat → Int32)) => WA p l e (rM 2 45) s m args below meth c g A (MQ below (QV g A [oX10 q_t Q_t (F_t 0 0) (F_t 2 0) (F_t 3 0) (F_t 4 0) (F_t 5 0) (F_t 6 0) (F_t 7 0) (F_t 8 0) (F_t 9 0) (F_t 10 0) (F_t 11 0) (F_t 12 0) (F_t 15 0) (F_t 16 0) (F_t 17 0) (F_t 23 0) (F_t 27 0) (F_t 28 0) (F_t 30 0), ia g (Q_t 18) 16 (F_t 18), ia g (Q_t 19) 30 (F_t 19), ia g q_a1 174 o]) args s 0 0 A) 7 182 [oX10 q_t Q_t (F_t 0 0) (F_t 2 0) (F_t 3 0) (F_t 4 0) (F_t 5 0) (F_t 6 0) (F_t 7 0) (F_t 8 0) (F_t 9 0) (F_t 10 0) (F_t 11 0) (F_t 12 0) (F_t 15 0) (F_t 16 0) (F_t 17 0) (F_t 23 0) (F_t 27 0) (F_t 28 0) (F_t 30 0), ia g (Q_t 18) 16 (F_t 18), ia g (Q_t 19) 30 (F_t 19), ia g q_a1 174 v] [(0, .ref q_t), (1, .ref q_a1)] []) (fun z r hb hc he => t_X10_passHour_b2 E q_t Q_t q_a1 N F_t z.2 z.1 r hb hc he) N ((0 : Int32), f_a1) v_29 hv_29 ?_ H locs ls hP hD hS (lv_sub hl [1, 2, 0] rfl)
  intro H locs ls hP hD hS hl
  refine lv_iconst (v := (0 : Int32)) hx hb dX10_passHour_182 (by decide) ?_
  refine lv_istore_n (lv' := [(2, .int (0 : Int32)), (0, .ref q_t), (1, .ref q_a1)]) hx hb dX10_passHour_183 rfl hl (by decide) rfl (fun ls hl => ?_)
  obtain ⟨v_34, hv_34, h⟩ := ox_bind h
  refine lpc_W (Wh := fun (z : Int32 × (Nat → Int32)) => WA p l e (rM 2 45) s m args below meth c g A (MQ below (QV g A [oX10 q_t Q_t (F_t 0 0) (F_t 2 0) (F_t 3 0) (F_t 4 0) (F_t 5 0) (F_t 6 0) (F_t 7 0) (F_t 8 0) (F_t 9 0) (F_t 10 0) (F_t 11 0) (F_t 12 0) (F_t 15 0) (F_t 16 0) (F_t 17 0) (F_t 23 0) (F_t 27 0) (F_t 28 0) (F_t 30 0), ia g (Q_t 18) 16 (F_t 18), ia g (Q_t 19) 30 (F_t 19), ia g q_a1 174 o]) args s 0 0 A) 7 184 [oX10 q_t Q_t (F_t 0 0) (F_t 2 0) (F_t 3 0) (F_t 4 0) (F_t 5 0) (F_t 6 0) (F_t 7 0) (F_t 8 0) (F_t 9 0) (F_t 10 0) (F_t 11 0) (F_t 12 0) (F_t 15 0) (F_t 16 0) (F_t 17 0) (F_t 23 0) (F_t 27 0) (F_t 28 0) (F_t 30 0), ia g (Q_t 18) 16 (F_t 18), ia g (Q_t 19) 30 (F_t 19), ia g q_a1 174 z.2] [(0, .ref q_t), (1, .ref q_a1), (2, .int z.1)] []) (We := fun (v : (Nat → Int32)) => WA p l e (rM 2 45) s m args below meth c g A (MQ below (QV g A [oX10 q_t Q_t (F_t 0 0) (F_t 2 0) (F_t 3 0) (F_t 4 0) (F_t 5 0) (F_t 6 0) (F_t 7 0) (F_t 8 0) (F_t 9 0) (F_t 10 0) (F_t 11 0) (F_t 12 0) (F_t 15 0) (F_t 16 0) (F_t 17 0) (F_t 23 0) (F_t 27 0) (F_t 28 0) (F_t 30 0), ia g (Q_t 18) 16 (F_t 18), ia g (Q_t 19) 30 (F_t 19), ia g q_a1 174 o]) args s 0 0 A) 7 222 [oX10 q_t Q_t (F_t 0 0) (F_t 2 0) (F_t 3 0) (F_t 4 0) (F_t 5 0) (F_t 6 0) (F_t 7 0) (F_t 8 0) (F_t 9 0) (F_t 10 0) (F_t 11 0) (F_t 12 0) (F_t 15 0) (F_t 16 0) (F_t 17 0) (F_t 23 0) (F_t 27 0) (F_t 28 0) (F_t 30 0), ia g (Q_t 18) 16 (F_t 18), ia g (Q_t 19) 30 (F_t 19), ia g q_a1 174 v] [(1, .ref q_a1)] []) (fun z r hb hc he => t_X10_passHour_b184 E q_t Q_t q_a1 N F_t z.2 z.1 r hb hc he) N ((0 : Int32), v_29) v_34 hv_34 ?_ H locs ls hP hD hS (lv_sub hl [1, 2, 0] rfl)
  intro H locs ls hP hD hS hl
  refine lv_aload_n hx hb dX10_passHour_222 rfl (lv_at hl 0 rfl) ?_
  refine lv_sipush (v := (173 : Int32)) hx hb dX10_passHour_223 (by decide) ?_
  refine lv_dup2_11 hx hb dX10_passHour_226 rfl rfl ?_
  refine va_iald hx hb hK.1 hP 3 0 rfl rfl (by unfold vp_in; decide) dX10_passHour_227 ?_
  refine lv_iconst (v := (1 : Int32)) hx hb dX10_passHour_228 (by decide) ?_
  refine lv_iadd hx hb dX10_passHour_229 ?_
  refine lv_topi (fun y_35 ey_35 => ?_)
  have h := xl_at ey_35 h
  refine va_iast hx hb hK.1 hP hD hS 3 0 rfl rfl (by unfold vp_in; decide) dX10_passHour_230 (fun H locs hP hD hS => ?_)
  have hP : va_P g.1 vwCl [oX10 q_t Q_t (F_t 0 0) (F_t 2 0) (F_t 3 0) (F_t 4 0) (F_t 5 0) (F_t 6 0) (F_t 7 0) (F_t 8 0) (F_t 9 0) (F_t 10 0) (F_t 11 0) (F_t 12 0) (F_t 15 0) (F_t 16 0) (F_t 17 0) (F_t 23 0) (F_t 27 0) (F_t 28 0) (F_t 30 0), ia g (Q_t 18) 16 (F_t 18), ia g (Q_t 19) 30 (F_t 19), ia g q_a1 174 (upd v_34 (173 : Int32).toNatClampNeg y_35)] H := hP
  have hD : va_D A [oX10 q_t Q_t (F_t 0 0) (F_t 2 0) (F_t 3 0) (F_t 4 0) (F_t 5 0) (F_t 6 0) (F_t 7 0) (F_t 8 0) (F_t 9 0) (F_t 10 0) (F_t 11 0) (F_t 12 0) (F_t 15 0) (F_t 16 0) (F_t 17 0) (F_t 23 0) (F_t 27 0) (F_t 28 0) (F_t 30 0), ia g (Q_t 18) 16 (F_t 18), ia g (Q_t 19) 30 (F_t 19), ia g q_a1 174 (upd v_34 (173 : Int32).toNatClampNeg y_35)] := hD
  obtain rfl := Option.some.inj h
  exact k_vret hx hb hr hlk hP hD hS dX10_passHour_231
set_option maxRecDepth 100000 in
theorem c_X10_passHour (l : Launch) (g : gG) (q_t : Nat) (Q_t : Ad) (q_a1 : Nat) (N : Nat) (F_t : St) (f_a1 : (Nat → Int32)) (o : (Nat → Int32)) (h : x_X10_passHour N F_t f_a1 = some o) (sz : Nat) : MetV l yX10_passHour (.code yX10_passHour cX10_passHour 7 none :: gW) 2 45 [.ref q_t, .ref q_a1] g [oX10 q_t Q_t (F_t 0 0) (F_t 2 0) (F_t 3 0) (F_t 4 0) (F_t 5 0) (F_t 6 0) (F_t 7 0) (F_t 8 0) (F_t 9 0) (F_t 10 0) (F_t 11 0) (F_t 12 0) (F_t 15 0) (F_t 16 0) (F_t 17 0) (F_t 23 0) (F_t 27 0) (F_t 28 0) (F_t 30 0), ia g (Q_t 18) 16 (F_t 18), ia g (Q_t 19) 30 (F_t 19), ia g q_a1 174 f_a1] [oX10 q_t Q_t (F_t 0 0) (F_t 2 0) (F_t 3 0) (F_t 4 0) (F_t 5 0) (F_t 6 0) (F_t 7 0) (F_t 8 0) (F_t 9 0) (F_t 10 0) (F_t 11 0) (F_t 12 0) (F_t 15 0) (F_t 16 0) (F_t 17 0) (F_t 23 0) (F_t 27 0) (F_t 28 0) (F_t 30 0), ia g (Q_t 18) 16 (F_t 18), ia g (Q_t 19) 30 (F_t 19), ia g q_a1 174 o] sz :=
  mkV (av := [.ref q_t, .ref q_a1]) (by decide +kernel) rfl (fun p e s m below meth c A E H locs ls hP hD hS hl => t_X10_passHour E q_t Q_t q_a1 N F_t f_a1 o h H locs ls hP hD hS hl) sz
def x_X10_letIn (N : Nat) (F_t : St) (x1 : Int32) : Option (Int32 × (Nat → Int32) × (Nat → Int32) × Int32) :=
  Option.bind (x_X10_in x1 (1 : Int32) (255 : Int32)) (fun v_1 => if v_1 = 0 then (some ((-1000000002 : Int32), (F_t 20), (F_t 22), (F_t 23 0))) else (if (F_t 16 0) = 0 then (some ((-1000000003 : Int32), (F_t 20), (F_t 22), (F_t 23 0))) else (Option.bind (x_X10_note N F_t) (fun v_4 => xl (((F_t 20) (0 : Int32).toNatClampNeg) ||| x1) (fun y_5 => some (((upd (F_t 20) (0 : Int32).toNatClampNeg y_5) (0 : Int32).toNatClampNeg), (upd (F_t 20) (0 : Int32).toNatClampNeg y_5), v_4.1, v_4.2))))))
set_option maxHeartbeats 4000000 in
set_option maxRecDepth 100000 in
theorem t_X10_letIn {p : Program} {l : Launch} {e : Env} {s : State} {m : MethodId} {args : Array Value} {below : List Frame} {meth : Method} {c : Code} {g : gG} {A : Nat → Prop} (E : En p s m args meth c g A cX10_letIn 2 (.code yX10_letIn cX10_letIn 2 (some .int) :: gW) RX10 (some .int)) (q_t : Nat) (Q_t : Ad) (N : Nat) (F_t : St) (x1 : Int32) (o : Int32 × (Nat → Int32) × (Nat → Int32) × Int32) (h : x_X10_letIn N F_t x1 = some o) : WA p l e (rM 2 45) s m args below meth c g A (MQ below (QI g A o.1 [oX10 q_t Q_t (F_t 0 0) (F_t 2 0) (F_t 3 0) (F_t 4 0) (F_t 5 0) (F_t 6 0) (F_t 7 0) (F_t 8 0) (F_t 9 0) (F_t 10 0) (F_t 11 0) (F_t 12 0) (F_t 15 0) (F_t 16 0) (F_t 17 0) o.2.2.2 (F_t 27 0) (F_t 28 0) (F_t 30 0), ia g (Q_t 20) 174 o.2.1, ia g (Q_t 22) 3480 o.2.2.1]) args s 0 0 A) 2 0 [oX10 q_t Q_t (F_t 0 0) (F_t 2 0) (F_t 3 0) (F_t 4 0) (F_t 5 0) (F_t 6 0) (F_t 7 0) (F_t 8 0) (F_t 9 0) (F_t 10 0) (F_t 11 0) (F_t 12 0) (F_t 15 0) (F_t 16 0) (F_t 17 0) (F_t 23 0) (F_t 27 0) (F_t 28 0) (F_t 30 0), ia g (Q_t 20) 174 (F_t 20), ia g (Q_t 22) 3480 (F_t 22)] [(0, .ref q_t), (1, .int x1)] [] := by
  obtain ⟨⟨hx, hb, hml, hown, hts⟩, hr, hK, hA, hlk⟩ := id E
  intro H locs ls hP hD hS hl
  refine lv_iload_n hx hb dX10_letIn_0 rfl (lv_at hl 1 rfl) ?_
  refine lv_iconst (v := (1 : Int32)) hx hb dX10_letIn_1 (by decide) ?_
  refine lv_sipush (v := (255 : Int32)) hx hb dX10_letIn_2 (by decide) ?_
  obtain ⟨v_1, hv_1, h⟩ := ox_bind h
  refine kSi ⟨hx, hb, hml, hown, hts⟩ (c_X10_in l g x1 (1 : Int32) (255 : Int32) v_1 hv_1 H.size) (gS u_ml_X10_83 u_st_X10_in u_ini_X10 u_co_X10_in) hd_X10_in ⟨rfl, rfl⟩ hK hP hD hS hA [] [0, 1, 2] rfl rfl 0 rfl (w2 := [oX10 q_t Q_t (F_t 0 0) (F_t 2 0) (F_t 3 0) (F_t 4 0) (F_t 5 0) (F_t 6 0) (F_t 7 0) (F_t 8 0) (F_t 9 0) (F_t 10 0) (F_t 11 0) (F_t 12 0) (F_t 15 0) (F_t 16 0) (F_t 17 0) (F_t 23 0) (F_t 27 0) (F_t 28 0) (F_t 30 0), ia g (Q_t 20) 174 (F_t 20), ia g (Q_t 22) 3480 (F_t 22)]) rfl rfl (As := [.int x1, .int (1 : Int32), .int (255 : Int32)]) (rest := []) rfl hl.1 rfl rfl dX10_letIn_5 (fun H locs hP hD hS => ?_)
  refine lv_if_ne (tgt := 14) hx hb dX10_letIn_8 (by decide) (fun c_2 => ?_) (fun c_2 => ?_)
  · have h := ox_f c_2 h
    refine lv_aload_n hx hb dX10_letIn_14 rfl (lv_at hl 0 rfl) ?_
    refine va_get (ci := 10) (v := .int (F_t 16 0)) (C := RX10) (T := TX10) (N := 38) hx hb hts (fun w h => .tail _ (u_inX10 w h)) hown hK.1 hP 0 rfl rfl 16 (by decide) (hts _ (.tail _ u_fl_X10_80)) (fun _ h9 => h9) rfl dX10_letIn_15 ?_
    refine lv_if_ne (tgt := 24) hx hb dX10_letIn_18 (by decide) (fun c_3 => ?_) (fun c_3 => ?_)
    · have h := ox_f c_3 h
      refine lv_aload_n hx hb dX10_letIn_24 rfl (lv_at hl 0 rfl) ?_
      obtain ⟨v_4, hv_4, h⟩ := ox_bind h
      refine kVv ⟨hx, hb, hml, hown, hts⟩ (c_X10_note l g q_t Q_t N F_t v_4 hv_4 H.size) (gV u_ml_X10_206 u_im_X10_note u_se_X10_note u_ini_X10 u_co_X10_note) hd_X10_note ⟨rfl, rfl⟩ hK hP hD hS hA 0 10 rfl rfl [0, 1, 2] [0, 1, 2] rfl rfl 3 rfl (w2 := [oX10 q_t Q_t (F_t 0 0) (F_t 2 0) (F_t 3 0) (F_t 4 0) (F_t 5 0) (F_t 6 0) (F_t 7 0) (F_t 8 0) (F_t 9 0) (F_t 10 0) (F_t 11 0) (F_t 12 0) (F_t 15 0) (F_t 16 0) (F_t 17 0) v_4.2 (F_t 27 0) (F_t 28 0) (F_t 30 0), ia g (Q_t 20) 174 (F_t 20), ia g (Q_t 22) 3480 v_4.1]) rfl rfl (As := []) (rest := []) rfl hl.1 rfl rfl dX10_letIn_25 (fun H locs hP hD hS => ?_)
      refine lv_aload_n hx hb dX10_letIn_28 rfl (lv_at hl 0 rfl) ?_
      refine va_get (ci := 10) (v := .ref (Q_t 20)) (C := RX10) (T := TX10) (N := 38) hx hb hts (fun w h => .tail _ (u_inX10 w h)) hown hK.1 hP 0 rfl rfl 20 (by decide) (hts _ (.tail _ u_fl_X10_29)) (fun _ h9 => h9) rfl dX10_letIn_29 ?_
      refine lv_iconst (v := (0 : Int32)) hx hb dX10_letIn_32 (by decide) ?_
      refine lv_aload_n hx hb dX10_letIn_33 rfl (lv_at hl 0 rfl) ?_
      refine va_get (ci := 10) (v := .ref (Q_t 20)) (C := RX10) (T := TX10) (N := 38) hx hb hts (fun w h => .tail _ (u_inX10 w h)) hown hK.1 hP 0 rfl rfl 20 (by decide) (hts _ (.tail _ u_fl_X10_29)) (fun _ h9 => h9) rfl dX10_letIn_34 ?_
      refine lv_iconst (v := (0 : Int32)) hx hb dX10_letIn_37 (by decide) ?_
      refine va_iald hx hb hK.1 hP 1 0 rfl rfl (by unfold vp_in; decide) dX10_letIn_38 ?_
      refine lv_iload_n hx hb dX10_letIn_39 rfl (lv_at hl 1 rfl) ?_
      refine lv_ior hx hb dX10_letIn_40 ?_
      refine lv_topi (fun y_5 ey_5 => ?_)
      have h := xl_at ey_5 h
      refine va_iast hx hb hK.1 hP hD hS 1 0 rfl rfl (by unfold vp_in; decide) dX10_letIn_41 (fun H locs hP hD hS => ?_)
      have hP : va_P g.1 vwCl [oX10 q_t Q_t (F_t 0 0) (F_t 2 0) (F_t 3 0) (F_t 4 0) (F_t 5 0) (F_t 6 0) (F_t 7 0) (F_t 8 0) (F_t 9 0) (F_t 10 0) (F_t 11 0) (F_t 12 0) (F_t 15 0) (F_t 16 0) (F_t 17 0) v_4.2 (F_t 27 0) (F_t 28 0) (F_t 30 0), ia g (Q_t 20) 174 (upd (F_t 20) (0 : Int32).toNatClampNeg y_5), ia g (Q_t 22) 3480 v_4.1] H := hP
      have hD : va_D A [oX10 q_t Q_t (F_t 0 0) (F_t 2 0) (F_t 3 0) (F_t 4 0) (F_t 5 0) (F_t 6 0) (F_t 7 0) (F_t 8 0) (F_t 9 0) (F_t 10 0) (F_t 11 0) (F_t 12 0) (F_t 15 0) (F_t 16 0) (F_t 17 0) v_4.2 (F_t 27 0) (F_t 28 0) (F_t 30 0), ia g (Q_t 20) 174 (upd (F_t 20) (0 : Int32).toNatClampNeg y_5), ia g (Q_t 22) 3480 v_4.1] := hD
      refine lv_aload_n hx hb dX10_letIn_42 rfl (lv_at hl 0 rfl) ?_
      refine va_get (ci := 10) (v := .ref (Q_t 20)) (C := RX10) (T := TX10) (N := 38) hx hb hts (fun w h => .tail _ (u_inX10 w h)) hown hK.1 hP 0 rfl rfl 20 (by decide) (hts _ (.tail _ u_fl_X10_29)) (fun _ h9 => h9) rfl dX10_letIn_43 ?_
      refine lv_iconst (v := (0 : Int32)) hx hb dX10_letIn_46 (by decide) ?_
      refine va_iald hx hb hK.1 hP 1 0 rfl rfl (by unfold vp_in; decide) dX10_letIn_47 ?_
      obtain rfl := Option.some.inj h
      exact k_iret hx hb hr hlk hP hD hS dX10_letIn_48
    · have h := ox_t c_3 h
      refine lv_ldc (v := (-1000000003 : Int32)) hx hb hown (hts _ (.tail _ u_k_X10_205)) dX10_letIn_21 ?_
      obtain rfl := Option.some.inj h
      exact k_iret hx hb hr hlk hP hD hS dX10_letIn_23
  · have h := ox_t c_2 h
    refine lv_ldc (v := (-1000000002 : Int32)) hx hb hown (hts _ (.tail _ u_k_X10_90)) dX10_letIn_11 ?_
    obtain rfl := Option.some.inj h
    exact k_iret hx hb hr hlk hP hD hS dX10_letIn_13
set_option maxRecDepth 100000 in
theorem c_X10_letIn (l : Launch) (g : gG) (q_t : Nat) (Q_t : Ad) (N : Nat) (F_t : St) (x1 : Int32) (o : Int32 × (Nat → Int32) × (Nat → Int32) × Int32) (h : x_X10_letIn N F_t x1 = some o) (sz : Nat) : MetI l yX10_letIn (.code yX10_letIn cX10_letIn 2 (some .int) :: gW) 2 45 [.ref q_t, .int x1] o.1 g [oX10 q_t Q_t (F_t 0 0) (F_t 2 0) (F_t 3 0) (F_t 4 0) (F_t 5 0) (F_t 6 0) (F_t 7 0) (F_t 8 0) (F_t 9 0) (F_t 10 0) (F_t 11 0) (F_t 12 0) (F_t 15 0) (F_t 16 0) (F_t 17 0) (F_t 23 0) (F_t 27 0) (F_t 28 0) (F_t 30 0), ia g (Q_t 20) 174 (F_t 20), ia g (Q_t 22) 3480 (F_t 22)] [oX10 q_t Q_t (F_t 0 0) (F_t 2 0) (F_t 3 0) (F_t 4 0) (F_t 5 0) (F_t 6 0) (F_t 7 0) (F_t 8 0) (F_t 9 0) (F_t 10 0) (F_t 11 0) (F_t 12 0) (F_t 15 0) (F_t 16 0) (F_t 17 0) o.2.2.2 (F_t 27 0) (F_t 28 0) (F_t 30 0), ia g (Q_t 20) 174 o.2.1, ia g (Q_t 22) 3480 o.2.2.1] sz :=
  mkI (av := [.ref q_t, .int x1]) (by decide +kernel) rfl (fun p e s m below meth c A E H locs ls hP hD hS hl => t_X10_letIn E q_t Q_t N F_t x1 o h H locs ls hP hD hS hl) sz
def x_X10_hour_b46 (N : Nat) (F_t : St) (x1 : Int32) (x2 : Int32) : Option ((Int32 × (Nat → Int32)) ⊕ ((Nat → Int32))) :=
  if x1 ≤ x2 then (some (.inr (F_t 20))) else (Option.bind (x_X10_passHour N F_t (F_t 20)) (fun v_7 => some (.inl ((x2 + (1 : Int32)), v_7))))
set_option maxHeartbeats 4000000 in
set_option maxRecDepth 100000 in
theorem t_X10_hour_b46 {p : Program} {l : Launch} {e : Env} {s : State} {m : MethodId} {args : Array Value} {below : List Frame} {meth : Method} {c : Code} {g : gG} {A : Nat → Prop} {Q : State → Prop} (E : En p s m args meth c g A cX10_hour 3 (.code yX10_hour cX10_hour 3 (some .int) :: gW) RX10 (some .int)) (q_t : Nat) (Q_t : Ad) (N : Nat) (F_t : St) (x1 : Int32) (x2 : Int32) (o : (Int32 × (Nat → Int32)) ⊕ ((Nat → Int32))) (h : x_X10_hour_b46 N F_t x1 x2 = some o) (hc : ∀ z, o = .inl z → WA p l e (rM 3 71) s m args below meth c g A Q 3 46 [oX10 q_t Q_t (F_t 0 0) (F_t 2 0) (F_t 3 0) (F_t 4 0) (F_t 5 0) (F_t 6 0) (F_t 7 0) (F_t 8 0) (F_t 9 0) (F_t 10 0) (F_t 11 0) (F_t 12 0) (F_t 15 0) (F_t 16 0) (F_t 17 0) (F_t 23 0) (F_t 27 0) (F_t 28 0) (F_t 30 0), ia g (Q_t 18) 16 (F_t 18), ia g (Q_t 19) 30 (F_t 19), ia g (Q_t 20) 174 z.2, ia g (Q_t 22) 3480 (F_t 22)] [(0, .ref q_t), (1, .int x1), (2, .int z.1)] []) (he : ∀ v, o = .inr v → WA p l e (rM 3 71) s m args below meth c g A Q 3 65 [oX10 q_t Q_t (F_t 0 0) (F_t 2 0) (F_t 3 0) (F_t 4 0) (F_t 5 0) (F_t 6 0) (F_t 7 0) (F_t 8 0) (F_t 9 0) (F_t 10 0) (F_t 11 0) (F_t 12 0) (F_t 15 0) (F_t 16 0) (F_t 17 0) (F_t 23 0) (F_t 27 0) (F_t 28 0) (F_t 30 0), ia g (Q_t 18) 16 (F_t 18), ia g (Q_t 19) 30 (F_t 19), ia g (Q_t 20) 174 v, ia g (Q_t 22) 3480 (F_t 22)] [(0, .ref q_t)] []) : WA p l e (rM 3 71) s m args below meth c g A Q 3 46 [oX10 q_t Q_t (F_t 0 0) (F_t 2 0) (F_t 3 0) (F_t 4 0) (F_t 5 0) (F_t 6 0) (F_t 7 0) (F_t 8 0) (F_t 9 0) (F_t 10 0) (F_t 11 0) (F_t 12 0) (F_t 15 0) (F_t 16 0) (F_t 17 0) (F_t 23 0) (F_t 27 0) (F_t 28 0) (F_t 30 0), ia g (Q_t 18) 16 (F_t 18), ia g (Q_t 19) 30 (F_t 19), ia g (Q_t 20) 174 (F_t 20), ia g (Q_t 22) 3480 (F_t 22)] [(0, .ref q_t), (1, .int x1), (2, .int x2)] [] := by
  obtain ⟨⟨hx, hb, hml, hown, hts⟩, hr, hK, hA, hlk⟩ := id E
  intro H locs ls hP hD hS hl
  refine lv_iload_n hx hb dX10_hour_46 rfl (lv_at hl 2 rfl) ?_
  refine lv_iload_n hx hb dX10_hour_47 rfl (lv_at hl 1 rfl) ?_
  refine lv_icmp_ge (tgt := 65) hx hb dX10_hour_48 (by decide) (fun c_6 => ?_) (fun c_6 => ?_)
  · have h := ox_t c_6 h
    obtain rfl := Option.some.inj h
    exact he _ rfl H locs ls hP hD hS (lv_sub hl [0] rfl)
  · have h := ox_f c_6 h
    refine lv_aload_n hx hb dX10_hour_51 rfl (lv_at hl 0 rfl) ?_
    refine lv_aload_n hx hb dX10_hour_52 rfl (lv_at hl 0 rfl) ?_
    refine va_get (ci := 10) (v := .ref (Q_t 20)) (C := RX10) (T := TX10) (N := 38) hx hb hts (fun w h => .tail _ (u_inX10 w h)) hown hK.1 hP 0 rfl rfl 20 (by decide) (hts _ (.tail _ u_fl_X10_29)) (fun _ h9 => h9) rfl dX10_hour_53 ?_
    obtain ⟨v_7, hv_7, h⟩ := ox_bind h
    refine kVv ⟨hx, hb, hml, hown, hts⟩ (c_X10_passHour l g q_t Q_t (Q_t 20) N F_t (F_t 20) v_7 hv_7 H.size) (gV u_ml_X10_209 u_im_X10_passHour u_se_X10_passHour u_ini_X10 u_co_X10_passHour) hd_X10_passHour ⟨rfl, rfl⟩ hK hP hD hS hA 0 10 rfl rfl [0, 1, 2, 3] [0, 1, 2, 3, 8] rfl rfl 4 rfl (w2 := [oX10 q_t Q_t (F_t 0 0) (F_t 2 0) (F_t 3 0) (F_t 4 0) (F_t 5 0) (F_t 6 0) (F_t 7 0) (F_t 8 0) (F_t 9 0) (F_t 10 0) (F_t 11 0) (F_t 12 0) (F_t 15 0) (F_t 16 0) (F_t 17 0) (F_t 23 0) (F_t 27 0) (F_t 28 0) (F_t 30 0), ia g (Q_t 18) 16 (F_t 18), ia g (Q_t 19) 30 (F_t 19), ia g (Q_t 20) 174 v_7, ia g (Q_t 22) 3480 (F_t 22)]) rfl rfl (As := [.ref (Q_t 20)]) (rest := []) rfl hl.1 rfl rfl dX10_hour_56 (fun H locs hP hD hS => ?_)
    refine lv_iinc (v := (x2 + (1 : Int32))) (lv' := [(2, .int (x2 + (1 : Int32))), (0, .ref q_t), (1, .int x1)]) hx hb dX10_hour_59 hl (k := 2) rfl rfl (by decide) rfl (fun ls hl => ?_)
    refine lv_goto (tgt := 46) hx hb dX10_hour_62 (by decide) ?_
    obtain rfl := Option.some.inj h
    exact hc _ rfl H locs ls hP hD hS (lv_sub hl [1, 2, 0] rfl)
def x_X10_hour (N : Nat) (F_t : St) (x1 : Int32) : Option (Int32 × (Nat → Int32) × (Nat → Int32) × Int32) :=
  Option.bind (x_X10_in x1 (1 : Int32) (60 : Int32)) (fun v_1 => if v_1 = 0 then (some ((-1000000002 : Int32), (F_t 20), (F_t 22), (F_t 23 0))) else (if (F_t 16 0) = 0 then (some ((-1000000003 : Int32), (F_t 20), (F_t 22), (F_t 23 0))) else (if ((F_t 20) (173 : Int32).toNatClampNeg) ≤ (9000 : Int32) then (Option.bind (x_X10_note N F_t) (fun v_5 => Option.bind (lpc (fun (z : Int32 × (Nat → Int32)) => x_X10_hour_b46 N (va_up (va_up (va_up F_t 20 z.2) 22 v_5.1) 23 (fun _ => v_5.2)) x1 z.1) N ((0 : Int32), (F_t 20))) (fun v_8 => some ((v_8 (173 : Int32).toNatClampNeg), v_8, v_5.1, v_5.2)))) else (some ((-1000000004 : Int32), (F_t 20), (F_t 22), (F_t 23 0))))))
set_option maxHeartbeats 4000000 in
set_option maxRecDepth 100000 in
theorem t_X10_hour {p : Program} {l : Launch} {e : Env} {s : State} {m : MethodId} {args : Array Value} {below : List Frame} {meth : Method} {c : Code} {g : gG} {A : Nat → Prop} (E : En p s m args meth c g A cX10_hour 3 (.code yX10_hour cX10_hour 3 (some .int) :: gW) RX10 (some .int)) (q_t : Nat) (Q_t : Ad) (N : Nat) (F_t : St) (x1 : Int32) (o : Int32 × (Nat → Int32) × (Nat → Int32) × Int32) (h : x_X10_hour N F_t x1 = some o) : WA p l e (rM 3 71) s m args below meth c g A (MQ below (QI g A o.1 [oX10 q_t Q_t (F_t 0 0) (F_t 2 0) (F_t 3 0) (F_t 4 0) (F_t 5 0) (F_t 6 0) (F_t 7 0) (F_t 8 0) (F_t 9 0) (F_t 10 0) (F_t 11 0) (F_t 12 0) (F_t 15 0) (F_t 16 0) (F_t 17 0) o.2.2.2 (F_t 27 0) (F_t 28 0) (F_t 30 0), ia g (Q_t 18) 16 (F_t 18), ia g (Q_t 19) 30 (F_t 19), ia g (Q_t 20) 174 o.2.1, ia g (Q_t 22) 3480 o.2.2.1]) args s 0 0 A) 3 0 [oX10 q_t Q_t (F_t 0 0) (F_t 2 0) (F_t 3 0) (F_t 4 0) (F_t 5 0) (F_t 6 0) (F_t 7 0) (F_t 8 0) (F_t 9 0) (F_t 10 0) (F_t 11 0) (F_t 12 0) (F_t 15 0) (F_t 16 0) (F_t 17 0) (F_t 23 0) (F_t 27 0) (F_t 28 0) (F_t 30 0), ia g (Q_t 18) 16 (F_t 18), ia g (Q_t 19) 30 (F_t 19), ia g (Q_t 20) 174 (F_t 20), ia g (Q_t 22) 3480 (F_t 22)] [(0, .ref q_t), (1, .int x1)] [] := by
  obtain ⟨⟨hx, hb, hml, hown, hts⟩, hr, hK, hA, hlk⟩ := id E
  intro H locs ls hP hD hS hl
  refine lv_iload_n hx hb dX10_hour_0 rfl (lv_at hl 1 rfl) ?_
  refine lv_iconst (v := (1 : Int32)) hx hb dX10_hour_1 (by decide) ?_
  refine lv_bipush (v := (60 : Int32)) hx hb dX10_hour_2 (by decide) ?_
  obtain ⟨v_1, hv_1, h⟩ := ox_bind h
  refine kSi ⟨hx, hb, hml, hown, hts⟩ (c_X10_in l g x1 (1 : Int32) (60 : Int32) v_1 hv_1 H.size) (gS u_ml_X10_83 u_st_X10_in u_ini_X10 u_co_X10_in) hd_X10_in ⟨rfl, rfl⟩ hK hP hD hS hA [] [0, 1, 2, 3, 4] rfl rfl 0 rfl (w2 := [oX10 q_t Q_t (F_t 0 0) (F_t 2 0) (F_t 3 0) (F_t 4 0) (F_t 5 0) (F_t 6 0) (F_t 7 0) (F_t 8 0) (F_t 9 0) (F_t 10 0) (F_t 11 0) (F_t 12 0) (F_t 15 0) (F_t 16 0) (F_t 17 0) (F_t 23 0) (F_t 27 0) (F_t 28 0) (F_t 30 0), ia g (Q_t 18) 16 (F_t 18), ia g (Q_t 19) 30 (F_t 19), ia g (Q_t 20) 174 (F_t 20), ia g (Q_t 22) 3480 (F_t 22)]) rfl rfl (As := [.int x1, .int (1 : Int32), .int (60 : Int32)]) (rest := []) rfl hl.1 rfl rfl dX10_hour_4 (fun H locs hP hD hS => ?_)
  refine lv_if_ne (tgt := 13) hx hb dX10_hour_7 (by decide) (fun c_2 => ?_) (fun c_2 => ?_)
  · have h := ox_f c_2 h
    refine lv_aload_n hx hb dX10_hour_13 rfl (lv_at hl 0 rfl) ?_
    refine va_get (ci := 10) (v := .int (F_t 16 0)) (C := RX10) (T := TX10) (N := 38) hx hb hts (fun w h => .tail _ (u_inX10 w h)) hown hK.1 hP 0 rfl rfl 16 (by decide) (hts _ (.tail _ u_fl_X10_80)) (fun _ h9 => h9) rfl dX10_hour_14 ?_
    refine lv_if_ne (tgt := 23) hx hb dX10_hour_17 (by decide) (fun c_3 => ?_) (fun c_3 => ?_)
    · have h := ox_f c_3 h
      refine lv_aload_n hx hb dX10_hour_23 rfl (lv_at hl 0 rfl) ?_
      refine va_get (ci := 10) (v := .ref (Q_t 20)) (C := RX10) (T := TX10) (N := 38) hx hb hts (fun w h => .tail _ (u_inX10 w h)) hown hK.1 hP 0 rfl rfl 20 (by decide) (hts _ (.tail _ u_fl_X10_29)) (fun _ h9 => h9) rfl dX10_hour_24 ?_
      refine lv_sipush (v := (173 : Int32)) hx hb dX10_hour_27 (by decide) ?_
      refine va_iald hx hb hK.1 hP 3 0 rfl rfl (by unfold vp_in; decide) dX10_hour_30 ?_
      refine lv_sipush (v := (9000 : Int32)) hx hb dX10_hour_31 (by decide) ?_
      refine lv_icmp_le (tgt := 40) hx hb dX10_hour_34 (by decide) (fun c_4 => ?_) (fun c_4 => ?_)
      · have h := ox_t c_4 h
        refine lv_aload_n hx hb dX10_hour_40 rfl (lv_at hl 0 rfl) ?_
        obtain ⟨v_5, hv_5, h⟩ := ox_bind h
        refine kVv ⟨hx, hb, hml, hown, hts⟩ (c_X10_note l g q_t Q_t N F_t v_5 hv_5 H.size) (gV u_ml_X10_206 u_im_X10_note u_se_X10_note u_ini_X10 u_co_X10_note) hd_X10_note ⟨rfl, rfl⟩ hK hP hD hS hA 0 10 rfl rfl [0, 3, 4] [0, 4, 5, 1, 2] rfl rfl 3 rfl (w2 := [oX10 q_t Q_t (F_t 0 0) (F_t 2 0) (F_t 3 0) (F_t 4 0) (F_t 5 0) (F_t 6 0) (F_t 7 0) (F_t 8 0) (F_t 9 0) (F_t 10 0) (F_t 11 0) (F_t 12 0) (F_t 15 0) (F_t 16 0) (F_t 17 0) v_5.2 (F_t 27 0) (F_t 28 0) (F_t 30 0), ia g (Q_t 18) 16 (F_t 18), ia g (Q_t 19) 30 (F_t 19), ia g (Q_t 20) 174 (F_t 20), ia g (Q_t 22) 3480 v_5.1]) rfl rfl (As := []) (rest := []) rfl hl.1 rfl rfl dX10_hour_41 (fun H locs hP hD hS => ?_)
        refine lv_iconst (v := (0 : Int32)) hx hb dX10_hour_44 (by decide) ?_
        refine lv_istore_n (lv' := [(2, .int (0 : Int32)), (0, .ref q_t), (1, .int x1)]) hx hb dX10_hour_45 rfl hl (by decide) rfl (fun ls hl => ?_)
        obtain ⟨v_8, hv_8, h⟩ := ox_bind h
        refine lpc_W (Wh := fun (z : Int32 × (Nat → Int32)) => WA p l e (rM 3 71) s m args below meth c g A (MQ below (QI g A o.1 [oX10 q_t Q_t (F_t 0 0) (F_t 2 0) (F_t 3 0) (F_t 4 0) (F_t 5 0) (F_t 6 0) (F_t 7 0) (F_t 8 0) (F_t 9 0) (F_t 10 0) (F_t 11 0) (F_t 12 0) (F_t 15 0) (F_t 16 0) (F_t 17 0) o.2.2.2 (F_t 27 0) (F_t 28 0) (F_t 30 0), ia g (Q_t 18) 16 (F_t 18), ia g (Q_t 19) 30 (F_t 19), ia g (Q_t 20) 174 o.2.1, ia g (Q_t 22) 3480 o.2.2.1]) args s 0 0 A) 3 46 [oX10 q_t Q_t (F_t 0 0) (F_t 2 0) (F_t 3 0) (F_t 4 0) (F_t 5 0) (F_t 6 0) (F_t 7 0) (F_t 8 0) (F_t 9 0) (F_t 10 0) (F_t 11 0) (F_t 12 0) (F_t 15 0) (F_t 16 0) (F_t 17 0) v_5.2 (F_t 27 0) (F_t 28 0) (F_t 30 0), ia g (Q_t 18) 16 (F_t 18), ia g (Q_t 19) 30 (F_t 19), ia g (Q_t 20) 174 z.2, ia g (Q_t 22) 3480 v_5.1] [(0, .ref q_t), (1, .int x1), (2, .int z.1)] []) (We := fun (v : (Nat → Int32)) => WA p l e (rM 3 71) s m args below meth c g A (MQ below (QI g A o.1 [oX10 q_t Q_t (F_t 0 0) (F_t 2 0) (F_t 3 0) (F_t 4 0) (F_t 5 0) (F_t 6 0) (F_t 7 0) (F_t 8 0) (F_t 9 0) (F_t 10 0) (F_t 11 0) (F_t 12 0) (F_t 15 0) (F_t 16 0) (F_t 17 0) o.2.2.2 (F_t 27 0) (F_t 28 0) (F_t 30 0), ia g (Q_t 18) 16 (F_t 18), ia g (Q_t 19) 30 (F_t 19), ia g (Q_t 20) 174 o.2.1, ia g (Q_t 22) 3480 o.2.2.1]) args s 0 0 A) 3 65 [oX10 q_t Q_t (F_t 0 0) (F_t 2 0) (F_t 3 0) (F_t 4 0) (F_t 5 0) (F_t 6 0) (F_t 7 0) (F_t 8 0) (F_t 9 0) (F_t 10 0) (F_t 11 0) (F_t 12 0) (F_t 15 0) (F_t 16 0) (F_t 17 0) v_5.2 (F_t 27 0) (F_t 28 0) (F_t 30 0), ia g (Q_t 18) 16 (F_t 18), ia g (Q_t 19) 30 (F_t 19), ia g (Q_t 20) 174 v, ia g (Q_t 22) 3480 v_5.1] [(0, .ref q_t)] []) (fun z r hb hc he => t_X10_hour_b46 E q_t Q_t N (va_up (va_up (va_up F_t 20 z.2) 22 v_5.1) 23 (fun _ => v_5.2)) x1 z.1 r hb hc he) N ((0 : Int32), (F_t 20)) v_8 hv_8 ?_ H locs ls hP hD hS (lv_sub hl [1, 2, 0] rfl)
        intro H locs ls hP hD hS hl
        refine lv_aload_n hx hb dX10_hour_65 rfl (lv_at hl 0 rfl) ?_
        refine va_get (ci := 10) (v := .ref (Q_t 20)) (C := RX10) (T := TX10) (N := 38) hx hb hts (fun w h => .tail _ (u_inX10 w h)) hown hK.1 hP 0 rfl rfl 20 (by decide) (hts _ (.tail _ u_fl_X10_29)) (fun _ h9 => h9) rfl dX10_hour_66 ?_
        refine lv_sipush (v := (173 : Int32)) hx hb dX10_hour_69 (by decide) ?_
        refine va_iald hx hb hK.1 hP 3 0 rfl rfl (by unfold vp_in; decide) dX10_hour_72 ?_
        obtain rfl := Option.some.inj h
        exact k_iret hx hb hr hlk hP hD hS dX10_hour_73
      · have h := ox_f c_4 h
        refine lv_ldc (v := (-1000000004 : Int32)) hx hb hown (hts _ (.tail _ u_k_X10_94)) dX10_hour_37 ?_
        obtain rfl := Option.some.inj h
        exact k_iret hx hb hr hlk hP hD hS dX10_hour_39
    · have h := ox_t c_3 h
      refine lv_ldc (v := (-1000000003 : Int32)) hx hb hown (hts _ (.tail _ u_k_X10_205)) dX10_hour_20 ?_
      obtain rfl := Option.some.inj h
      exact k_iret hx hb hr hlk hP hD hS dX10_hour_22
  · have h := ox_t c_2 h
    refine lv_ldc (v := (-1000000002 : Int32)) hx hb hown (hts _ (.tail _ u_k_X10_90)) dX10_hour_10 ?_
    obtain rfl := Option.some.inj h
    exact k_iret hx hb hr hlk hP hD hS dX10_hour_12
set_option maxRecDepth 100000 in
theorem c_X10_hour (l : Launch) (g : gG) (q_t : Nat) (Q_t : Ad) (N : Nat) (F_t : St) (x1 : Int32) (o : Int32 × (Nat → Int32) × (Nat → Int32) × Int32) (h : x_X10_hour N F_t x1 = some o) (sz : Nat) : MetI l yX10_hour (.code yX10_hour cX10_hour 3 (some .int) :: gW) 3 71 [.ref q_t, .int x1] o.1 g [oX10 q_t Q_t (F_t 0 0) (F_t 2 0) (F_t 3 0) (F_t 4 0) (F_t 5 0) (F_t 6 0) (F_t 7 0) (F_t 8 0) (F_t 9 0) (F_t 10 0) (F_t 11 0) (F_t 12 0) (F_t 15 0) (F_t 16 0) (F_t 17 0) (F_t 23 0) (F_t 27 0) (F_t 28 0) (F_t 30 0), ia g (Q_t 18) 16 (F_t 18), ia g (Q_t 19) 30 (F_t 19), ia g (Q_t 20) 174 (F_t 20), ia g (Q_t 22) 3480 (F_t 22)] [oX10 q_t Q_t (F_t 0 0) (F_t 2 0) (F_t 3 0) (F_t 4 0) (F_t 5 0) (F_t 6 0) (F_t 7 0) (F_t 8 0) (F_t 9 0) (F_t 10 0) (F_t 11 0) (F_t 12 0) (F_t 15 0) (F_t 16 0) (F_t 17 0) o.2.2.2 (F_t 27 0) (F_t 28 0) (F_t 30 0), ia g (Q_t 18) 16 (F_t 18), ia g (Q_t 19) 30 (F_t 19), ia g (Q_t 20) 174 o.2.1, ia g (Q_t 22) 3480 o.2.2.1] sz :=
  mkI (av := [.ref q_t, .int x1]) (by decide +kernel) rfl (fun p e s m below meth c A E H locs ls hP hD hS hl => t_X10_hour E q_t Q_t N F_t x1 o h H locs ls hP hD hS hl) sz
def x_X10_gate_k68 (N : Nat) (F_t : St) (x3 : Int32) (s1 : Int32) (s2 : Int32) : Option (Int32 × (Nat → Int32) × (Nat → Int32) × Int32) :=
  if s1 < 0 ∨ 174 ≤ s1.toNatClampNeg then none else some (x3, (upd (F_t 20) s1.toNatClampNeg s2), (F_t 22), (F_t 23 0))
set_option maxHeartbeats 4000000 in
set_option maxRecDepth 100000 in
theorem t_X10_gate_k68 {p : Program} {l : Launch} {e : Env} {s : State} {m : MethodId} {args : Array Value} {below : List Frame} {meth : Method} {c : Code} {g : gG} {A : Nat → Prop} (E : En p s m args meth c g A cX10_gate 4 (.code yX10_gate cX10_gate 4 (some .int) :: gW) RX10 (some .int)) (q_t : Nat) (Q_t : Ad) (N : Nat) (F_t : St) (x3 : Int32) (s1 : Int32) (s2 : Int32) (o : Int32 × (Nat → Int32) × (Nat → Int32) × Int32) (h : x_X10_gate_k68 N F_t x3 s1 s2 = some o) : WA p l e (rM 2 45) s m args below meth c g A (MQ below (QI g A o.1 [oX10 q_t Q_t (F_t 0 0) (F_t 2 0) (F_t 3 0) (F_t 4 0) (F_t 5 0) (F_t 6 0) (F_t 7 0) (F_t 8 0) (F_t 9 0) (F_t 10 0) (F_t 11 0) (F_t 12 0) (F_t 15 0) (F_t 16 0) (F_t 17 0) o.2.2.2 (F_t 27 0) (F_t 28 0) (F_t 30 0), ia g (Q_t 20) 174 o.2.1, ia g (Q_t 22) 3480 o.2.2.1]) args s 0 0 A) 4 68 [oX10 q_t Q_t (F_t 0 0) (F_t 2 0) (F_t 3 0) (F_t 4 0) (F_t 5 0) (F_t 6 0) (F_t 7 0) (F_t 8 0) (F_t 9 0) (F_t 10 0) (F_t 11 0) (F_t 12 0) (F_t 15 0) (F_t 16 0) (F_t 17 0) (F_t 23 0) (F_t 27 0) (F_t 28 0) (F_t 30 0), ia g (Q_t 20) 174 (F_t 20), ia g (Q_t 22) 3480 (F_t 22)] [(3, .int x3)] [.int s2, .int s1, .ref (Q_t 20)] := by
  obtain ⟨⟨hx, hb, hml, hown, hts⟩, hr, hK, hA, hlk⟩ := id E
  intro H locs ls hP hD hS hl
  obtain ⟨hi_1, h⟩ := ox_chk h
  refine va_iast hx hb hK.1 hP hD hS 1 0 rfl rfl hi_1 dX10_gate_68 (fun H locs hP hD hS => ?_)
  have hP : va_P g.1 vwCl [oX10 q_t Q_t (F_t 0 0) (F_t 2 0) (F_t 3 0) (F_t 4 0) (F_t 5 0) (F_t 6 0) (F_t 7 0) (F_t 8 0) (F_t 9 0) (F_t 10 0) (F_t 11 0) (F_t 12 0) (F_t 15 0) (F_t 16 0) (F_t 17 0) (F_t 23 0) (F_t 27 0) (F_t 28 0) (F_t 30 0), ia g (Q_t 20) 174 (upd (F_t 20) s1.toNatClampNeg s2), ia g (Q_t 22) 3480 (F_t 22)] H := hP
  have hD : va_D A [oX10 q_t Q_t (F_t 0 0) (F_t 2 0) (F_t 3 0) (F_t 4 0) (F_t 5 0) (F_t 6 0) (F_t 7 0) (F_t 8 0) (F_t 9 0) (F_t 10 0) (F_t 11 0) (F_t 12 0) (F_t 15 0) (F_t 16 0) (F_t 17 0) (F_t 23 0) (F_t 27 0) (F_t 28 0) (F_t 30 0), ia g (Q_t 20) 174 (upd (F_t 20) s1.toNatClampNeg s2), ia g (Q_t 22) 3480 (F_t 22)] := hD
  refine lv_iload_n hx hb dX10_gate_69 rfl (lv_at hl 0 rfl) ?_
  obtain rfl := Option.some.inj h
  exact k_iret hx hb hr hlk hP hD hS dX10_gate_70
def x_X10_gate (N : Nat) (F_t : St) (x1 : Int32) (x2 : Int32) : Option (Int32 × (Nat → Int32) × (Nat → Int32) × Int32) :=
  Option.bind (x_X10_isChannel F_t x1) (fun v_2 => if v_2 = 0 then (some ((-1000000001 : Int32), (F_t 20), (F_t 22), (F_t 23 0))) else (Option.bind (x_X10_note N F_t) (fun v_4 => xl ((((F_t 20) (172 : Int32).toNatClampNeg) >>> (x1 &&& 31)) &&& (1 : Int32)) (fun y_5 => if x2 = 0 then (x_X10_gate_k68 N (va_up (va_up F_t 22 v_4.1) 23 (fun _ => v_4.2)) y_5 (172 : Int32) (((F_t 20) (172 : Int32).toNatClampNeg) &&& (((1 : Int32) <<< (x1 &&& 31)) ^^^ (-1 : Int32)))) else (x_X10_gate_k68 N (va_up (va_up F_t 22 v_4.1) 23 (fun _ => v_4.2)) y_5 (172 : Int32) (((F_t 20) (172 : Int32).toNatClampNeg) ||| ((1 : Int32) <<< (x1 &&& 31))))))))
set_option maxHeartbeats 4000000 in
set_option maxRecDepth 100000 in
theorem t_X10_gate {p : Program} {l : Launch} {e : Env} {s : State} {m : MethodId} {args : Array Value} {below : List Frame} {meth : Method} {c : Code} {g : gG} {A : Nat → Prop} (E : En p s m args meth c g A cX10_gate 4 (.code yX10_gate cX10_gate 4 (some .int) :: gW) RX10 (some .int)) (q_t : Nat) (Q_t : Ad) (N : Nat) (F_t : St) (x1 : Int32) (x2 : Int32) (o : Int32 × (Nat → Int32) × (Nat → Int32) × Int32) (h : x_X10_gate N F_t x1 x2 = some o) : WA p l e (rM 2 45) s m args below meth c g A (MQ below (QI g A o.1 [oX10 q_t Q_t (F_t 0 0) (F_t 2 0) (F_t 3 0) (F_t 4 0) (F_t 5 0) (F_t 6 0) (F_t 7 0) (F_t 8 0) (F_t 9 0) (F_t 10 0) (F_t 11 0) (F_t 12 0) (F_t 15 0) (F_t 16 0) (F_t 17 0) o.2.2.2 (F_t 27 0) (F_t 28 0) (F_t 30 0), ia g (Q_t 20) 174 o.2.1, ia g (Q_t 22) 3480 o.2.2.1]) args s 0 0 A) 4 0 [oX10 q_t Q_t (F_t 0 0) (F_t 2 0) (F_t 3 0) (F_t 4 0) (F_t 5 0) (F_t 6 0) (F_t 7 0) (F_t 8 0) (F_t 9 0) (F_t 10 0) (F_t 11 0) (F_t 12 0) (F_t 15 0) (F_t 16 0) (F_t 17 0) (F_t 23 0) (F_t 27 0) (F_t 28 0) (F_t 30 0), ia g (Q_t 20) 174 (F_t 20), ia g (Q_t 22) 3480 (F_t 22)] [(0, .ref q_t), (1, .int x1), (2, .int x2)] [] := by
  obtain ⟨⟨hx, hb, hml, hown, hts⟩, hr, hK, hA, hlk⟩ := id E
  intro H locs ls hP hD hS hl
  refine lv_aload_n hx hb dX10_gate_0 rfl (lv_at hl 0 rfl) ?_
  refine lv_iload_n hx hb dX10_gate_1 rfl (lv_at hl 1 rfl) ?_
  obtain ⟨v_2, hv_2, h⟩ := ox_bind h
  refine kVi ⟨hx, hb, hml, hown, hts⟩ (c_X10_isChannel l g q_t Q_t F_t x1 v_2 hv_2 H.size) (gV u_ml_X10_184 u_im_X10_isChannel u_se_X10_isChannel u_ini_X10 u_co_X10_isChannel) hd_X10_isChannel ⟨rfl, rfl⟩ hK hP hD hS hA 0 10 rfl rfl [0] [0, 2, 3] rfl rfl 1 rfl (w2 := [oX10 q_t Q_t (F_t 0 0) (F_t 2 0) (F_t 3 0) (F_t 4 0) (F_t 5 0) (F_t 6 0) (F_t 7 0) (F_t 8 0) (F_t 9 0) (F_t 10 0) (F_t 11 0) (F_t 12 0) (F_t 15 0) (F_t 16 0) (F_t 17 0) (F_t 23 0) (F_t 27 0) (F_t 28 0) (F_t 30 0), ia g (Q_t 20) 174 (F_t 20), ia g (Q_t 22) 3480 (F_t 22)]) rfl rfl (As := [.int x1]) (rest := []) rfl hl.1 rfl rfl dX10_gate_2 (fun H locs hP hD hS => ?_)
  refine lv_if_ne (tgt := 11) hx hb dX10_gate_5 (by decide) (fun c_3 => ?_) (fun c_3 => ?_)
  · have h := ox_f c_3 h
    refine lv_aload_n hx hb dX10_gate_11 rfl (lv_at hl 0 rfl) ?_
    obtain ⟨v_4, hv_4, h⟩ := ox_bind h
    refine kVv ⟨hx, hb, hml, hown, hts⟩ (c_X10_note l g q_t Q_t N F_t v_4 hv_4 H.size) (gV u_ml_X10_206 u_im_X10_note u_se_X10_note u_ini_X10 u_co_X10_note) hd_X10_note ⟨rfl, rfl⟩ hK hP hD hS hA 0 10 rfl rfl [0, 1, 2] [0, 1, 2] rfl rfl 3 rfl (w2 := [oX10 q_t Q_t (F_t 0 0) (F_t 2 0) (F_t 3 0) (F_t 4 0) (F_t 5 0) (F_t 6 0) (F_t 7 0) (F_t 8 0) (F_t 9 0) (F_t 10 0) (F_t 11 0) (F_t 12 0) (F_t 15 0) (F_t 16 0) (F_t 17 0) v_4.2 (F_t 27 0) (F_t 28 0) (F_t 30 0), ia g (Q_t 20) 174 (F_t 20), ia g (Q_t 22) 3480 v_4.1]) rfl rfl (As := []) (rest := []) rfl hl.1 rfl rfl dX10_gate_12 (fun H locs hP hD hS => ?_)
    refine lv_aload_n hx hb dX10_gate_15 rfl (lv_at hl 0 rfl) ?_
    refine va_get (ci := 10) (v := .ref (Q_t 20)) (C := RX10) (T := TX10) (N := 38) hx hb hts (fun w h => .tail _ (u_inX10 w h)) hown hK.1 hP 0 rfl rfl 20 (by decide) (hts _ (.tail _ u_fl_X10_29)) (fun _ h9 => h9) rfl dX10_gate_16 ?_
    refine lv_sipush (v := (172 : Int32)) hx hb dX10_gate_19 (by decide) ?_
    refine va_iald hx hb hK.1 hP 1 0 rfl rfl (by unfold vp_in; decide) dX10_gate_22 ?_
    refine lv_iload_n hx hb dX10_gate_23 rfl (lv_at hl 1 rfl) ?_
    refine lv_ishr hx hb dX10_gate_24 ?_
    refine lv_iconst (v := (1 : Int32)) hx hb dX10_gate_25 (by decide) ?_
    refine lv_iand hx hb dX10_gate_26 ?_
    refine lv_topi (fun y_5 ey_5 => ?_)
    have h := xl_at ey_5 h
    refine lv_istore_n (lv' := [(3, .int y_5), (0, .ref q_t), (1, .int x1), (2, .int x2)]) hx hb dX10_gate_27 rfl hl (by decide) rfl (fun ls hl => ?_)
    refine lv_aload_n hx hb dX10_gate_28 rfl (lv_at hl 1 rfl) ?_
    refine va_get (ci := 10) (v := .ref (Q_t 20)) (C := RX10) (T := TX10) (N := 38) hx hb hts (fun w h => .tail _ (u_inX10 w h)) hown hK.1 hP 0 rfl rfl 20 (by decide) (hts _ (.tail _ u_fl_X10_29)) (fun _ h9 => h9) rfl dX10_gate_29 ?_
    refine lv_sipush (v := (172 : Int32)) hx hb dX10_gate_32 (by decide) ?_
    refine lv_iload_n hx hb dX10_gate_35 rfl (lv_at hl 3 rfl) ?_
    refine lv_if_eq (tgt := 54) hx hb dX10_gate_36 (by decide) (fun c_6 => ?_) (fun c_6 => ?_)
    · have h := ox_t c_6 h
      refine lv_aload_n hx hb dX10_gate_54 rfl (lv_at hl 1 rfl) ?_
      refine va_get (ci := 10) (v := .ref (Q_t 20)) (C := RX10) (T := TX10) (N := 38) hx hb hts (fun w h => .tail _ (u_inX10 w h)) hown hK.1 hP 0 rfl rfl 20 (by decide) (hts _ (.tail _ u_fl_X10_29)) (fun _ h9 => h9) rfl dX10_gate_55 ?_
      refine lv_sipush (v := (172 : Int32)) hx hb dX10_gate_58 (by decide) ?_
      refine va_iald hx hb hK.1 hP 1 0 rfl rfl (by unfold vp_in; decide) dX10_gate_61 ?_
      refine lv_iconst (v := (1 : Int32)) hx hb dX10_gate_62 (by decide) ?_
      refine lv_iload_n hx hb dX10_gate_63 rfl (lv_at hl 2 rfl) ?_
      refine lv_ishl hx hb dX10_gate_64 ?_
      refine lv_iconst (v := (-1 : Int32)) hx hb dX10_gate_65 (by decide) ?_
      refine lv_ixor hx hb dX10_gate_66 ?_
      refine lv_iand hx hb dX10_gate_67 ?_
      exact t_X10_gate_k68 E q_t Q_t N (va_up (va_up F_t 22 v_4.1) 23 (fun _ => v_4.2)) y_5 (172 : Int32) (((F_t 20) (172 : Int32).toNatClampNeg) &&& (((1 : Int32) <<< (x1 &&& 31)) ^^^ (-1 : Int32))) _ h H locs ls hP hD hS (lv_sub hl [0] rfl)
    · have h := ox_f c_6 h
      refine lv_aload_n hx hb dX10_gate_39 rfl (lv_at hl 1 rfl) ?_
      refine va_get (ci := 10) (v := .ref (Q_t 20)) (C := RX10) (T := TX10) (N := 38) hx hb hts (fun w h => .tail _ (u_inX10 w h)) hown hK.1 hP 0 rfl rfl 20 (by decide) (hts _ (.tail _ u_fl_X10_29)) (fun _ h9 => h9) rfl dX10_gate_40 ?_
      refine lv_sipush (v := (172 : Int32)) hx hb dX10_gate_43 (by decide) ?_
      refine va_iald hx hb hK.1 hP 1 0 rfl rfl (by unfold vp_in; decide) dX10_gate_46 ?_
      refine lv_iconst (v := (1 : Int32)) hx hb dX10_gate_47 (by decide) ?_
      refine lv_iload_n hx hb dX10_gate_48 rfl (lv_at hl 2 rfl) ?_
      refine lv_ishl hx hb dX10_gate_49 ?_
      refine lv_ior hx hb dX10_gate_50 ?_
      refine lv_goto (tgt := 68) hx hb dX10_gate_51 (by decide) ?_
      exact t_X10_gate_k68 E q_t Q_t N (va_up (va_up F_t 22 v_4.1) 23 (fun _ => v_4.2)) y_5 (172 : Int32) (((F_t 20) (172 : Int32).toNatClampNeg) ||| ((1 : Int32) <<< (x1 &&& 31))) _ h H locs ls hP hD hS (lv_sub hl [0] rfl)
  · have h := ox_t c_3 h
    refine lv_ldc (v := (-1000000001 : Int32)) hx hb hown (hts _ (.tail _ u_k_X10_183)) dX10_gate_8 ?_
    obtain rfl := Option.some.inj h
    exact k_iret hx hb hr hlk hP hD hS dX10_gate_10
set_option maxRecDepth 100000 in
theorem c_X10_gate (l : Launch) (g : gG) (q_t : Nat) (Q_t : Ad) (N : Nat) (F_t : St) (x1 : Int32) (x2 : Int32) (o : Int32 × (Nat → Int32) × (Nat → Int32) × Int32) (h : x_X10_gate N F_t x1 x2 = some o) (sz : Nat) : MetI l yX10_gate (.code yX10_gate cX10_gate 4 (some .int) :: gW) 2 45 [.ref q_t, .int x1, .int x2] o.1 g [oX10 q_t Q_t (F_t 0 0) (F_t 2 0) (F_t 3 0) (F_t 4 0) (F_t 5 0) (F_t 6 0) (F_t 7 0) (F_t 8 0) (F_t 9 0) (F_t 10 0) (F_t 11 0) (F_t 12 0) (F_t 15 0) (F_t 16 0) (F_t 17 0) (F_t 23 0) (F_t 27 0) (F_t 28 0) (F_t 30 0), ia g (Q_t 20) 174 (F_t 20), ia g (Q_t 22) 3480 (F_t 22)] [oX10 q_t Q_t (F_t 0 0) (F_t 2 0) (F_t 3 0) (F_t 4 0) (F_t 5 0) (F_t 6 0) (F_t 7 0) (F_t 8 0) (F_t 9 0) (F_t 10 0) (F_t 11 0) (F_t 12 0) (F_t 15 0) (F_t 16 0) (F_t 17 0) o.2.2.2 (F_t 27 0) (F_t 28 0) (F_t 30 0), ia g (Q_t 20) 174 o.2.1, ia g (Q_t 22) 3480 o.2.2.1] sz :=
  mkI (av := [.ref q_t, .int x1, .int x2]) (by decide +kernel) rfl (fun p e s m below meth c A E H locs ls hP hD hS hl => t_X10_gate E q_t Q_t N F_t x1 x2 o h H locs ls hP hD hS hl) sz
def x_X10_clear (N : Nat) (F_t : St) (x1 : Int32) : Option (Int32 × (Nat → Int32) × (Nat → Int32) × Int32) :=
  Option.bind (x_X10_isChannel F_t x1) (fun v_1 => if v_1 = 0 then (some ((-1000000001 : Int32), (F_t 20), (F_t 22), (F_t 23 0))) else (Option.bind (x_X10_note N F_t) (fun v_3 => if ((152 : Int32) + x1) < 0 ∨ 174 ≤ ((152 : Int32) + x1).toNatClampNeg then none else xl ((F_t 20) ((152 : Int32) + x1).toNatClampNeg) (fun y_5 => if ((152 : Int32) + x1) < 0 ∨ 174 ≤ ((152 : Int32) + x1).toNatClampNeg then none else some (y_5, (upd (F_t 20) ((152 : Int32) + x1).toNatClampNeg (0 : Int32)), v_3.1, v_3.2)))))
set_option maxHeartbeats 4000000 in
set_option maxRecDepth 100000 in
theorem t_X10_clear {p : Program} {l : Launch} {e : Env} {s : State} {m : MethodId} {args : Array Value} {below : List Frame} {meth : Method} {c : Code} {g : gG} {A : Nat → Prop} (E : En p s m args meth c g A cX10_clear 3 (.code yX10_clear cX10_clear 3 (some .int) :: gW) RX10 (some .int)) (q_t : Nat) (Q_t : Ad) (N : Nat) (F_t : St) (x1 : Int32) (o : Int32 × (Nat → Int32) × (Nat → Int32) × Int32) (h : x_X10_clear N F_t x1 = some o) : WA p l e (rM 2 45) s m args below meth c g A (MQ below (QI g A o.1 [oX10 q_t Q_t (F_t 0 0) (F_t 2 0) (F_t 3 0) (F_t 4 0) (F_t 5 0) (F_t 6 0) (F_t 7 0) (F_t 8 0) (F_t 9 0) (F_t 10 0) (F_t 11 0) (F_t 12 0) (F_t 15 0) (F_t 16 0) (F_t 17 0) o.2.2.2 (F_t 27 0) (F_t 28 0) (F_t 30 0), ia g (Q_t 20) 174 o.2.1, ia g (Q_t 22) 3480 o.2.2.1]) args s 0 0 A) 3 0 [oX10 q_t Q_t (F_t 0 0) (F_t 2 0) (F_t 3 0) (F_t 4 0) (F_t 5 0) (F_t 6 0) (F_t 7 0) (F_t 8 0) (F_t 9 0) (F_t 10 0) (F_t 11 0) (F_t 12 0) (F_t 15 0) (F_t 16 0) (F_t 17 0) (F_t 23 0) (F_t 27 0) (F_t 28 0) (F_t 30 0), ia g (Q_t 20) 174 (F_t 20), ia g (Q_t 22) 3480 (F_t 22)] [(0, .ref q_t), (1, .int x1)] [] := by
  obtain ⟨⟨hx, hb, hml, hown, hts⟩, hr, hK, hA, hlk⟩ := id E
  intro H locs ls hP hD hS hl
  refine lv_aload_n hx hb dX10_clear_0 rfl (lv_at hl 0 rfl) ?_
  refine lv_iload_n hx hb dX10_clear_1 rfl (lv_at hl 1 rfl) ?_
  obtain ⟨v_1, hv_1, h⟩ := ox_bind h
  refine kVi ⟨hx, hb, hml, hown, hts⟩ (c_X10_isChannel l g q_t Q_t F_t x1 v_1 hv_1 H.size) (gV u_ml_X10_184 u_im_X10_isChannel u_se_X10_isChannel u_ini_X10 u_co_X10_isChannel) hd_X10_isChannel ⟨rfl, rfl⟩ hK hP hD hS hA 0 10 rfl rfl [0] [0, 2, 3] rfl rfl 1 rfl (w2 := [oX10 q_t Q_t (F_t 0 0) (F_t 2 0) (F_t 3 0) (F_t 4 0) (F_t 5 0) (F_t 6 0) (F_t 7 0) (F_t 8 0) (F_t 9 0) (F_t 10 0) (F_t 11 0) (F_t 12 0) (F_t 15 0) (F_t 16 0) (F_t 17 0) (F_t 23 0) (F_t 27 0) (F_t 28 0) (F_t 30 0), ia g (Q_t 20) 174 (F_t 20), ia g (Q_t 22) 3480 (F_t 22)]) rfl rfl (As := [.int x1]) (rest := []) rfl hl.1 rfl rfl dX10_clear_2 (fun H locs hP hD hS => ?_)
  refine lv_if_ne (tgt := 11) hx hb dX10_clear_5 (by decide) (fun c_2 => ?_) (fun c_2 => ?_)
  · have h := ox_f c_2 h
    refine lv_aload_n hx hb dX10_clear_11 rfl (lv_at hl 0 rfl) ?_
    obtain ⟨v_3, hv_3, h⟩ := ox_bind h
    refine kVv ⟨hx, hb, hml, hown, hts⟩ (c_X10_note l g q_t Q_t N F_t v_3 hv_3 H.size) (gV u_ml_X10_206 u_im_X10_note u_se_X10_note u_ini_X10 u_co_X10_note) hd_X10_note ⟨rfl, rfl⟩ hK hP hD hS hA 0 10 rfl rfl [0, 1, 2] [0, 1, 2] rfl rfl 3 rfl (w2 := [oX10 q_t Q_t (F_t 0 0) (F_t 2 0) (F_t 3 0) (F_t 4 0) (F_t 5 0) (F_t 6 0) (F_t 7 0) (F_t 8 0) (F_t 9 0) (F_t 10 0) (F_t 11 0) (F_t 12 0) (F_t 15 0) (F_t 16 0) (F_t 17 0) v_3.2 (F_t 27 0) (F_t 28 0) (F_t 30 0), ia g (Q_t 20) 174 (F_t 20), ia g (Q_t 22) 3480 v_3.1]) rfl rfl (As := []) (rest := []) rfl hl.1 rfl rfl dX10_clear_12 (fun H locs hP hD hS => ?_)
    refine lv_aload_n hx hb dX10_clear_15 rfl (lv_at hl 0 rfl) ?_
    refine va_get (ci := 10) (v := .ref (Q_t 20)) (C := RX10) (T := TX10) (N := 38) hx hb hts (fun w h => .tail _ (u_inX10 w h)) hown hK.1 hP 0 rfl rfl 20 (by decide) (hts _ (.tail _ u_fl_X10_29)) (fun _ h9 => h9) rfl dX10_clear_16 ?_
    refine lv_sipush (v := (152 : Int32)) hx hb dX10_clear_19 (by decide) ?_
    refine lv_iload_n hx hb dX10_clear_22 rfl (lv_at hl 1 rfl) ?_
    refine lv_iadd hx hb dX10_clear_23 ?_
    obtain ⟨hi_4, h⟩ := ox_chk h
    refine va_iald hx hb hK.1 hP 1 0 rfl rfl hi_4 dX10_clear_24 ?_
    refine lv_topi (fun y_5 ey_5 => ?_)
    have h := xl_at ey_5 h
    refine lv_istore_n (lv' := [(2, .int y_5), (0, .ref q_t), (1, .int x1)]) hx hb dX10_clear_25 rfl hl (by decide) rfl (fun ls hl => ?_)
    refine lv_aload_n hx hb dX10_clear_26 rfl (lv_at hl 1 rfl) ?_
    refine va_get (ci := 10) (v := .ref (Q_t 20)) (C := RX10) (T := TX10) (N := 38) hx hb hts (fun w h => .tail _ (u_inX10 w h)) hown hK.1 hP 0 rfl rfl 20 (by decide) (hts _ (.tail _ u_fl_X10_29)) (fun _ h9 => h9) rfl dX10_clear_27 ?_
    refine lv_sipush (v := (152 : Int32)) hx hb dX10_clear_30 (by decide) ?_
    refine lv_iload_n hx hb dX10_clear_33 rfl (lv_at hl 2 rfl) ?_
    refine lv_iadd hx hb dX10_clear_34 ?_
    refine lv_iconst (v := (0 : Int32)) hx hb dX10_clear_35 (by decide) ?_
    obtain ⟨hi_6, h⟩ := ox_chk h
    refine va_iast hx hb hK.1 hP hD hS 1 0 rfl rfl hi_6 dX10_clear_36 (fun H locs hP hD hS => ?_)
    have hP : va_P g.1 vwCl [oX10 q_t Q_t (F_t 0 0) (F_t 2 0) (F_t 3 0) (F_t 4 0) (F_t 5 0) (F_t 6 0) (F_t 7 0) (F_t 8 0) (F_t 9 0) (F_t 10 0) (F_t 11 0) (F_t 12 0) (F_t 15 0) (F_t 16 0) (F_t 17 0) v_3.2 (F_t 27 0) (F_t 28 0) (F_t 30 0), ia g (Q_t 20) 174 (upd (F_t 20) ((152 : Int32) + x1).toNatClampNeg (0 : Int32)), ia g (Q_t 22) 3480 v_3.1] H := hP
    have hD : va_D A [oX10 q_t Q_t (F_t 0 0) (F_t 2 0) (F_t 3 0) (F_t 4 0) (F_t 5 0) (F_t 6 0) (F_t 7 0) (F_t 8 0) (F_t 9 0) (F_t 10 0) (F_t 11 0) (F_t 12 0) (F_t 15 0) (F_t 16 0) (F_t 17 0) v_3.2 (F_t 27 0) (F_t 28 0) (F_t 30 0), ia g (Q_t 20) 174 (upd (F_t 20) ((152 : Int32) + x1).toNatClampNeg (0 : Int32)), ia g (Q_t 22) 3480 v_3.1] := hD
    refine lv_iload_n hx hb dX10_clear_37 rfl (lv_at hl 0 rfl) ?_
    obtain rfl := Option.some.inj h
    exact k_iret hx hb hr hlk hP hD hS dX10_clear_38
  · have h := ox_t c_2 h
    refine lv_ldc (v := (-1000000001 : Int32)) hx hb hown (hts _ (.tail _ u_k_X10_183)) dX10_clear_8 ?_
    obtain rfl := Option.some.inj h
    exact k_iret hx hb hr hlk hP hD hS dX10_clear_10
set_option maxRecDepth 100000 in
theorem c_X10_clear (l : Launch) (g : gG) (q_t : Nat) (Q_t : Ad) (N : Nat) (F_t : St) (x1 : Int32) (o : Int32 × (Nat → Int32) × (Nat → Int32) × Int32) (h : x_X10_clear N F_t x1 = some o) (sz : Nat) : MetI l yX10_clear (.code yX10_clear cX10_clear 3 (some .int) :: gW) 2 45 [.ref q_t, .int x1] o.1 g [oX10 q_t Q_t (F_t 0 0) (F_t 2 0) (F_t 3 0) (F_t 4 0) (F_t 5 0) (F_t 6 0) (F_t 7 0) (F_t 8 0) (F_t 9 0) (F_t 10 0) (F_t 11 0) (F_t 12 0) (F_t 15 0) (F_t 16 0) (F_t 17 0) (F_t 23 0) (F_t 27 0) (F_t 28 0) (F_t 30 0), ia g (Q_t 20) 174 (F_t 20), ia g (Q_t 22) 3480 (F_t 22)] [oX10 q_t Q_t (F_t 0 0) (F_t 2 0) (F_t 3 0) (F_t 4 0) (F_t 5 0) (F_t 6 0) (F_t 7 0) (F_t 8 0) (F_t 9 0) (F_t 10 0) (F_t 11 0) (F_t 12 0) (F_t 15 0) (F_t 16 0) (F_t 17 0) o.2.2.2 (F_t 27 0) (F_t 28 0) (F_t 30 0), ia g (Q_t 20) 174 o.2.1, ia g (Q_t 22) 3480 o.2.2.1] sz :=
  mkI (av := [.ref q_t, .int x1]) (by decide +kernel) rfl (fun p e s m below meth c A E H locs ls hP hD hS hl => t_X10_clear E q_t Q_t N F_t x1 o h H locs ls hP hD hS hl) sz
def x_X10_crack_k24 (N : Nat) (F_t : St) (x1 : Int32) (x2 : Int32) : Option (Int32 × (Nat → Int32) × (Nat → Int32) × Int32) :=
  Option.bind (x_X10_note N F_t) (fun v_1 => if ((162 : Int32) + x1) < 0 ∨ 174 ≤ ((162 : Int32) + x1).toNatClampNeg then none else xl ((F_t 20) ((162 : Int32) + x1).toNatClampNeg) (fun y_3 => if ((162 : Int32) + x1) < 0 ∨ 174 ≤ ((162 : Int32) + x1).toNatClampNeg then none else some (y_3, (upd (F_t 20) ((162 : Int32) + x1).toNatClampNeg x2), v_1.1, v_1.2)))
set_option maxHeartbeats 4000000 in
set_option maxRecDepth 100000 in
theorem t_X10_crack_k24 {p : Program} {l : Launch} {e : Env} {s : State} {m : MethodId} {args : Array Value} {below : List Frame} {meth : Method} {c : Code} {g : gG} {A : Nat → Prop} (E : En p s m args meth c g A cX10_crack 4 (.code yX10_crack cX10_crack 4 (some .int) :: gW) RX10 (some .int)) (q_t : Nat) (Q_t : Ad) (N : Nat) (F_t : St) (x1 : Int32) (x2 : Int32) (o : Int32 × (Nat → Int32) × (Nat → Int32) × Int32) (h : x_X10_crack_k24 N F_t x1 x2 = some o) : WA p l e (rM 2 45) s m args below meth c g A (MQ below (QI g A o.1 [oX10 q_t Q_t (F_t 0 0) (F_t 2 0) (F_t 3 0) (F_t 4 0) (F_t 5 0) (F_t 6 0) (F_t 7 0) (F_t 8 0) (F_t 9 0) (F_t 10 0) (F_t 11 0) (F_t 12 0) (F_t 15 0) (F_t 16 0) (F_t 17 0) o.2.2.2 (F_t 27 0) (F_t 28 0) (F_t 30 0), ia g (Q_t 20) 174 o.2.1, ia g (Q_t 22) 3480 o.2.2.1]) args s 0 0 A) 4 24 [oX10 q_t Q_t (F_t 0 0) (F_t 2 0) (F_t 3 0) (F_t 4 0) (F_t 5 0) (F_t 6 0) (F_t 7 0) (F_t 8 0) (F_t 9 0) (F_t 10 0) (F_t 11 0) (F_t 12 0) (F_t 15 0) (F_t 16 0) (F_t 17 0) (F_t 23 0) (F_t 27 0) (F_t 28 0) (F_t 30 0), ia g (Q_t 20) 174 (F_t 20), ia g (Q_t 22) 3480 (F_t 22)] [(0, .ref q_t), (1, .int x1), (2, .int x2)] [] := by
  obtain ⟨⟨hx, hb, hml, hown, hts⟩, hr, hK, hA, hlk⟩ := id E
  intro H locs ls hP hD hS hl
  refine lv_aload_n hx hb dX10_crack_24 rfl (lv_at hl 0 rfl) ?_
  obtain ⟨v_1, hv_1, h⟩ := ox_bind h
  refine kVv ⟨hx, hb, hml, hown, hts⟩ (c_X10_note l g q_t Q_t N F_t v_1 hv_1 H.size) (gV u_ml_X10_206 u_im_X10_note u_se_X10_note u_ini_X10 u_co_X10_note) hd_X10_note ⟨rfl, rfl⟩ hK hP hD hS hA 0 10 rfl rfl [0, 1, 2] [0, 1, 2] rfl rfl 3 rfl (w2 := [oX10 q_t Q_t (F_t 0 0) (F_t 2 0) (F_t 3 0) (F_t 4 0) (F_t 5 0) (F_t 6 0) (F_t 7 0) (F_t 8 0) (F_t 9 0) (F_t 10 0) (F_t 11 0) (F_t 12 0) (F_t 15 0) (F_t 16 0) (F_t 17 0) v_1.2 (F_t 27 0) (F_t 28 0) (F_t 30 0), ia g (Q_t 20) 174 (F_t 20), ia g (Q_t 22) 3480 v_1.1]) rfl rfl (As := []) (rest := []) rfl hl.1 rfl rfl dX10_crack_25 (fun H locs hP hD hS => ?_)
  refine lv_aload_n hx hb dX10_crack_28 rfl (lv_at hl 0 rfl) ?_
  refine va_get (ci := 10) (v := .ref (Q_t 20)) (C := RX10) (T := TX10) (N := 38) hx hb hts (fun w h => .tail _ (u_inX10 w h)) hown hK.1 hP 0 rfl rfl 20 (by decide) (hts _ (.tail _ u_fl_X10_29)) (fun _ h9 => h9) rfl dX10_crack_29 ?_
  refine lv_sipush (v := (162 : Int32)) hx hb dX10_crack_32 (by decide) ?_
  refine lv_iload_n hx hb dX10_crack_35 rfl (lv_at hl 1 rfl) ?_
  refine lv_iadd hx hb dX10_crack_36 ?_
  obtain ⟨hi_2, h⟩ := ox_chk h
  refine va_iald hx hb hK.1 hP 1 0 rfl rfl hi_2 dX10_crack_37 ?_
  refine lv_topi (fun y_3 ey_3 => ?_)
  have h := xl_at ey_3 h
  refine lv_istore_n (lv' := [(3, .int y_3), (0, .ref q_t), (1, .int x1), (2, .int x2)]) hx hb dX10_crack_38 rfl hl (by decide) rfl (fun ls hl => ?_)
  refine lv_aload_n hx hb dX10_crack_39 rfl (lv_at hl 1 rfl) ?_
  refine va_get (ci := 10) (v := .ref (Q_t 20)) (C := RX10) (T := TX10) (N := 38) hx hb hts (fun w h => .tail _ (u_inX10 w h)) hown hK.1 hP 0 rfl rfl 20 (by decide) (hts _ (.tail _ u_fl_X10_29)) (fun _ h9 => h9) rfl dX10_crack_40 ?_
  refine lv_sipush (v := (162 : Int32)) hx hb dX10_crack_43 (by decide) ?_
  refine lv_iload_n hx hb dX10_crack_46 rfl (lv_at hl 2 rfl) ?_
  refine lv_iadd hx hb dX10_crack_47 ?_
  refine lv_iload_n hx hb dX10_crack_48 rfl (lv_at hl 3 rfl) ?_
  obtain ⟨hi_4, h⟩ := ox_chk h
  refine va_iast hx hb hK.1 hP hD hS 1 0 rfl rfl hi_4 dX10_crack_49 (fun H locs hP hD hS => ?_)
  have hP : va_P g.1 vwCl [oX10 q_t Q_t (F_t 0 0) (F_t 2 0) (F_t 3 0) (F_t 4 0) (F_t 5 0) (F_t 6 0) (F_t 7 0) (F_t 8 0) (F_t 9 0) (F_t 10 0) (F_t 11 0) (F_t 12 0) (F_t 15 0) (F_t 16 0) (F_t 17 0) v_1.2 (F_t 27 0) (F_t 28 0) (F_t 30 0), ia g (Q_t 20) 174 (upd (F_t 20) ((162 : Int32) + x1).toNatClampNeg x2), ia g (Q_t 22) 3480 v_1.1] H := hP
  have hD : va_D A [oX10 q_t Q_t (F_t 0 0) (F_t 2 0) (F_t 3 0) (F_t 4 0) (F_t 5 0) (F_t 6 0) (F_t 7 0) (F_t 8 0) (F_t 9 0) (F_t 10 0) (F_t 11 0) (F_t 12 0) (F_t 15 0) (F_t 16 0) (F_t 17 0) v_1.2 (F_t 27 0) (F_t 28 0) (F_t 30 0), ia g (Q_t 20) 174 (upd (F_t 20) ((162 : Int32) + x1).toNatClampNeg x2), ia g (Q_t 22) 3480 v_1.1] := hD
  refine lv_iload_n hx hb dX10_crack_50 rfl (lv_at hl 0 rfl) ?_
  obtain rfl := Option.some.inj h
  exact k_iret hx hb hr hlk hP hD hS dX10_crack_51
def x_X10_crack (N : Nat) (F_t : St) (x1 : Int32) (x2 : Int32) : Option (Int32 × (Nat → Int32) × (Nat → Int32) × Int32) :=
  Option.bind (x_X10_isChannel F_t x1) (fun v_5 => if v_5 = 0 then (some ((-1000000001 : Int32), (F_t 20), (F_t 22), (F_t 23 0))) else (if x2 = (-1 : Int32) then (x_X10_crack_k24 N F_t x1 x2) else (Option.bind (x_X10_isPlace F_t x2) (fun v_8 => if v_8 = 0 then (some ((-1000000001 : Int32), (F_t 20), (F_t 22), (F_t 23 0))) else (x_X10_crack_k24 N F_t x1 x2)))))
set_option maxHeartbeats 4000000 in
set_option maxRecDepth 100000 in
theorem t_X10_crack {p : Program} {l : Launch} {e : Env} {s : State} {m : MethodId} {args : Array Value} {below : List Frame} {meth : Method} {c : Code} {g : gG} {A : Nat → Prop} (E : En p s m args meth c g A cX10_crack 4 (.code yX10_crack cX10_crack 4 (some .int) :: gW) RX10 (some .int)) (q_t : Nat) (Q_t : Ad) (N : Nat) (F_t : St) (x1 : Int32) (x2 : Int32) (o : Int32 × (Nat → Int32) × (Nat → Int32) × Int32) (h : x_X10_crack N F_t x1 x2 = some o) : WA p l e (rM 2 45) s m args below meth c g A (MQ below (QI g A o.1 [oX10 q_t Q_t (F_t 0 0) (F_t 2 0) (F_t 3 0) (F_t 4 0) (F_t 5 0) (F_t 6 0) (F_t 7 0) (F_t 8 0) (F_t 9 0) (F_t 10 0) (F_t 11 0) (F_t 12 0) (F_t 15 0) (F_t 16 0) (F_t 17 0) o.2.2.2 (F_t 27 0) (F_t 28 0) (F_t 30 0), ia g (Q_t 20) 174 o.2.1, ia g (Q_t 22) 3480 o.2.2.1]) args s 0 0 A) 4 0 [oX10 q_t Q_t (F_t 0 0) (F_t 2 0) (F_t 3 0) (F_t 4 0) (F_t 5 0) (F_t 6 0) (F_t 7 0) (F_t 8 0) (F_t 9 0) (F_t 10 0) (F_t 11 0) (F_t 12 0) (F_t 15 0) (F_t 16 0) (F_t 17 0) (F_t 23 0) (F_t 27 0) (F_t 28 0) (F_t 30 0), ia g (Q_t 20) 174 (F_t 20), ia g (Q_t 22) 3480 (F_t 22)] [(0, .ref q_t), (1, .int x1), (2, .int x2)] [] := by
  obtain ⟨⟨hx, hb, hml, hown, hts⟩, hr, hK, hA, hlk⟩ := id E
  intro H locs ls hP hD hS hl
  refine lv_aload_n hx hb dX10_crack_0 rfl (lv_at hl 0 rfl) ?_
  refine lv_iload_n hx hb dX10_crack_1 rfl (lv_at hl 1 rfl) ?_
  obtain ⟨v_5, hv_5, h⟩ := ox_bind h
  refine kVi ⟨hx, hb, hml, hown, hts⟩ (c_X10_isChannel l g q_t Q_t F_t x1 v_5 hv_5 H.size) (gV u_ml_X10_184 u_im_X10_isChannel u_se_X10_isChannel u_ini_X10 u_co_X10_isChannel) hd_X10_isChannel ⟨rfl, rfl⟩ hK hP hD hS hA 0 10 rfl rfl [0] [0, 2, 3] rfl rfl 1 rfl (w2 := [oX10 q_t Q_t (F_t 0 0) (F_t 2 0) (F_t 3 0) (F_t 4 0) (F_t 5 0) (F_t 6 0) (F_t 7 0) (F_t 8 0) (F_t 9 0) (F_t 10 0) (F_t 11 0) (F_t 12 0) (F_t 15 0) (F_t 16 0) (F_t 17 0) (F_t 23 0) (F_t 27 0) (F_t 28 0) (F_t 30 0), ia g (Q_t 20) 174 (F_t 20), ia g (Q_t 22) 3480 (F_t 22)]) rfl rfl (As := [.int x1]) (rest := []) rfl hl.1 rfl rfl dX10_crack_2 (fun H locs hP hD hS => ?_)
  refine lv_if_eq (tgt := 21) hx hb dX10_crack_5 (by decide) (fun c_6 => ?_) (fun c_6 => ?_)
  · have h := ox_t c_6 h
    refine lv_ldc (v := (-1000000001 : Int32)) hx hb hown (hts _ (.tail _ u_k_X10_183)) dX10_crack_21 ?_
    obtain rfl := Option.some.inj h
    exact k_iret hx hb hr hlk hP hD hS dX10_crack_23
  · have h := ox_f c_6 h
    refine lv_iload_n hx hb dX10_crack_8 rfl (lv_at hl 2 rfl) ?_
    refine lv_iconst (v := (-1 : Int32)) hx hb dX10_crack_9 (by decide) ?_
    refine lv_icmp_eq (tgt := 24) hx hb dX10_crack_10 (by decide) (fun c_7 => ?_) (fun c_7 => ?_)
    · have h := ox_t c_7 h
      exact t_X10_crack_k24 E q_t Q_t N F_t x1 x2 _ h H locs ls hP hD hS hl
    · have h := ox_f c_7 h
      refine lv_aload_n hx hb dX10_crack_13 rfl (lv_at hl 0 rfl) ?_
      refine lv_iload_n hx hb dX10_crack_14 rfl (lv_at hl 2 rfl) ?_
      obtain ⟨v_8, hv_8, h⟩ := ox_bind h
      refine kVi ⟨hx, hb, hml, hown, hts⟩ (c_X10_isPlace l g q_t Q_t F_t x2 v_8 hv_8 H.size) (gV u_ml_X10_180 u_im_X10_isPlace u_se_X10_isPlace u_ini_X10 u_co_X10_isPlace) hd_X10_isPlace ⟨rfl, rfl⟩ hK hP hD hS hA 0 10 rfl rfl [0] [0, 2, 3] rfl rfl 1 rfl (w2 := [oX10 q_t Q_t (F_t 0 0) (F_t 2 0) (F_t 3 0) (F_t 4 0) (F_t 5 0) (F_t 6 0) (F_t 7 0) (F_t 8 0) (F_t 9 0) (F_t 10 0) (F_t 11 0) (F_t 12 0) (F_t 15 0) (F_t 16 0) (F_t 17 0) (F_t 23 0) (F_t 27 0) (F_t 28 0) (F_t 30 0), ia g (Q_t 20) 174 (F_t 20), ia g (Q_t 22) 3480 (F_t 22)]) rfl rfl (As := [.int x2]) (rest := []) rfl hl.1 rfl rfl dX10_crack_15 (fun H locs hP hD hS => ?_)
      refine lv_if_ne (tgt := 24) hx hb dX10_crack_18 (by decide) (fun c_9 => ?_) (fun c_9 => ?_)
      · have h := ox_f c_9 h
        exact t_X10_crack_k24 E q_t Q_t N F_t x1 x2 _ h H locs ls hP hD hS hl
      · have h := ox_t c_9 h
        refine lv_ldc (v := (-1000000001 : Int32)) hx hb hown (hts _ (.tail _ u_k_X10_183)) dX10_crack_21 ?_
        obtain rfl := Option.some.inj h
        exact k_iret hx hb hr hlk hP hD hS dX10_crack_23
set_option maxRecDepth 100000 in
theorem c_X10_crack (l : Launch) (g : gG) (q_t : Nat) (Q_t : Ad) (N : Nat) (F_t : St) (x1 : Int32) (x2 : Int32) (o : Int32 × (Nat → Int32) × (Nat → Int32) × Int32) (h : x_X10_crack N F_t x1 x2 = some o) (sz : Nat) : MetI l yX10_crack (.code yX10_crack cX10_crack 4 (some .int) :: gW) 2 45 [.ref q_t, .int x1, .int x2] o.1 g [oX10 q_t Q_t (F_t 0 0) (F_t 2 0) (F_t 3 0) (F_t 4 0) (F_t 5 0) (F_t 6 0) (F_t 7 0) (F_t 8 0) (F_t 9 0) (F_t 10 0) (F_t 11 0) (F_t 12 0) (F_t 15 0) (F_t 16 0) (F_t 17 0) (F_t 23 0) (F_t 27 0) (F_t 28 0) (F_t 30 0), ia g (Q_t 20) 174 (F_t 20), ia g (Q_t 22) 3480 (F_t 22)] [oX10 q_t Q_t (F_t 0 0) (F_t 2 0) (F_t 3 0) (F_t 4 0) (F_t 5 0) (F_t 6 0) (F_t 7 0) (F_t 8 0) (F_t 9 0) (F_t 10 0) (F_t 11 0) (F_t 12 0) (F_t 15 0) (F_t 16 0) (F_t 17 0) o.2.2.2 (F_t 27 0) (F_t 28 0) (F_t 30 0), ia g (Q_t 20) 174 o.2.1, ia g (Q_t 22) 3480 o.2.2.1] sz :=
  mkI (av := [.ref q_t, .int x1, .int x2]) (by decide +kernel) rfl (fun p e s m below meth c A E H locs ls hP hD hS hl => t_X10_crack E q_t Q_t N F_t x1 x2 o h H locs ls hP hD hS hl) sz
def x_X10_empty (N : Nat) (F_t : St) : Option (Int32 × (Nat → Int32) × (Nat → Int32) × Int32) :=
  Option.bind (x_X10_note N F_t) (fun v_1 => Option.bind (x_X10_onTheWay N (va_up (va_up F_t 22 v_1.1) 23 (fun _ => v_1.2))) (fun v_2 => Option.bind (x_X10_dry N (F_t 20)) (fun v_3 => some (v_2, v_3, v_1.1, v_1.2))))
set_option maxHeartbeats 4000000 in
set_option maxRecDepth 100000 in
theorem t_X10_empty {p : Program} {l : Launch} {e : Env} {s : State} {m : MethodId} {args : Array Value} {below : List Frame} {meth : Method} {c : Code} {g : gG} {A : Nat → Prop} (E : En p s m args meth c g A cX10_empty 2 (.code yX10_empty cX10_empty 2 (some .int) :: gW) RX10 (some .int)) (q_t : Nat) (Q_t : Ad) (N : Nat) (F_t : St) (o : Int32 × (Nat → Int32) × (Nat → Int32) × Int32) (h : x_X10_empty N F_t = some o) : WA p l e (rM 2 45) s m args below meth c g A (MQ below (QI g A o.1 [oX10 q_t Q_t (F_t 0 0) (F_t 2 0) (F_t 3 0) (F_t 4 0) (F_t 5 0) (F_t 6 0) (F_t 7 0) (F_t 8 0) (F_t 9 0) (F_t 10 0) (F_t 11 0) (F_t 12 0) (F_t 15 0) (F_t 16 0) (F_t 17 0) o.2.2.2 (F_t 27 0) (F_t 28 0) (F_t 30 0), ia g (Q_t 20) 174 o.2.1, ia g (Q_t 22) 3480 o.2.2.1]) args s 0 0 A) 2 0 [oX10 q_t Q_t (F_t 0 0) (F_t 2 0) (F_t 3 0) (F_t 4 0) (F_t 5 0) (F_t 6 0) (F_t 7 0) (F_t 8 0) (F_t 9 0) (F_t 10 0) (F_t 11 0) (F_t 12 0) (F_t 15 0) (F_t 16 0) (F_t 17 0) (F_t 23 0) (F_t 27 0) (F_t 28 0) (F_t 30 0), ia g (Q_t 20) 174 (F_t 20), ia g (Q_t 22) 3480 (F_t 22)] [(0, .ref q_t)] [] := by
  obtain ⟨⟨hx, hb, hml, hown, hts⟩, hr, hK, hA, hlk⟩ := id E
  intro H locs ls hP hD hS hl
  refine lv_aload_n hx hb dX10_empty_0 rfl (lv_at hl 0 rfl) ?_
  obtain ⟨v_1, hv_1, h⟩ := ox_bind h
  refine kVv ⟨hx, hb, hml, hown, hts⟩ (c_X10_note l g q_t Q_t N F_t v_1 hv_1 H.size) (gV u_ml_X10_206 u_im_X10_note u_se_X10_note u_ini_X10 u_co_X10_note) hd_X10_note ⟨rfl, rfl⟩ hK hP hD hS hA 0 10 rfl rfl [0, 1, 2] [0, 1, 2] rfl rfl 3 rfl (w2 := [oX10 q_t Q_t (F_t 0 0) (F_t 2 0) (F_t 3 0) (F_t 4 0) (F_t 5 0) (F_t 6 0) (F_t 7 0) (F_t 8 0) (F_t 9 0) (F_t 10 0) (F_t 11 0) (F_t 12 0) (F_t 15 0) (F_t 16 0) (F_t 17 0) v_1.2 (F_t 27 0) (F_t 28 0) (F_t 30 0), ia g (Q_t 20) 174 (F_t 20), ia g (Q_t 22) 3480 v_1.1]) rfl rfl (As := []) (rest := []) rfl hl.1 rfl rfl dX10_empty_1 (fun H locs hP hD hS => ?_)
  refine lv_aload_n hx hb dX10_empty_4 rfl (lv_at hl 0 rfl) ?_
  obtain ⟨v_2, hv_2, h⟩ := ox_bind h
  refine kVi ⟨hx, hb, hml, hown, hts⟩ (c_X10_onTheWay l g q_t Q_t N (va_up (va_up F_t 22 v_1.1) 23 (fun _ => v_1.2)) v_2 hv_2 H.size) (gV u_ml_X10_176 u_im_X10_onTheWay u_se_X10_onTheWay u_ini_X10 u_co_X10_onTheWay) hd_X10_onTheWay ⟨rfl, rfl⟩ hK hP hD hS hA 0 10 rfl rfl [0, 1] [0, 1, 4] rfl rfl 2 rfl (w2 := [oX10 q_t Q_t (F_t 0 0) (F_t 2 0) (F_t 3 0) (F_t 4 0) (F_t 5 0) (F_t 6 0) (F_t 7 0) (F_t 8 0) (F_t 9 0) (F_t 10 0) (F_t 11 0) (F_t 12 0) (F_t 15 0) (F_t 16 0) (F_t 17 0) v_1.2 (F_t 27 0) (F_t 28 0) (F_t 30 0), ia g (Q_t 20) 174 (F_t 20), ia g (Q_t 22) 3480 v_1.1]) rfl rfl (As := []) (rest := []) rfl hl.1 rfl rfl dX10_empty_5 (fun H locs hP hD hS => ?_)
  refine lv_istore_n (lv' := [(1, .int v_2), (0, .ref q_t)]) hx hb dX10_empty_8 rfl hl (by decide) rfl (fun ls hl => ?_)
  refine lv_aload_n hx hb dX10_empty_9 rfl (lv_at hl 1 rfl) ?_
  refine va_get (ci := 10) (v := .ref (Q_t 20)) (C := RX10) (T := TX10) (N := 38) hx hb hts (fun w h => .tail _ (u_inX10 w h)) hown hK.1 hP 0 rfl rfl 20 (by decide) (hts _ (.tail _ u_fl_X10_29)) (fun _ h9 => h9) rfl dX10_empty_10 ?_
  obtain ⟨v_3, hv_3, h⟩ := ox_bind h
  refine kSv ⟨hx, hb, hml, hown, hts⟩ (c_X10_dry l g (Q_t 20) N (F_t 20) v_3 hv_3 H.size) (gS u_ml_X10_73 u_st_X10_dry u_ini_X10 u_co_X10_dry) hd_X10_dry ⟨rfl, rfl⟩ hK hP hD hS hA [1] [1, 0, 3] rfl rfl 1 rfl (w2 := [oX10 q_t Q_t (F_t 0 0) (F_t 2 0) (F_t 3 0) (F_t 4 0) (F_t 5 0) (F_t 6 0) (F_t 7 0) (F_t 8 0) (F_t 9 0) (F_t 10 0) (F_t 11 0) (F_t 12 0) (F_t 15 0) (F_t 16 0) (F_t 17 0) v_1.2 (F_t 27 0) (F_t 28 0) (F_t 30 0), ia g (Q_t 20) 174 v_3, ia g (Q_t 22) 3480 v_1.1]) rfl rfl (As := [.ref (Q_t 20)]) (rest := []) rfl hl.1 rfl rfl dX10_empty_13 (fun H locs hP hD hS => ?_)
  refine lv_iload_n hx hb dX10_empty_16 rfl (lv_at hl 0 rfl) ?_
  obtain rfl := Option.some.inj h
  exact k_iret hx hb hr hlk hP hD hS dX10_empty_17
set_option maxRecDepth 100000 in
theorem c_X10_empty (l : Launch) (g : gG) (q_t : Nat) (Q_t : Ad) (N : Nat) (F_t : St) (o : Int32 × (Nat → Int32) × (Nat → Int32) × Int32) (h : x_X10_empty N F_t = some o) (sz : Nat) : MetI l yX10_empty (.code yX10_empty cX10_empty 2 (some .int) :: gW) 2 45 [.ref q_t] o.1 g [oX10 q_t Q_t (F_t 0 0) (F_t 2 0) (F_t 3 0) (F_t 4 0) (F_t 5 0) (F_t 6 0) (F_t 7 0) (F_t 8 0) (F_t 9 0) (F_t 10 0) (F_t 11 0) (F_t 12 0) (F_t 15 0) (F_t 16 0) (F_t 17 0) (F_t 23 0) (F_t 27 0) (F_t 28 0) (F_t 30 0), ia g (Q_t 20) 174 (F_t 20), ia g (Q_t 22) 3480 (F_t 22)] [oX10 q_t Q_t (F_t 0 0) (F_t 2 0) (F_t 3 0) (F_t 4 0) (F_t 5 0) (F_t 6 0) (F_t 7 0) (F_t 8 0) (F_t 9 0) (F_t 10 0) (F_t 11 0) (F_t 12 0) (F_t 15 0) (F_t 16 0) (F_t 17 0) o.2.2.2 (F_t 27 0) (F_t 28 0) (F_t 30 0), ia g (Q_t 20) 174 o.2.1, ia g (Q_t 22) 3480 o.2.2.1] sz :=
  mkI (av := [.ref q_t]) (by decide +kernel) rfl (fun p e s m below meth c A E H locs ls hP hD hS hl => t_X10_empty E q_t Q_t N F_t o h H locs ls hP hD hS hl) sz
def x_X10_draw (F_t : St) (x1 : Int32) : Option (Int32 × Int32) :=
  xl ((((((F_t 27 0).toInt64) * (1103515245 : Int64)) + (12345 : Int64)) - ((((F_t 27 0).toInt64) * (1103515245 : Int64)) + (12345 : Int64)) / (2147483648 : Int64) * (2147483648 : Int64)).toInt32) (fun y_1 => if x1 = 0 then none else some (((y_1 / (65536 : Int32)) - (y_1 / (65536 : Int32)) / x1 * x1), y_1))
set_option maxHeartbeats 4000000 in
set_option maxRecDepth 100000 in
theorem t_X10_draw {p : Program} {l : Launch} {e : Env} {s : State} {m : MethodId} {args : Array Value} {below : List Frame} {meth : Method} {c : Code} {g : gG} {A : Nat → Prop} (E : En p s m args meth c g A cX10_draw 2 (.code yX10_draw cX10_draw 2 (some .int) :: gW) RX10 (some .int)) (q_t : Nat) (Q_t : Ad) (F_t : St) (x1 : Int32) (o : Int32 × Int32) (h : x_X10_draw F_t x1 = some o) : WA p l e (rM 0 0) s m args below meth c g A (MQ below (QI g A o.1 [oX10 q_t Q_t (F_t 0 0) (F_t 2 0) (F_t 3 0) (F_t 4 0) (F_t 5 0) (F_t 6 0) (F_t 7 0) (F_t 8 0) (F_t 9 0) (F_t 10 0) (F_t 11 0) (F_t 12 0) (F_t 15 0) (F_t 16 0) (F_t 17 0) (F_t 23 0) o.2 (F_t 28 0) (F_t 30 0)]) args s 0 0 A) 2 0 [oX10 q_t Q_t (F_t 0 0) (F_t 2 0) (F_t 3 0) (F_t 4 0) (F_t 5 0) (F_t 6 0) (F_t 7 0) (F_t 8 0) (F_t 9 0) (F_t 10 0) (F_t 11 0) (F_t 12 0) (F_t 15 0) (F_t 16 0) (F_t 17 0) (F_t 23 0) (F_t 27 0) (F_t 28 0) (F_t 30 0)] [(0, .ref q_t), (1, .int x1)] [] := by
  obtain ⟨⟨hx, hb, hml, hown, hts⟩, hr, hK, hA, hlk⟩ := id E
  intro H locs ls hP hD hS hl
  refine lv_aload_n hx hb dX10_draw_0 rfl (lv_at hl 0 rfl) ?_
  refine lv_aload_n hx hb dX10_draw_1 rfl (lv_at hl 0 rfl) ?_
  refine va_get (ci := 10) (v := .int (F_t 27 0)) (C := RX10) (T := TX10) (N := 38) hx hb hts (fun w h => .tail _ (u_inX10 w h)) hown hK.1 hP 0 rfl rfl 27 (by decide) (hts _ (.tail _ u_fl_X10_212)) (fun _ h9 => h9) rfl dX10_draw_2 ?_
  refine lv_i2l (v := ((F_t 27 0).toInt64)) hx hb dX10_draw_5 rfl ?_
  refine lv_ldc2 (v := (1103515245 : Int64)) hx hb hown (hts _ (.tail _ u_kl_X10_215)) dX10_draw_6 ?_
  refine lv_lmul hx hb dX10_draw_9 ?_
  refine lv_ldc2 (v := (12345 : Int64)) hx hb hown (hts _ (.tail _ u_kl_X10_217)) dX10_draw_10 ?_
  refine lv_ladd hx hb dX10_draw_13 ?_
  refine lv_ldc2 (v := (2147483648 : Int64)) hx hb hown (hts _ (.tail _ u_kl_X10_219)) dX10_draw_14 ?_
  refine lv_lrem hx hb dX10_draw_17 (by decide) ?_
  refine lv_l2i (v := ((((((F_t 27 0).toInt64) * (1103515245 : Int64)) + (12345 : Int64)) - ((((F_t 27 0).toInt64) * (1103515245 : Int64)) + (12345 : Int64)) / (2147483648 : Int64) * (2147483648 : Int64)).toInt32)) hx hb dX10_draw_18 rfl ?_
  refine lv_topi (fun y_1 ey_1 => ?_)
  have h := xl_at ey_1 h
  refine va_put (ci := 10) (v := .int y_1) (ty := .int) (C := RX10) (T := TX10) (N := 38) hx hb hts (fun w h => .tail _ (u_inX10 w h)) tyX10 tyX10_ok nmX10 hown hK.1 hP hD hS 0 rfl rfl 27 (by decide) (hts _ (.tail _ u_fl_X10_212)) (fun _ h9 => h9) rfl (tyX10_ok 27 (by decide)) rfl rfl (Nat.le_of_ble_eq_true rfl) dX10_draw_19 (fun H locs hP hD hS => ?_)
  have hP : va_P g.1 vwCl [oX10 q_t Q_t (F_t 0 0) (F_t 2 0) (F_t 3 0) (F_t 4 0) (F_t 5 0) (F_t 6 0) (F_t 7 0) (F_t 8 0) (F_t 9 0) (F_t 10 0) (F_t 11 0) (F_t 12 0) (F_t 15 0) (F_t 16 0) (F_t 17 0) (F_t 23 0) y_1 (F_t 28 0) (F_t 30 0)] H := hP
  have hD : va_D A [oX10 q_t Q_t (F_t 0 0) (F_t 2 0) (F_t 3 0) (F_t 4 0) (F_t 5 0) (F_t 6 0) (F_t 7 0) (F_t 8 0) (F_t 9 0) (F_t 10 0) (F_t 11 0) (F_t 12 0) (F_t 15 0) (F_t 16 0) (F_t 17 0) (F_t 23 0) y_1 (F_t 28 0) (F_t 30 0)] := hD
  refine lv_aload_n hx hb dX10_draw_22 rfl (lv_at hl 0 rfl) ?_
  refine va_get (ci := 10) (v := .int y_1) (C := RX10) (T := TX10) (N := 38) hx hb hts (fun w h => .tail _ (u_inX10 w h)) hown hK.1 hP 0 rfl rfl 27 (by decide) (hts _ (.tail _ u_fl_X10_212)) (fun _ h9 => h9) rfl dX10_draw_23 ?_
  refine lv_ldc (v := (65536 : Int32)) hx hb hown (hts _ (.tail _ u_k_X10_221)) dX10_draw_26 ?_
  refine lv_idiv hx hb dX10_draw_28 (by decide) ?_
  refine lv_iload_n hx hb dX10_draw_29 rfl (lv_at hl 1 rfl) ?_
  obtain ⟨hz_2, h⟩ := ox_chk h
  refine lv_irem hx hb dX10_draw_30 hz_2 ?_
  obtain rfl := Option.some.inj h
  exact k_iret hx hb hr hlk hP hD hS dX10_draw_31
set_option maxRecDepth 100000 in
theorem c_X10_draw (l : Launch) (g : gG) (q_t : Nat) (Q_t : Ad) (F_t : St) (x1 : Int32) (o : Int32 × Int32) (h : x_X10_draw F_t x1 = some o) (sz : Nat) : MetI l yX10_draw (.code yX10_draw cX10_draw 2 (some .int) :: gW) 0 0 [.ref q_t, .int x1] o.1 g [oX10 q_t Q_t (F_t 0 0) (F_t 2 0) (F_t 3 0) (F_t 4 0) (F_t 5 0) (F_t 6 0) (F_t 7 0) (F_t 8 0) (F_t 9 0) (F_t 10 0) (F_t 11 0) (F_t 12 0) (F_t 15 0) (F_t 16 0) (F_t 17 0) (F_t 23 0) (F_t 27 0) (F_t 28 0) (F_t 30 0)] [oX10 q_t Q_t (F_t 0 0) (F_t 2 0) (F_t 3 0) (F_t 4 0) (F_t 5 0) (F_t 6 0) (F_t 7 0) (F_t 8 0) (F_t 9 0) (F_t 10 0) (F_t 11 0) (F_t 12 0) (F_t 15 0) (F_t 16 0) (F_t 17 0) (F_t 23 0) o.2 (F_t 28 0) (F_t 30 0)] sz :=
  mkI (av := [.ref q_t, .int x1]) (by decide +kernel) rfl (fun p e s m below meth c A E H locs ls hP hD hS hl => t_X10_draw E q_t Q_t F_t x1 o h H locs ls hP hD hS hl) sz
def x_X10_drift_b46_k80 (N : Nat) (F_t : St) (x1 : Int32) (x2 : Int32) : Option ((Int32 × (Nat → Int32) × Int32) ⊕ ((Nat → Int32) × Int32)) :=
  Option.bind (x_X10_passHour N F_t (F_t 20)) (fun v_6 => some (.inl ((x2 + (1 : Int32)), v_6, (F_t 27 0))))
set_option maxHeartbeats 4000000 in
set_option maxRecDepth 100000 in
theorem t_X10_drift_b46_k80 {p : Program} {l : Launch} {e : Env} {s : State} {m : MethodId} {args : Array Value} {below : List Frame} {meth : Method} {c : Code} {g : gG} {A : Nat → Prop} {Q : State → Prop} (E : En p s m args meth c g A cX10_drift 3 (.code yX10_drift cX10_drift 3 (some .int) :: gW) RX10 (some .int)) (q_t : Nat) (Q_t : Ad) (N : Nat) (F_t : St) (x1 : Int32) (x2 : Int32) (o : (Int32 × (Nat → Int32) × Int32) ⊕ ((Nat → Int32) × Int32)) (h : x_X10_drift_b46_k80 N F_t x1 x2 = some o) (hc : ∀ z, o = .inl z → WA p l e (rM 3 71) s m args below meth c g A Q 3 46 [oX10 q_t Q_t (F_t 0 0) (F_t 2 0) (F_t 3 0) (F_t 4 0) (F_t 5 0) (F_t 6 0) (F_t 7 0) (F_t 8 0) (F_t 9 0) (F_t 10 0) (F_t 11 0) (F_t 12 0) (F_t 15 0) (F_t 16 0) (F_t 17 0) (F_t 23 0) z.2.2 (F_t 28 0) (F_t 30 0), ia g (Q_t 18) 16 (F_t 18), ia g (Q_t 19) 30 (F_t 19), ia g (Q_t 20) 174 z.2.1, ia g (Q_t 22) 3480 (F_t 22)] [(0, .ref q_t), (1, .int x1), (2, .int z.1)] []) (he : ∀ v, o = .inr v → WA p l e (rM 3 71) s m args below meth c g A Q 3 94 [oX10 q_t Q_t (F_t 0 0) (F_t 2 0) (F_t 3 0) (F_t 4 0) (F_t 5 0) (F_t 6 0) (F_t 7 0) (F_t 8 0) (F_t 9 0) (F_t 10 0) (F_t 11 0) (F_t 12 0) (F_t 15 0) (F_t 16 0) (F_t 17 0) (F_t 23 0) v.2 (F_t 28 0) (F_t 30 0), ia g (Q_t 18) 16 (F_t 18), ia g (Q_t 19) 30 (F_t 19), ia g (Q_t 20) 174 v.1, ia g (Q_t 22) 3480 (F_t 22)] [(0, .ref q_t)] []) : WA p l e (rM 3 71) s m args below meth c g A Q 3 80 [oX10 q_t Q_t (F_t 0 0) (F_t 2 0) (F_t 3 0) (F_t 4 0) (F_t 5 0) (F_t 6 0) (F_t 7 0) (F_t 8 0) (F_t 9 0) (F_t 10 0) (F_t 11 0) (F_t 12 0) (F_t 15 0) (F_t 16 0) (F_t 17 0) (F_t 23 0) (F_t 27 0) (F_t 28 0) (F_t 30 0), ia g (Q_t 18) 16 (F_t 18), ia g (Q_t 19) 30 (F_t 19), ia g (Q_t 20) 174 (F_t 20), ia g (Q_t 22) 3480 (F_t 22)] [(0, .ref q_t), (1, .int x1), (2, .int x2)] [] := by
  obtain ⟨⟨hx, hb, hml, hown, hts⟩, hr, hK, hA, hlk⟩ := id E
  intro H locs ls hP hD hS hl
  refine lv_aload_n hx hb dX10_drift_80 rfl (lv_at hl 0 rfl) ?_
  refine lv_aload_n hx hb dX10_drift_81 rfl (lv_at hl 0 rfl) ?_
  refine va_get (ci := 10) (v := .ref (Q_t 20)) (C := RX10) (T := TX10) (N := 38) hx hb hts (fun w h => .tail _ (u_inX10 w h)) hown hK.1 hP 0 rfl rfl 20 (by decide) (hts _ (.tail _ u_fl_X10_29)) (fun _ h9 => h9) rfl dX10_drift_82 ?_
  obtain ⟨v_6, hv_6, h⟩ := ox_bind h
  refine kVv ⟨hx, hb, hml, hown, hts⟩ (c_X10_passHour l g q_t Q_t (Q_t 20) N F_t (F_t 20) v_6 hv_6 H.size) (gV u_ml_X10_209 u_im_X10_passHour u_se_X10_passHour u_ini_X10 u_co_X10_passHour) hd_X10_passHour ⟨rfl, rfl⟩ hK hP hD hS hA 0 10 rfl rfl [0, 1, 2, 3] [0, 1, 2, 3, 8] rfl rfl 4 rfl (w2 := [oX10 q_t Q_t (F_t 0 0) (F_t 2 0) (F_t 3 0) (F_t 4 0) (F_t 5 0) (F_t 6 0) (F_t 7 0) (F_t 8 0) (F_t 9 0) (F_t 10 0) (F_t 11 0) (F_t 12 0) (F_t 15 0) (F_t 16 0) (F_t 17 0) (F_t 23 0) (F_t 27 0) (F_t 28 0) (F_t 30 0), ia g (Q_t 18) 16 (F_t 18), ia g (Q_t 19) 30 (F_t 19), ia g (Q_t 20) 174 v_6, ia g (Q_t 22) 3480 (F_t 22)]) rfl rfl (As := [.ref (Q_t 20)]) (rest := []) rfl hl.1 rfl rfl dX10_drift_85 (fun H locs hP hD hS => ?_)
  refine lv_iinc (v := (x2 + (1 : Int32))) (lv' := [(2, .int (x2 + (1 : Int32))), (0, .ref q_t), (1, .int x1)]) hx hb dX10_drift_88 hl (k := 2) rfl rfl (by decide) rfl (fun ls hl => ?_)
  refine lv_goto (tgt := 46) hx hb dX10_drift_91 (by decide) ?_
  obtain rfl := Option.some.inj h
  exact hc _ rfl H locs ls hP hD hS (lv_sub hl [1, 2, 0] rfl)
def x_X10_drift_b46 (N : Nat) (F_t : St) (x1 : Int32) (x2 : Int32) : Option ((Int32 × (Nat → Int32) × Int32) ⊕ ((Nat → Int32) × Int32)) :=
  if x1 ≤ x2 then (some (.inr ((F_t 20), (F_t 27 0)))) else (Option.bind (x_X10_draw F_t (3 : Int32)) (fun v_8 => if v_8.1 = 0 then (Option.bind (x_X10_draw (va_up F_t 27 (fun _ => v_8.2)) (8 : Int32)) (fun v_10 => xl (((F_t 20) (0 : Int32).toNatClampNeg) ||| ((1 : Int32) <<< (v_10.1 &&& 31))) (fun y_11 => x_X10_drift_b46_k80 N (va_up (va_up F_t 20 (upd (F_t 20) (0 : Int32).toNatClampNeg y_11)) 27 (fun _ => v_10.2)) x1 x2))) else (x_X10_drift_b46_k80 N (va_up F_t 27 (fun _ => v_8.2)) x1 x2)))
set_option maxHeartbeats 4000000 in
set_option maxRecDepth 100000 in
theorem t_X10_drift_b46 {p : Program} {l : Launch} {e : Env} {s : State} {m : MethodId} {args : Array Value} {below : List Frame} {meth : Method} {c : Code} {g : gG} {A : Nat → Prop} {Q : State → Prop} (E : En p s m args meth c g A cX10_drift 3 (.code yX10_drift cX10_drift 3 (some .int) :: gW) RX10 (some .int)) (q_t : Nat) (Q_t : Ad) (N : Nat) (F_t : St) (x1 : Int32) (x2 : Int32) (o : (Int32 × (Nat → Int32) × Int32) ⊕ ((Nat → Int32) × Int32)) (h : x_X10_drift_b46 N F_t x1 x2 = some o) (hc : ∀ z, o = .inl z → WA p l e (rM 3 71) s m args below meth c g A Q 3 46 [oX10 q_t Q_t (F_t 0 0) (F_t 2 0) (F_t 3 0) (F_t 4 0) (F_t 5 0) (F_t 6 0) (F_t 7 0) (F_t 8 0) (F_t 9 0) (F_t 10 0) (F_t 11 0) (F_t 12 0) (F_t 15 0) (F_t 16 0) (F_t 17 0) (F_t 23 0) z.2.2 (F_t 28 0) (F_t 30 0), ia g (Q_t 18) 16 (F_t 18), ia g (Q_t 19) 30 (F_t 19), ia g (Q_t 20) 174 z.2.1, ia g (Q_t 22) 3480 (F_t 22)] [(0, .ref q_t), (1, .int x1), (2, .int z.1)] []) (he : ∀ v, o = .inr v → WA p l e (rM 3 71) s m args below meth c g A Q 3 94 [oX10 q_t Q_t (F_t 0 0) (F_t 2 0) (F_t 3 0) (F_t 4 0) (F_t 5 0) (F_t 6 0) (F_t 7 0) (F_t 8 0) (F_t 9 0) (F_t 10 0) (F_t 11 0) (F_t 12 0) (F_t 15 0) (F_t 16 0) (F_t 17 0) (F_t 23 0) v.2 (F_t 28 0) (F_t 30 0), ia g (Q_t 18) 16 (F_t 18), ia g (Q_t 19) 30 (F_t 19), ia g (Q_t 20) 174 v.1, ia g (Q_t 22) 3480 (F_t 22)] [(0, .ref q_t)] []) : WA p l e (rM 3 71) s m args below meth c g A Q 3 46 [oX10 q_t Q_t (F_t 0 0) (F_t 2 0) (F_t 3 0) (F_t 4 0) (F_t 5 0) (F_t 6 0) (F_t 7 0) (F_t 8 0) (F_t 9 0) (F_t 10 0) (F_t 11 0) (F_t 12 0) (F_t 15 0) (F_t 16 0) (F_t 17 0) (F_t 23 0) (F_t 27 0) (F_t 28 0) (F_t 30 0), ia g (Q_t 18) 16 (F_t 18), ia g (Q_t 19) 30 (F_t 19), ia g (Q_t 20) 174 (F_t 20), ia g (Q_t 22) 3480 (F_t 22)] [(0, .ref q_t), (1, .int x1), (2, .int x2)] [] := by
  obtain ⟨⟨hx, hb, hml, hown, hts⟩, hr, hK, hA, hlk⟩ := id E
  intro H locs ls hP hD hS hl
  refine lv_iload_n hx hb dX10_drift_46 rfl (lv_at hl 2 rfl) ?_
  refine lv_iload_n hx hb dX10_drift_47 rfl (lv_at hl 1 rfl) ?_
  refine lv_icmp_ge (tgt := 94) hx hb dX10_drift_48 (by decide) (fun c_7 => ?_) (fun c_7 => ?_)
  · have h := ox_t c_7 h
    obtain rfl := Option.some.inj h
    exact he _ rfl H locs ls hP hD hS (lv_sub hl [0] rfl)
  · have h := ox_f c_7 h
    refine lv_aload_n hx hb dX10_drift_51 rfl (lv_at hl 0 rfl) ?_
    refine lv_iconst (v := (3 : Int32)) hx hb dX10_drift_52 (by decide) ?_
    obtain ⟨v_8, hv_8, h⟩ := ox_bind h
    refine kVi ⟨hx, hb, hml, hown, hts⟩ (c_X10_draw l g q_t Q_t F_t (3 : Int32) v_8 hv_8 H.size) (gV u_ml_X10_222 u_im_X10_draw u_se_X10_draw u_ini_X10 u_co_X10_draw) hd_X10_draw ⟨rfl, rfl⟩ hK hP hD hS hA 0 10 rfl rfl [0] [0, 2, 3, 4, 5] rfl rfl 1 rfl (w2 := [oX10 q_t Q_t (F_t 0 0) (F_t 2 0) (F_t 3 0) (F_t 4 0) (F_t 5 0) (F_t 6 0) (F_t 7 0) (F_t 8 0) (F_t 9 0) (F_t 10 0) (F_t 11 0) (F_t 12 0) (F_t 15 0) (F_t 16 0) (F_t 17 0) (F_t 23 0) v_8.2 (F_t 28 0) (F_t 30 0), ia g (Q_t 18) 16 (F_t 18), ia g (Q_t 19) 30 (F_t 19), ia g (Q_t 20) 174 (F_t 20), ia g (Q_t 22) 3480 (F_t 22)]) rfl rfl (As := [.int (3 : Int32)]) (rest := []) rfl hl.1 rfl rfl dX10_drift_53 (fun H locs hP hD hS => ?_)
    refine lv_if_ne (tgt := 80) hx hb dX10_drift_56 (by decide) (fun c_9 => ?_) (fun c_9 => ?_)
    · have h := ox_f c_9 h
      exact t_X10_drift_b46_k80 E q_t Q_t N (va_up F_t 27 (fun _ => v_8.2)) x1 x2 _ h hc he H locs ls hP hD hS hl
    · have h := ox_t c_9 h
      refine lv_aload_n hx hb dX10_drift_59 rfl (lv_at hl 0 rfl) ?_
      refine va_get (ci := 10) (v := .ref (Q_t 20)) (C := RX10) (T := TX10) (N := 38) hx hb hts (fun w h => .tail _ (u_inX10 w h)) hown hK.1 hP 0 rfl rfl 20 (by decide) (hts _ (.tail _ u_fl_X10_29)) (fun _ h9 => h9) rfl dX10_drift_60 ?_
      refine lv_iconst (v := (0 : Int32)) hx hb dX10_drift_63 (by decide) ?_
      refine lv_aload_n hx hb dX10_drift_64 rfl (lv_at hl 0 rfl) ?_
      refine va_get (ci := 10) (v := .ref (Q_t 20)) (C := RX10) (T := TX10) (N := 38) hx hb hts (fun w h => .tail _ (u_inX10 w h)) hown hK.1 hP 0 rfl rfl 20 (by decide) (hts _ (.tail _ u_fl_X10_29)) (fun _ h9 => h9) rfl dX10_drift_65 ?_
      refine lv_iconst (v := (0 : Int32)) hx hb dX10_drift_68 (by decide) ?_
      refine va_iald hx hb hK.1 hP 3 0 rfl rfl (by unfold vp_in; decide) dX10_drift_69 ?_
      refine lv_iconst (v := (1 : Int32)) hx hb dX10_drift_70 (by decide) ?_
      refine lv_aload_n hx hb dX10_drift_71 rfl (lv_at hl 0 rfl) ?_
      refine lv_bipush (v := (8 : Int32)) hx hb dX10_drift_72 (by decide) ?_
      obtain ⟨v_10, hv_10, h⟩ := ox_bind h
      refine kVi ⟨hx, hb, hml, hown, hts⟩ (c_X10_draw l g q_t Q_t (va_up F_t 27 (fun _ => v_8.2)) (8 : Int32) v_10 hv_10 H.size) (gV u_ml_X10_222 u_im_X10_draw u_se_X10_draw u_ini_X10 u_co_X10_draw) hd_X10_draw ⟨rfl, rfl⟩ hK hP hD hS hA 0 10 rfl rfl [0] [0, 2, 3, 4, 5] rfl rfl 1 rfl (w2 := [oX10 q_t Q_t (F_t 0 0) (F_t 2 0) (F_t 3 0) (F_t 4 0) (F_t 5 0) (F_t 6 0) (F_t 7 0) (F_t 8 0) (F_t 9 0) (F_t 10 0) (F_t 11 0) (F_t 12 0) (F_t 15 0) (F_t 16 0) (F_t 17 0) (F_t 23 0) v_10.2 (F_t 28 0) (F_t 30 0), ia g (Q_t 18) 16 (F_t 18), ia g (Q_t 19) 30 (F_t 19), ia g (Q_t 20) 174 (F_t 20), ia g (Q_t 22) 3480 (F_t 22)]) rfl rfl (As := [.int (8 : Int32)]) (rest := [.int (1 : Int32), .int ((F_t 20) (0 : Int32).toNatClampNeg), .int (0 : Int32), .ref (Q_t 20)]) rfl hl.1 rfl rfl dX10_drift_74 (fun H locs hP hD hS => ?_)
      refine lv_ishl hx hb dX10_drift_77 ?_
      refine lv_ior hx hb dX10_drift_78 ?_
      refine lv_topi (fun y_11 ey_11 => ?_)
      have h := xl_at ey_11 h
      refine va_iast hx hb hK.1 hP hD hS 3 0 rfl rfl (by unfold vp_in; decide) dX10_drift_79 (fun H locs hP hD hS => ?_)
      have hP : va_P g.1 vwCl [oX10 q_t Q_t (F_t 0 0) (F_t 2 0) (F_t 3 0) (F_t 4 0) (F_t 5 0) (F_t 6 0) (F_t 7 0) (F_t 8 0) (F_t 9 0) (F_t 10 0) (F_t 11 0) (F_t 12 0) (F_t 15 0) (F_t 16 0) (F_t 17 0) (F_t 23 0) v_10.2 (F_t 28 0) (F_t 30 0), ia g (Q_t 18) 16 (F_t 18), ia g (Q_t 19) 30 (F_t 19), ia g (Q_t 20) 174 (upd (F_t 20) (0 : Int32).toNatClampNeg y_11), ia g (Q_t 22) 3480 (F_t 22)] H := hP
      have hD : va_D A [oX10 q_t Q_t (F_t 0 0) (F_t 2 0) (F_t 3 0) (F_t 4 0) (F_t 5 0) (F_t 6 0) (F_t 7 0) (F_t 8 0) (F_t 9 0) (F_t 10 0) (F_t 11 0) (F_t 12 0) (F_t 15 0) (F_t 16 0) (F_t 17 0) (F_t 23 0) v_10.2 (F_t 28 0) (F_t 30 0), ia g (Q_t 18) 16 (F_t 18), ia g (Q_t 19) 30 (F_t 19), ia g (Q_t 20) 174 (upd (F_t 20) (0 : Int32).toNatClampNeg y_11), ia g (Q_t 22) 3480 (F_t 22)] := hD
      exact t_X10_drift_b46_k80 E q_t Q_t N (va_up (va_up F_t 20 (upd (F_t 20) (0 : Int32).toNatClampNeg y_11)) 27 (fun _ => v_10.2)) x1 x2 _ h hc he H locs ls hP hD hS hl
def x_X10_drift (N : Nat) (F_t : St) (x1 : Int32) : Option (Int32 × (Nat → Int32) × (Nat → Int32) × Int32 × Int32) :=
  Option.bind (x_X10_in x1 (1 : Int32) (60 : Int32)) (fun v_1 => if v_1 = 0 then (some ((-1000000002 : Int32), (F_t 20), (F_t 22), (F_t 23 0), (F_t 27 0))) else (if (F_t 16 0) = 0 then (some ((-1000000003 : Int32), (F_t 20), (F_t 22), (F_t 23 0), (F_t 27 0))) else (if ((F_t 20) (173 : Int32).toNatClampNeg) ≤ (9000 : Int32) then (Option.bind (x_X10_note N F_t) (fun v_5 => Option.bind (lpc (fun (z : Int32 × (Nat → Int32) × Int32) => x_X10_drift_b46 N (va_up (va_up (va_up (va_up F_t 20 z.2.1) 22 v_5.1) 23 (fun _ => v_5.2)) 27 (fun _ => z.2.2)) x1 z.1) N ((0 : Int32), (F_t 20), (F_t 27 0))) (fun v_12 => some ((v_12.1 (173 : Int32).toNatClampNeg), v_12.1, v_5.1, v_5.2, v_12.2)))) else (some ((-1000000004 : Int32), (F_t 20), (F_t 22), (F_t 23 0), (F_t 27 0))))))
set_option maxHeartbeats 4000000 in
set_option maxRecDepth 100000 in
theorem t_X10_drift {p : Program} {l : Launch} {e : Env} {s : State} {m : MethodId} {args : Array Value} {below : List Frame} {meth : Method} {c : Code} {g : gG} {A : Nat → Prop} (E : En p s m args meth c g A cX10_drift 3 (.code yX10_drift cX10_drift 3 (some .int) :: gW) RX10 (some .int)) (q_t : Nat) (Q_t : Ad) (N : Nat) (F_t : St) (x1 : Int32) (o : Int32 × (Nat → Int32) × (Nat → Int32) × Int32 × Int32) (h : x_X10_drift N F_t x1 = some o) : WA p l e (rM 3 71) s m args below meth c g A (MQ below (QI g A o.1 [oX10 q_t Q_t (F_t 0 0) (F_t 2 0) (F_t 3 0) (F_t 4 0) (F_t 5 0) (F_t 6 0) (F_t 7 0) (F_t 8 0) (F_t 9 0) (F_t 10 0) (F_t 11 0) (F_t 12 0) (F_t 15 0) (F_t 16 0) (F_t 17 0) o.2.2.2.1 o.2.2.2.2 (F_t 28 0) (F_t 30 0), ia g (Q_t 18) 16 (F_t 18), ia g (Q_t 19) 30 (F_t 19), ia g (Q_t 20) 174 o.2.1, ia g (Q_t 22) 3480 o.2.2.1]) args s 0 0 A) 3 0 [oX10 q_t Q_t (F_t 0 0) (F_t 2 0) (F_t 3 0) (F_t 4 0) (F_t 5 0) (F_t 6 0) (F_t 7 0) (F_t 8 0) (F_t 9 0) (F_t 10 0) (F_t 11 0) (F_t 12 0) (F_t 15 0) (F_t 16 0) (F_t 17 0) (F_t 23 0) (F_t 27 0) (F_t 28 0) (F_t 30 0), ia g (Q_t 18) 16 (F_t 18), ia g (Q_t 19) 30 (F_t 19), ia g (Q_t 20) 174 (F_t 20), ia g (Q_t 22) 3480 (F_t 22)] [(0, .ref q_t), (1, .int x1)] [] := by
  obtain ⟨⟨hx, hb, hml, hown, hts⟩, hr, hK, hA, hlk⟩ := id E
  intro H locs ls hP hD hS hl
  refine lv_iload_n hx hb dX10_drift_0 rfl (lv_at hl 1 rfl) ?_
  refine lv_iconst (v := (1 : Int32)) hx hb dX10_drift_1 (by decide) ?_
  refine lv_bipush (v := (60 : Int32)) hx hb dX10_drift_2 (by decide) ?_
  obtain ⟨v_1, hv_1, h⟩ := ox_bind h
  refine kSi ⟨hx, hb, hml, hown, hts⟩ (c_X10_in l g x1 (1 : Int32) (60 : Int32) v_1 hv_1 H.size) (gS u_ml_X10_83 u_st_X10_in u_ini_X10 u_co_X10_in) hd_X10_in ⟨rfl, rfl⟩ hK hP hD hS hA [] [0, 1, 2, 3, 4] rfl rfl 0 rfl (w2 := [oX10 q_t Q_t (F_t 0 0) (F_t 2 0) (F_t 3 0) (F_t 4 0) (F_t 5 0) (F_t 6 0) (F_t 7 0) (F_t 8 0) (F_t 9 0) (F_t 10 0) (F_t 11 0) (F_t 12 0) (F_t 15 0) (F_t 16 0) (F_t 17 0) (F_t 23 0) (F_t 27 0) (F_t 28 0) (F_t 30 0), ia g (Q_t 18) 16 (F_t 18), ia g (Q_t 19) 30 (F_t 19), ia g (Q_t 20) 174 (F_t 20), ia g (Q_t 22) 3480 (F_t 22)]) rfl rfl (As := [.int x1, .int (1 : Int32), .int (60 : Int32)]) (rest := []) rfl hl.1 rfl rfl dX10_drift_4 (fun H locs hP hD hS => ?_)
  refine lv_if_ne (tgt := 13) hx hb dX10_drift_7 (by decide) (fun c_2 => ?_) (fun c_2 => ?_)
  · have h := ox_f c_2 h
    refine lv_aload_n hx hb dX10_drift_13 rfl (lv_at hl 0 rfl) ?_
    refine va_get (ci := 10) (v := .int (F_t 16 0)) (C := RX10) (T := TX10) (N := 38) hx hb hts (fun w h => .tail _ (u_inX10 w h)) hown hK.1 hP 0 rfl rfl 16 (by decide) (hts _ (.tail _ u_fl_X10_80)) (fun _ h9 => h9) rfl dX10_drift_14 ?_
    refine lv_if_ne (tgt := 23) hx hb dX10_drift_17 (by decide) (fun c_3 => ?_) (fun c_3 => ?_)
    · have h := ox_f c_3 h
      refine lv_aload_n hx hb dX10_drift_23 rfl (lv_at hl 0 rfl) ?_
      refine va_get (ci := 10) (v := .ref (Q_t 20)) (C := RX10) (T := TX10) (N := 38) hx hb hts (fun w h => .tail _ (u_inX10 w h)) hown hK.1 hP 0 rfl rfl 20 (by decide) (hts _ (.tail _ u_fl_X10_29)) (fun _ h9 => h9) rfl dX10_drift_24 ?_
      refine lv_sipush (v := (173 : Int32)) hx hb dX10_drift_27 (by decide) ?_
      refine va_iald hx hb hK.1 hP 3 0 rfl rfl (by unfold vp_in; decide) dX10_drift_30 ?_
      refine lv_sipush (v := (9000 : Int32)) hx hb dX10_drift_31 (by decide) ?_
      refine lv_icmp_le (tgt := 40) hx hb dX10_drift_34 (by decide) (fun c_4 => ?_) (fun c_4 => ?_)
      · have h := ox_t c_4 h
        refine lv_aload_n hx hb dX10_drift_40 rfl (lv_at hl 0 rfl) ?_
        obtain ⟨v_5, hv_5, h⟩ := ox_bind h
        refine kVv ⟨hx, hb, hml, hown, hts⟩ (c_X10_note l g q_t Q_t N F_t v_5 hv_5 H.size) (gV u_ml_X10_206 u_im_X10_note u_se_X10_note u_ini_X10 u_co_X10_note) hd_X10_note ⟨rfl, rfl⟩ hK hP hD hS hA 0 10 rfl rfl [0, 3, 4] [0, 4, 5, 1, 2] rfl rfl 3 rfl (w2 := [oX10 q_t Q_t (F_t 0 0) (F_t 2 0) (F_t 3 0) (F_t 4 0) (F_t 5 0) (F_t 6 0) (F_t 7 0) (F_t 8 0) (F_t 9 0) (F_t 10 0) (F_t 11 0) (F_t 12 0) (F_t 15 0) (F_t 16 0) (F_t 17 0) v_5.2 (F_t 27 0) (F_t 28 0) (F_t 30 0), ia g (Q_t 18) 16 (F_t 18), ia g (Q_t 19) 30 (F_t 19), ia g (Q_t 20) 174 (F_t 20), ia g (Q_t 22) 3480 v_5.1]) rfl rfl (As := []) (rest := []) rfl hl.1 rfl rfl dX10_drift_41 (fun H locs hP hD hS => ?_)
        refine lv_iconst (v := (0 : Int32)) hx hb dX10_drift_44 (by decide) ?_
        refine lv_istore_n (lv' := [(2, .int (0 : Int32)), (0, .ref q_t), (1, .int x1)]) hx hb dX10_drift_45 rfl hl (by decide) rfl (fun ls hl => ?_)
        obtain ⟨v_12, hv_12, h⟩ := ox_bind h
        refine lpc_W (Wh := fun (z : Int32 × (Nat → Int32) × Int32) => WA p l e (rM 3 71) s m args below meth c g A (MQ below (QI g A o.1 [oX10 q_t Q_t (F_t 0 0) (F_t 2 0) (F_t 3 0) (F_t 4 0) (F_t 5 0) (F_t 6 0) (F_t 7 0) (F_t 8 0) (F_t 9 0) (F_t 10 0) (F_t 11 0) (F_t 12 0) (F_t 15 0) (F_t 16 0) (F_t 17 0) o.2.2.2.1 o.2.2.2.2 (F_t 28 0) (F_t 30 0), ia g (Q_t 18) 16 (F_t 18), ia g (Q_t 19) 30 (F_t 19), ia g (Q_t 20) 174 o.2.1, ia g (Q_t 22) 3480 o.2.2.1]) args s 0 0 A) 3 46 [oX10 q_t Q_t (F_t 0 0) (F_t 2 0) (F_t 3 0) (F_t 4 0) (F_t 5 0) (F_t 6 0) (F_t 7 0) (F_t 8 0) (F_t 9 0) (F_t 10 0) (F_t 11 0) (F_t 12 0) (F_t 15 0) (F_t 16 0) (F_t 17 0) v_5.2 z.2.2 (F_t 28 0) (F_t 30 0), ia g (Q_t 18) 16 (F_t 18), ia g (Q_t 19) 30 (F_t 19), ia g (Q_t 20) 174 z.2.1, ia g (Q_t 22) 3480 v_5.1] [(0, .ref q_t), (1, .int x1), (2, .int z.1)] []) (We := fun (v : (Nat → Int32) × Int32) => WA p l e (rM 3 71) s m args below meth c g A (MQ below (QI g A o.1 [oX10 q_t Q_t (F_t 0 0) (F_t 2 0) (F_t 3 0) (F_t 4 0) (F_t 5 0) (F_t 6 0) (F_t 7 0) (F_t 8 0) (F_t 9 0) (F_t 10 0) (F_t 11 0) (F_t 12 0) (F_t 15 0) (F_t 16 0) (F_t 17 0) o.2.2.2.1 o.2.2.2.2 (F_t 28 0) (F_t 30 0), ia g (Q_t 18) 16 (F_t 18), ia g (Q_t 19) 30 (F_t 19), ia g (Q_t 20) 174 o.2.1, ia g (Q_t 22) 3480 o.2.2.1]) args s 0 0 A) 3 94 [oX10 q_t Q_t (F_t 0 0) (F_t 2 0) (F_t 3 0) (F_t 4 0) (F_t 5 0) (F_t 6 0) (F_t 7 0) (F_t 8 0) (F_t 9 0) (F_t 10 0) (F_t 11 0) (F_t 12 0) (F_t 15 0) (F_t 16 0) (F_t 17 0) v_5.2 v.2 (F_t 28 0) (F_t 30 0), ia g (Q_t 18) 16 (F_t 18), ia g (Q_t 19) 30 (F_t 19), ia g (Q_t 20) 174 v.1, ia g (Q_t 22) 3480 v_5.1] [(0, .ref q_t)] []) (fun z r hb hc he => t_X10_drift_b46 E q_t Q_t N (va_up (va_up (va_up (va_up F_t 20 z.2.1) 22 v_5.1) 23 (fun _ => v_5.2)) 27 (fun _ => z.2.2)) x1 z.1 r hb hc he) N ((0 : Int32), (F_t 20), (F_t 27 0)) v_12 hv_12 ?_ H locs ls hP hD hS (lv_sub hl [1, 2, 0] rfl)
        intro H locs ls hP hD hS hl
        refine lv_aload_n hx hb dX10_drift_94 rfl (lv_at hl 0 rfl) ?_
        refine va_get (ci := 10) (v := .ref (Q_t 20)) (C := RX10) (T := TX10) (N := 38) hx hb hts (fun w h => .tail _ (u_inX10 w h)) hown hK.1 hP 0 rfl rfl 20 (by decide) (hts _ (.tail _ u_fl_X10_29)) (fun _ h9 => h9) rfl dX10_drift_95 ?_
        refine lv_sipush (v := (173 : Int32)) hx hb dX10_drift_98 (by decide) ?_
        refine va_iald hx hb hK.1 hP 3 0 rfl rfl (by unfold vp_in; decide) dX10_drift_101 ?_
        obtain rfl := Option.some.inj h
        exact k_iret hx hb hr hlk hP hD hS dX10_drift_102
      · have h := ox_f c_4 h
        refine lv_ldc (v := (-1000000004 : Int32)) hx hb hown (hts _ (.tail _ u_k_X10_94)) dX10_drift_37 ?_
        obtain rfl := Option.some.inj h
        exact k_iret hx hb hr hlk hP hD hS dX10_drift_39
    · have h := ox_t c_3 h
      refine lv_ldc (v := (-1000000003 : Int32)) hx hb hown (hts _ (.tail _ u_k_X10_205)) dX10_drift_20 ?_
      obtain rfl := Option.some.inj h
      exact k_iret hx hb hr hlk hP hD hS dX10_drift_22
  · have h := ox_t c_2 h
    refine lv_ldc (v := (-1000000002 : Int32)) hx hb hown (hts _ (.tail _ u_k_X10_90)) dX10_drift_10 ?_
    obtain rfl := Option.some.inj h
    exact k_iret hx hb hr hlk hP hD hS dX10_drift_12
set_option maxRecDepth 100000 in
theorem c_X10_drift (l : Launch) (g : gG) (q_t : Nat) (Q_t : Ad) (N : Nat) (F_t : St) (x1 : Int32) (o : Int32 × (Nat → Int32) × (Nat → Int32) × Int32 × Int32) (h : x_X10_drift N F_t x1 = some o) (sz : Nat) : MetI l yX10_drift (.code yX10_drift cX10_drift 3 (some .int) :: gW) 3 71 [.ref q_t, .int x1] o.1 g [oX10 q_t Q_t (F_t 0 0) (F_t 2 0) (F_t 3 0) (F_t 4 0) (F_t 5 0) (F_t 6 0) (F_t 7 0) (F_t 8 0) (F_t 9 0) (F_t 10 0) (F_t 11 0) (F_t 12 0) (F_t 15 0) (F_t 16 0) (F_t 17 0) (F_t 23 0) (F_t 27 0) (F_t 28 0) (F_t 30 0), ia g (Q_t 18) 16 (F_t 18), ia g (Q_t 19) 30 (F_t 19), ia g (Q_t 20) 174 (F_t 20), ia g (Q_t 22) 3480 (F_t 22)] [oX10 q_t Q_t (F_t 0 0) (F_t 2 0) (F_t 3 0) (F_t 4 0) (F_t 5 0) (F_t 6 0) (F_t 7 0) (F_t 8 0) (F_t 9 0) (F_t 10 0) (F_t 11 0) (F_t 12 0) (F_t 15 0) (F_t 16 0) (F_t 17 0) o.2.2.2.1 o.2.2.2.2 (F_t 28 0) (F_t 30 0), ia g (Q_t 18) 16 (F_t 18), ia g (Q_t 19) 30 (F_t 19), ia g (Q_t 20) 174 o.2.1, ia g (Q_t 22) 3480 o.2.2.1] sz :=
  mkI (av := [.ref q_t, .int x1]) (by decide +kernel) rfl (fun p e s m below meth c A E H locs ls hP hD hS hl => t_X10_drift E q_t Q_t N F_t x1 o h H locs ls hP hD hS hl) sz
def x_X10_undo (N : Nat) (F_t : St) : Option (Int32 × (Nat → Int32) × Int32) :=
  if (F_t 23 0) = 0 then (some ((-1000000003 : Int32), (F_t 20), (F_t 23 0))) else (xl ((F_t 23 0) - (1 : Int32)) (fun y_2 => Option.bind (x_X10_copy N 3480 174 (F_t 22) (F_t 20) ((174 : Int32) * y_2) (0 : Int32)) (fun v_3 => some (y_2, v_3, y_2))))
set_option maxHeartbeats 4000000 in
set_option maxRecDepth 100000 in
theorem t_X10_undo {p : Program} {l : Launch} {e : Env} {s : State} {m : MethodId} {args : Array Value} {below : List Frame} {meth : Method} {c : Code} {g : gG} {A : Nat → Prop} (E : En p s m args meth c g A cX10_undo 1 (.code yX10_undo cX10_undo 1 (some .int) :: gW) RX10 (some .int)) (q_t : Nat) (Q_t : Ad) (N : Nat) (F_t : St) (o : Int32 × (Nat → Int32) × Int32) (h : x_X10_undo N F_t = some o) : WA p l e (rM 1 24) s m args below meth c g A (MQ below (QI g A o.1 [oX10 q_t Q_t (F_t 0 0) (F_t 2 0) (F_t 3 0) (F_t 4 0) (F_t 5 0) (F_t 6 0) (F_t 7 0) (F_t 8 0) (F_t 9 0) (F_t 10 0) (F_t 11 0) (F_t 12 0) (F_t 15 0) (F_t 16 0) (F_t 17 0) o.2.2 (F_t 27 0) (F_t 28 0) (F_t 30 0), ia g (Q_t 20) 174 o.2.1, ia g (Q_t 22) 3480 (F_t 22)]) args s 0 0 A) 1 0 [oX10 q_t Q_t (F_t 0 0) (F_t 2 0) (F_t 3 0) (F_t 4 0) (F_t 5 0) (F_t 6 0) (F_t 7 0) (F_t 8 0) (F_t 9 0) (F_t 10 0) (F_t 11 0) (F_t 12 0) (F_t 15 0) (F_t 16 0) (F_t 17 0) (F_t 23 0) (F_t 27 0) (F_t 28 0) (F_t 30 0), ia g (Q_t 20) 174 (F_t 20), ia g (Q_t 22) 3480 (F_t 22)] [(0, .ref q_t)] [] := by
  obtain ⟨⟨hx, hb, hml, hown, hts⟩, hr, hK, hA, hlk⟩ := id E
  intro H locs ls hP hD hS hl
  refine lv_aload_n hx hb dX10_undo_0 rfl (lv_at hl 0 rfl) ?_
  refine va_get (ci := 10) (v := .int (F_t 23 0)) (C := RX10) (T := TX10) (N := 38) hx hb hts (fun w h => .tail _ (u_inX10 w h)) hown hK.1 hP 0 rfl rfl 23 (by decide) (hts _ (.tail _ u_fl_X10_165)) (fun _ h9 => h9) rfl dX10_undo_1 ?_
  refine lv_if_ne (tgt := 10) hx hb dX10_undo_4 (by decide) (fun c_1 => ?_) (fun c_1 => ?_)
  · have h := ox_f c_1 h
    refine lv_aload_n hx hb dX10_undo_10 rfl (lv_at hl 0 rfl) ?_
    refine lv_dup hx hb dX10_undo_11 rfl ?_
    refine va_get (ci := 10) (v := .int (F_t 23 0)) (C := RX10) (T := TX10) (N := 38) hx hb hts (fun w h => .tail _ (u_inX10 w h)) hown hK.1 hP 0 rfl rfl 23 (by decide) (hts _ (.tail _ u_fl_X10_165)) (fun _ h9 => h9) rfl dX10_undo_12 ?_
    refine lv_iconst (v := (1 : Int32)) hx hb dX10_undo_15 (by decide) ?_
    refine lv_isub hx hb dX10_undo_16 ?_
    refine lv_topi (fun y_2 ey_2 => ?_)
    have h := xl_at ey_2 h
    refine va_put (ci := 10) (v := .int y_2) (ty := .int) (C := RX10) (T := TX10) (N := 38) hx hb hts (fun w h => .tail _ (u_inX10 w h)) tyX10 tyX10_ok nmX10 hown hK.1 hP hD hS 0 rfl rfl 23 (by decide) (hts _ (.tail _ u_fl_X10_165)) (fun _ h9 => h9) rfl (tyX10_ok 23 (by decide)) rfl rfl (Nat.le_of_ble_eq_true rfl) dX10_undo_17 (fun H locs hP hD hS => ?_)
    have hP : va_P g.1 vwCl [oX10 q_t Q_t (F_t 0 0) (F_t 2 0) (F_t 3 0) (F_t 4 0) (F_t 5 0) (F_t 6 0) (F_t 7 0) (F_t 8 0) (F_t 9 0) (F_t 10 0) (F_t 11 0) (F_t 12 0) (F_t 15 0) (F_t 16 0) (F_t 17 0) y_2 (F_t 27 0) (F_t 28 0) (F_t 30 0), ia g (Q_t 20) 174 (F_t 20), ia g (Q_t 22) 3480 (F_t 22)] H := hP
    have hD : va_D A [oX10 q_t Q_t (F_t 0 0) (F_t 2 0) (F_t 3 0) (F_t 4 0) (F_t 5 0) (F_t 6 0) (F_t 7 0) (F_t 8 0) (F_t 9 0) (F_t 10 0) (F_t 11 0) (F_t 12 0) (F_t 15 0) (F_t 16 0) (F_t 17 0) y_2 (F_t 27 0) (F_t 28 0) (F_t 30 0), ia g (Q_t 20) 174 (F_t 20), ia g (Q_t 22) 3480 (F_t 22)] := hD
    refine lv_aload_n hx hb dX10_undo_20 rfl (lv_at hl 0 rfl) ?_
    refine va_get (ci := 10) (v := .ref (Q_t 22)) (C := RX10) (T := TX10) (N := 38) hx hb hts (fun w h => .tail _ (u_inX10 w h)) hown hK.1 hP 0 rfl rfl 22 (by decide) (hts _ (.tail _ u_fl_X10_35)) (fun _ h9 => h9) rfl dX10_undo_21 ?_
    refine lv_sipush (v := (174 : Int32)) hx hb dX10_undo_24 (by decide) ?_
    refine lv_aload_n hx hb dX10_undo_27 rfl (lv_at hl 0 rfl) ?_
    refine va_get (ci := 10) (v := .int y_2) (C := RX10) (T := TX10) (N := 38) hx hb hts (fun w h => .tail _ (u_inX10 w h)) hown hK.1 hP 0 rfl rfl 23 (by decide) (hts _ (.tail _ u_fl_X10_165)) (fun _ h9 => h9) rfl dX10_undo_28 ?_
    refine lv_imul hx hb dX10_undo_31 ?_
    refine lv_aload_n hx hb dX10_undo_32 rfl (lv_at hl 0 rfl) ?_
    refine va_get (ci := 10) (v := .ref (Q_t 20)) (C := RX10) (T := TX10) (N := 38) hx hb hts (fun w h => .tail _ (u_inX10 w h)) hown hK.1 hP 0 rfl rfl 20 (by decide) (hts _ (.tail _ u_fl_X10_29)) (fun _ h9 => h9) rfl dX10_undo_33 ?_
    refine lv_iconst (v := (0 : Int32)) hx hb dX10_undo_36 (by decide) ?_
    obtain ⟨v_3, hv_3, h⟩ := ox_bind h
    refine kSv ⟨hx, hb, hml, hown, hts⟩ (c_X10_copy l g (Q_t 22) (Q_t 20) N 3480 174 (F_t 22) (F_t 20) ((174 : Int32) * y_2) (0 : Int32) v_3 hv_3 H.size) (gS u_ml_X10_190 u_st_X10_copy u_ini_X10 u_co_X10_copy) hd_X10_copy ⟨rfl, rfl⟩ hK hP hD hS hA [2, 1] [2, 1, 0] rfl rfl 2 rfl (w2 := [oX10 q_t Q_t (F_t 0 0) (F_t 2 0) (F_t 3 0) (F_t 4 0) (F_t 5 0) (F_t 6 0) (F_t 7 0) (F_t 8 0) (F_t 9 0) (F_t 10 0) (F_t 11 0) (F_t 12 0) (F_t 15 0) (F_t 16 0) (F_t 17 0) y_2 (F_t 27 0) (F_t 28 0) (F_t 30 0), ia g (Q_t 20) 174 v_3, ia g (Q_t 22) 3480 (F_t 22)]) rfl rfl (As := [.ref (Q_t 22), .int ((174 : Int32) * y_2), .ref (Q_t 20), .int (0 : Int32)]) (rest := []) rfl hl.1 rfl rfl dX10_undo_37 (fun H locs hP hD hS => ?_)
    refine lv_aload_n hx hb dX10_undo_40 rfl (lv_at hl 0 rfl) ?_
    refine va_get (ci := 10) (v := .int y_2) (C := RX10) (T := TX10) (N := 38) hx hb hts (fun w h => .tail _ (u_inX10 w h)) hown hK.1 hP 0 rfl rfl 23 (by decide) (hts _ (.tail _ u_fl_X10_165)) (fun _ h9 => h9) rfl dX10_undo_41 ?_
    obtain rfl := Option.some.inj h
    exact k_iret hx hb hr hlk hP hD hS dX10_undo_44
  · have h := ox_t c_1 h
    refine lv_ldc (v := (-1000000003 : Int32)) hx hb hown (hts _ (.tail _ u_k_X10_205)) dX10_undo_7 ?_
    obtain rfl := Option.some.inj h
    exact k_iret hx hb hr hlk hP hD hS dX10_undo_9
set_option maxRecDepth 100000 in
theorem c_X10_undo (l : Launch) (g : gG) (q_t : Nat) (Q_t : Ad) (N : Nat) (F_t : St) (o : Int32 × (Nat → Int32) × Int32) (h : x_X10_undo N F_t = some o) (sz : Nat) : MetI l yX10_undo (.code yX10_undo cX10_undo 1 (some .int) :: gW) 1 24 [.ref q_t] o.1 g [oX10 q_t Q_t (F_t 0 0) (F_t 2 0) (F_t 3 0) (F_t 4 0) (F_t 5 0) (F_t 6 0) (F_t 7 0) (F_t 8 0) (F_t 9 0) (F_t 10 0) (F_t 11 0) (F_t 12 0) (F_t 15 0) (F_t 16 0) (F_t 17 0) (F_t 23 0) (F_t 27 0) (F_t 28 0) (F_t 30 0), ia g (Q_t 20) 174 (F_t 20), ia g (Q_t 22) 3480 (F_t 22)] [oX10 q_t Q_t (F_t 0 0) (F_t 2 0) (F_t 3 0) (F_t 4 0) (F_t 5 0) (F_t 6 0) (F_t 7 0) (F_t 8 0) (F_t 9 0) (F_t 10 0) (F_t 11 0) (F_t 12 0) (F_t 15 0) (F_t 16 0) (F_t 17 0) o.2.2 (F_t 27 0) (F_t 28 0) (F_t 30 0), ia g (Q_t 20) 174 o.2.1, ia g (Q_t 22) 3480 (F_t 22)] sz :=
  mkI (av := [.ref q_t]) (by decide +kernel) rfl (fun p e s m below meth c A E H locs ls hP hD hS hl => t_X10_undo E q_t Q_t N F_t o h H locs ls hP hD hS hl) sz
def x_X10_layTried_b38 (N : Nat) (F_t : St) (x2 : Int32) : Option ((Int32 × (Nat → Int32)) ⊕ ((Nat → Int32))) :=
  if (60 : Int32) < x2 then (some (.inr (F_t 21))) else (Option.bind (x_X10_passHour N F_t (F_t 21)) (fun v_4 => some (.inl ((x2 + (1 : Int32)), v_4))))
set_option maxHeartbeats 4000000 in
set_option maxRecDepth 100000 in
theorem t_X10_layTried_b38 {p : Program} {l : Launch} {e : Env} {s : State} {m : MethodId} {args : Array Value} {below : List Frame} {meth : Method} {c : Code} {g : gG} {A : Nat → Prop} {Q : State → Prop} (E : En p s m args meth c g A cX10_layTried 3 (.code yX10_layTried cX10_layTried 3 none :: gW) RX10 none) (q_t : Nat) (Q_t : Ad) (N : Nat) (F_t : St) (x2 : Int32) (o : (Int32 × (Nat → Int32)) ⊕ ((Nat → Int32))) (h : x_X10_layTried_b38 N F_t x2 = some o) (hc : ∀ z, o = .inl z → WA p l e (rM 3 71) s m args below meth c g A Q 3 38 [oX10 q_t Q_t (F_t 0 0) (F_t 2 0) (F_t 3 0) (F_t 4 0) (F_t 5 0) (F_t 6 0) (F_t 7 0) (F_t 8 0) (F_t 9 0) (F_t 10 0) (F_t 11 0) (F_t 12 0) (F_t 15 0) (F_t 16 0) (F_t 17 0) (F_t 23 0) (F_t 27 0) (F_t 28 0) (F_t 30 0), ia g (Q_t 18) 16 (F_t 18), ia g (Q_t 19) 30 (F_t 19), ia g (Q_t 20) 174 (F_t 20), ia g (Q_t 21) 174 z.2] [(0, .ref q_t), (2, .int z.1)] []) (he : ∀ v, o = .inr v → WA p l e (rM 3 71) s m args below meth c g A Q 3 58 [oX10 q_t Q_t (F_t 0 0) (F_t 2 0) (F_t 3 0) (F_t 4 0) (F_t 5 0) (F_t 6 0) (F_t 7 0) (F_t 8 0) (F_t 9 0) (F_t 10 0) (F_t 11 0) (F_t 12 0) (F_t 15 0) (F_t 16 0) (F_t 17 0) (F_t 23 0) (F_t 27 0) (F_t 28 0) (F_t 30 0), ia g (Q_t 18) 16 (F_t 18), ia g (Q_t 19) 30 (F_t 19), ia g (Q_t 20) 174 (F_t 20), ia g (Q_t 21) 174 v] [] []) : WA p l e (rM 3 71) s m args below meth c g A Q 3 38 [oX10 q_t Q_t (F_t 0 0) (F_t 2 0) (F_t 3 0) (F_t 4 0) (F_t 5 0) (F_t 6 0) (F_t 7 0) (F_t 8 0) (F_t 9 0) (F_t 10 0) (F_t 11 0) (F_t 12 0) (F_t 15 0) (F_t 16 0) (F_t 17 0) (F_t 23 0) (F_t 27 0) (F_t 28 0) (F_t 30 0), ia g (Q_t 18) 16 (F_t 18), ia g (Q_t 19) 30 (F_t 19), ia g (Q_t 20) 174 (F_t 20), ia g (Q_t 21) 174 (F_t 21)] [(0, .ref q_t), (2, .int x2)] [] := by
  obtain ⟨⟨hx, hb, hml, hown, hts⟩, hr, hK, hA, hlk⟩ := id E
  intro H locs ls hP hD hS hl
  refine lv_iload_n hx hb dX10_layTried_38 rfl (lv_at hl 1 rfl) ?_
  refine lv_bipush (v := (60 : Int32)) hx hb dX10_layTried_39 (by decide) ?_
  refine lv_icmp_gt (tgt := 58) hx hb dX10_layTried_41 (by decide) (fun c_3 => ?_) (fun c_3 => ?_)
  · have h := ox_t c_3 h
    obtain rfl := Option.some.inj h
    exact he _ rfl H locs ls hP hD hS (lv_sub hl [] rfl)
  · have h := ox_f c_3 h
    refine lv_aload_n hx hb dX10_layTried_44 rfl (lv_at hl 0 rfl) ?_
    refine lv_aload_n hx hb dX10_layTried_45 rfl (lv_at hl 0 rfl) ?_
    refine va_get (ci := 10) (v := .ref (Q_t 21)) (C := RX10) (T := TX10) (N := 38) hx hb hts (fun w h => .tail _ (u_inX10 w h)) hown hK.1 hP 0 rfl rfl 21 (by decide) (hts _ (.tail _ u_fl_X10_32)) (fun _ h9 => h9) rfl dX10_layTried_46 ?_
    obtain ⟨v_4, hv_4, h⟩ := ox_bind h
    refine kVv ⟨hx, hb, hml, hown, hts⟩ (c_X10_passHour l g q_t Q_t (Q_t 21) N F_t (F_t 21) v_4 hv_4 H.size) (gV u_ml_X10_209 u_im_X10_passHour u_se_X10_passHour u_ini_X10 u_co_X10_passHour) hd_X10_passHour ⟨rfl, rfl⟩ hK hP hD hS hA 0 10 rfl rfl [0, 1, 2, 4] [0, 1, 2, 7, 3] rfl rfl 4 rfl (w2 := [oX10 q_t Q_t (F_t 0 0) (F_t 2 0) (F_t 3 0) (F_t 4 0) (F_t 5 0) (F_t 6 0) (F_t 7 0) (F_t 8 0) (F_t 9 0) (F_t 10 0) (F_t 11 0) (F_t 12 0) (F_t 15 0) (F_t 16 0) (F_t 17 0) (F_t 23 0) (F_t 27 0) (F_t 28 0) (F_t 30 0), ia g (Q_t 18) 16 (F_t 18), ia g (Q_t 19) 30 (F_t 19), ia g (Q_t 20) 174 (F_t 20), ia g (Q_t 21) 174 v_4]) rfl rfl (As := [.ref (Q_t 21)]) (rest := []) rfl hl.1 rfl rfl dX10_layTried_49 (fun H locs hP hD hS => ?_)
    refine lv_iinc (v := (x2 + (1 : Int32))) (lv' := [(2, .int (x2 + (1 : Int32))), (0, .ref q_t)]) hx hb dX10_layTried_52 hl (k := 1) rfl rfl (by decide) rfl (fun ls hl => ?_)
    refine lv_goto (tgt := 38) hx hb dX10_layTried_55 (by decide) ?_
    obtain rfl := Option.some.inj h
    exact hc _ rfl H locs ls hP hD hS (lv_sub hl [1, 0] rfl)
def x_X10_layTried (N : Nat) (F_t : St) (x1 : Int32) : Option ((Nat → Int32)) :=
  Option.bind (x_X10_copy N 174 174 (F_t 20) (F_t 21) (0 : Int32) (0 : Int32)) (fun v_1 => Option.bind (x_X10_dry N v_1) (fun v_2 => Option.bind (lpc (fun (z : Int32 × (Nat → Int32)) => x_X10_layTried_b38 N (va_up F_t 21 z.2) z.1) N ((0 : Int32), (upd (upd v_2 (173 : Int32).toNatClampNeg (0 : Int32)) (0 : Int32).toNatClampNeg x1))) (fun v_5 => some v_5)))
set_option maxHeartbeats 4000000 in
set_option maxRecDepth 100000 in
theorem t_X10_layTried {p : Program} {l : Launch} {e : Env} {s : State} {m : MethodId} {args : Array Value} {below : List Frame} {meth : Method} {c : Code} {g : gG} {A : Nat → Prop} (E : En p s m args meth c g A cX10_layTried 3 (.code yX10_layTried cX10_layTried 3 none :: gW) RX10 none) (q_t : Nat) (Q_t : Ad) (N : Nat) (F_t : St) (x1 : Int32) (o : (Nat → Int32)) (h : x_X10_layTried N F_t x1 = some o) : WA p l e (rM 3 71) s m args below meth c g A (MQ below (QV g A [oX10 q_t Q_t (F_t 0 0) (F_t 2 0) (F_t 3 0) (F_t 4 0) (F_t 5 0) (F_t 6 0) (F_t 7 0) (F_t 8 0) (F_t 9 0) (F_t 10 0) (F_t 11 0) (F_t 12 0) (F_t 15 0) (F_t 16 0) (F_t 17 0) (F_t 23 0) (F_t 27 0) (F_t 28 0) (F_t 30 0), ia g (Q_t 18) 16 (F_t 18), ia g (Q_t 19) 30 (F_t 19), ia g (Q_t 20) 174 (F_t 20), ia g (Q_t 21) 174 o]) args s 0 0 A) 3 0 [oX10 q_t Q_t (F_t 0 0) (F_t 2 0) (F_t 3 0) (F_t 4 0) (F_t 5 0) (F_t 6 0) (F_t 7 0) (F_t 8 0) (F_t 9 0) (F_t 10 0) (F_t 11 0) (F_t 12 0) (F_t 15 0) (F_t 16 0) (F_t 17 0) (F_t 23 0) (F_t 27 0) (F_t 28 0) (F_t 30 0), ia g (Q_t 18) 16 (F_t 18), ia g (Q_t 19) 30 (F_t 19), ia g (Q_t 20) 174 (F_t 20), ia g (Q_t 21) 174 (F_t 21)] [(0, .ref q_t), (1, .int x1)] [] := by
  obtain ⟨⟨hx, hb, hml, hown, hts⟩, hr, hK, hA, hlk⟩ := id E
  intro H locs ls hP hD hS hl
  refine lv_aload_n hx hb dX10_layTried_0 rfl (lv_at hl 0 rfl) ?_
  refine va_get (ci := 10) (v := .ref (Q_t 20)) (C := RX10) (T := TX10) (N := 38) hx hb hts (fun w h => .tail _ (u_inX10 w h)) hown hK.1 hP 0 rfl rfl 20 (by decide) (hts _ (.tail _ u_fl_X10_29)) (fun _ h9 => h9) rfl dX10_layTried_1 ?_
  refine lv_iconst (v := (0 : Int32)) hx hb dX10_layTried_4 (by decide) ?_
  refine lv_aload_n hx hb dX10_layTried_5 rfl (lv_at hl 0 rfl) ?_
  refine va_get (ci := 10) (v := .ref (Q_t 21)) (C := RX10) (T := TX10) (N := 38) hx hb hts (fun w h => .tail _ (u_inX10 w h)) hown hK.1 hP 0 rfl rfl 21 (by decide) (hts _ (.tail _ u_fl_X10_32)) (fun _ h9 => h9) rfl dX10_layTried_6 ?_
  refine lv_iconst (v := (0 : Int32)) hx hb dX10_layTried_9 (by decide) ?_
  obtain ⟨v_1, hv_1, h⟩ := ox_bind h
  refine kSv ⟨hx, hb, hml, hown, hts⟩ (c_X10_copy l g (Q_t 20) (Q_t 21) N 174 174 (F_t 20) (F_t 21) (0 : Int32) (0 : Int32) v_1 hv_1 H.size) (gS u_ml_X10_190 u_st_X10_copy u_ini_X10 u_co_X10_copy) hd_X10_copy ⟨rfl, rfl⟩ hK hP hD hS hA [3, 4] [2, 3, 4, 0, 1] rfl rfl 2 rfl (w2 := [oX10 q_t Q_t (F_t 0 0) (F_t 2 0) (F_t 3 0) (F_t 4 0) (F_t 5 0) (F_t 6 0) (F_t 7 0) (F_t 8 0) (F_t 9 0) (F_t 10 0) (F_t 11 0) (F_t 12 0) (F_t 15 0) (F_t 16 0) (F_t 17 0) (F_t 23 0) (F_t 27 0) (F_t 28 0) (F_t 30 0), ia g (Q_t 18) 16 (F_t 18), ia g (Q_t 19) 30 (F_t 19), ia g (Q_t 20) 174 (F_t 20), ia g (Q_t 21) 174 v_1]) rfl rfl (As := [.ref (Q_t 20), .int (0 : Int32), .ref (Q_t 21), .int (0 : Int32)]) (rest := []) rfl hl.1 rfl rfl dX10_layTried_10 (fun H locs hP hD hS => ?_)
  refine lv_aload_n hx hb dX10_layTried_13 rfl (lv_at hl 0 rfl) ?_
  refine va_get (ci := 10) (v := .ref (Q_t 21)) (C := RX10) (T := TX10) (N := 38) hx hb hts (fun w h => .tail _ (u_inX10 w h)) hown hK.1 hP 0 rfl rfl 21 (by decide) (hts _ (.tail _ u_fl_X10_32)) (fun _ h9 => h9) rfl dX10_layTried_14 ?_
  obtain ⟨v_2, hv_2, h⟩ := ox_bind h
  refine kSv ⟨hx, hb, hml, hown, hts⟩ (c_X10_dry l g (Q_t 21) N v_1 v_2 hv_2 H.size) (gS u_ml_X10_73 u_st_X10_dry u_ini_X10 u_co_X10_dry) hd_X10_dry ⟨rfl, rfl⟩ hK hP hD hS hA [4] [1, 2, 3, 4, 0] rfl rfl 1 rfl (w2 := [oX10 q_t Q_t (F_t 0 0) (F_t 2 0) (F_t 3 0) (F_t 4 0) (F_t 5 0) (F_t 6 0) (F_t 7 0) (F_t 8 0) (F_t 9 0) (F_t 10 0) (F_t 11 0) (F_t 12 0) (F_t 15 0) (F_t 16 0) (F_t 17 0) (F_t 23 0) (F_t 27 0) (F_t 28 0) (F_t 30 0), ia g (Q_t 18) 16 (F_t 18), ia g (Q_t 19) 30 (F_t 19), ia g (Q_t 20) 174 (F_t 20), ia g (Q_t 21) 174 v_2]) rfl rfl (As := [.ref (Q_t 21)]) (rest := []) rfl hl.1 rfl rfl dX10_layTried_17 (fun H locs hP hD hS => ?_)
  refine lv_aload_n hx hb dX10_layTried_20 rfl (lv_at hl 0 rfl) ?_
  refine va_get (ci := 10) (v := .ref (Q_t 21)) (C := RX10) (T := TX10) (N := 38) hx hb hts (fun w h => .tail _ (u_inX10 w h)) hown hK.1 hP 0 rfl rfl 21 (by decide) (hts _ (.tail _ u_fl_X10_32)) (fun _ h9 => h9) rfl dX10_layTried_21 ?_
  refine lv_sipush (v := (173 : Int32)) hx hb dX10_layTried_24 (by decide) ?_
  refine lv_iconst (v := (0 : Int32)) hx hb dX10_layTried_27 (by decide) ?_
  refine va_iast hx hb hK.1 hP hD hS 4 0 rfl rfl (by unfold vp_in; decide) dX10_layTried_28 (fun H locs hP hD hS => ?_)
  have hP : va_P g.1 vwCl [oX10 q_t Q_t (F_t 0 0) (F_t 2 0) (F_t 3 0) (F_t 4 0) (F_t 5 0) (F_t 6 0) (F_t 7 0) (F_t 8 0) (F_t 9 0) (F_t 10 0) (F_t 11 0) (F_t 12 0) (F_t 15 0) (F_t 16 0) (F_t 17 0) (F_t 23 0) (F_t 27 0) (F_t 28 0) (F_t 30 0), ia g (Q_t 18) 16 (F_t 18), ia g (Q_t 19) 30 (F_t 19), ia g (Q_t 20) 174 (F_t 20), ia g (Q_t 21) 174 (upd v_2 (173 : Int32).toNatClampNeg (0 : Int32))] H := hP
  have hD : va_D A [oX10 q_t Q_t (F_t 0 0) (F_t 2 0) (F_t 3 0) (F_t 4 0) (F_t 5 0) (F_t 6 0) (F_t 7 0) (F_t 8 0) (F_t 9 0) (F_t 10 0) (F_t 11 0) (F_t 12 0) (F_t 15 0) (F_t 16 0) (F_t 17 0) (F_t 23 0) (F_t 27 0) (F_t 28 0) (F_t 30 0), ia g (Q_t 18) 16 (F_t 18), ia g (Q_t 19) 30 (F_t 19), ia g (Q_t 20) 174 (F_t 20), ia g (Q_t 21) 174 (upd v_2 (173 : Int32).toNatClampNeg (0 : Int32))] := hD
  refine lv_aload_n hx hb dX10_layTried_29 rfl (lv_at hl 0 rfl) ?_
  refine va_get (ci := 10) (v := .ref (Q_t 21)) (C := RX10) (T := TX10) (N := 38) hx hb hts (fun w h => .tail _ (u_inX10 w h)) hown hK.1 hP 0 rfl rfl 21 (by decide) (hts _ (.tail _ u_fl_X10_32)) (fun _ h9 => h9) rfl dX10_layTried_30 ?_
  refine lv_iconst (v := (0 : Int32)) hx hb dX10_layTried_33 (by decide) ?_
  refine lv_iload_n hx hb dX10_layTried_34 rfl (lv_at hl 1 rfl) ?_
  refine va_iast hx hb hK.1 hP hD hS 4 0 rfl rfl (by unfold vp_in; decide) dX10_layTried_35 (fun H locs hP hD hS => ?_)
  have hP : va_P g.1 vwCl [oX10 q_t Q_t (F_t 0 0) (F_t 2 0) (F_t 3 0) (F_t 4 0) (F_t 5 0) (F_t 6 0) (F_t 7 0) (F_t 8 0) (F_t 9 0) (F_t 10 0) (F_t 11 0) (F_t 12 0) (F_t 15 0) (F_t 16 0) (F_t 17 0) (F_t 23 0) (F_t 27 0) (F_t 28 0) (F_t 30 0), ia g (Q_t 18) 16 (F_t 18), ia g (Q_t 19) 30 (F_t 19), ia g (Q_t 20) 174 (F_t 20), ia g (Q_t 21) 174 (upd (upd v_2 (173 : Int32).toNatClampNeg (0 : Int32)) (0 : Int32).toNatClampNeg x1)] H := hP
  have hD : va_D A [oX10 q_t Q_t (F_t 0 0) (F_t 2 0) (F_t 3 0) (F_t 4 0) (F_t 5 0) (F_t 6 0) (F_t 7 0) (F_t 8 0) (F_t 9 0) (F_t 10 0) (F_t 11 0) (F_t 12 0) (F_t 15 0) (F_t 16 0) (F_t 17 0) (F_t 23 0) (F_t 27 0) (F_t 28 0) (F_t 30 0), ia g (Q_t 18) 16 (F_t 18), ia g (Q_t 19) 30 (F_t 19), ia g (Q_t 20) 174 (F_t 20), ia g (Q_t 21) 174 (upd (upd v_2 (173 : Int32).toNatClampNeg (0 : Int32)) (0 : Int32).toNatClampNeg x1)] := hD
  refine lv_iconst (v := (0 : Int32)) hx hb dX10_layTried_36 (by decide) ?_
  refine lv_istore_n (lv' := [(2, .int (0 : Int32)), (0, .ref q_t), (1, .int x1)]) hx hb dX10_layTried_37 rfl hl (by decide) rfl (fun ls hl => ?_)
  obtain ⟨v_5, hv_5, h⟩ := ox_bind h
  refine lpc_W (Wh := fun (z : Int32 × (Nat → Int32)) => WA p l e (rM 3 71) s m args below meth c g A (MQ below (QV g A [oX10 q_t Q_t (F_t 0 0) (F_t 2 0) (F_t 3 0) (F_t 4 0) (F_t 5 0) (F_t 6 0) (F_t 7 0) (F_t 8 0) (F_t 9 0) (F_t 10 0) (F_t 11 0) (F_t 12 0) (F_t 15 0) (F_t 16 0) (F_t 17 0) (F_t 23 0) (F_t 27 0) (F_t 28 0) (F_t 30 0), ia g (Q_t 18) 16 (F_t 18), ia g (Q_t 19) 30 (F_t 19), ia g (Q_t 20) 174 (F_t 20), ia g (Q_t 21) 174 o]) args s 0 0 A) 3 38 [oX10 q_t Q_t (F_t 0 0) (F_t 2 0) (F_t 3 0) (F_t 4 0) (F_t 5 0) (F_t 6 0) (F_t 7 0) (F_t 8 0) (F_t 9 0) (F_t 10 0) (F_t 11 0) (F_t 12 0) (F_t 15 0) (F_t 16 0) (F_t 17 0) (F_t 23 0) (F_t 27 0) (F_t 28 0) (F_t 30 0), ia g (Q_t 18) 16 (F_t 18), ia g (Q_t 19) 30 (F_t 19), ia g (Q_t 20) 174 (F_t 20), ia g (Q_t 21) 174 z.2] [(0, .ref q_t), (2, .int z.1)] []) (We := fun (v : (Nat → Int32)) => WA p l e (rM 3 71) s m args below meth c g A (MQ below (QV g A [oX10 q_t Q_t (F_t 0 0) (F_t 2 0) (F_t 3 0) (F_t 4 0) (F_t 5 0) (F_t 6 0) (F_t 7 0) (F_t 8 0) (F_t 9 0) (F_t 10 0) (F_t 11 0) (F_t 12 0) (F_t 15 0) (F_t 16 0) (F_t 17 0) (F_t 23 0) (F_t 27 0) (F_t 28 0) (F_t 30 0), ia g (Q_t 18) 16 (F_t 18), ia g (Q_t 19) 30 (F_t 19), ia g (Q_t 20) 174 (F_t 20), ia g (Q_t 21) 174 o]) args s 0 0 A) 3 58 [oX10 q_t Q_t (F_t 0 0) (F_t 2 0) (F_t 3 0) (F_t 4 0) (F_t 5 0) (F_t 6 0) (F_t 7 0) (F_t 8 0) (F_t 9 0) (F_t 10 0) (F_t 11 0) (F_t 12 0) (F_t 15 0) (F_t 16 0) (F_t 17 0) (F_t 23 0) (F_t 27 0) (F_t 28 0) (F_t 30 0), ia g (Q_t 18) 16 (F_t 18), ia g (Q_t 19) 30 (F_t 19), ia g (Q_t 20) 174 (F_t 20), ia g (Q_t 21) 174 v] [] []) (fun z r hb hc he => t_X10_layTried_b38 E q_t Q_t N (va_up F_t 21 z.2) z.1 r hb hc he) N ((0 : Int32), (upd (upd v_2 (173 : Int32).toNatClampNeg (0 : Int32)) (0 : Int32).toNatClampNeg x1)) v_5 hv_5 ?_ H locs ls hP hD hS (lv_sub hl [1, 0] rfl)
  intro H locs ls hP hD hS hl
  obtain rfl := Option.some.inj h
  exact k_vret hx hb hr hlk hP hD hS dX10_layTried_58
set_option maxRecDepth 100000 in
theorem c_X10_layTried (l : Launch) (g : gG) (q_t : Nat) (Q_t : Ad) (N : Nat) (F_t : St) (x1 : Int32) (o : (Nat → Int32)) (h : x_X10_layTried N F_t x1 = some o) (sz : Nat) : MetV l yX10_layTried (.code yX10_layTried cX10_layTried 3 none :: gW) 3 71 [.ref q_t, .int x1] g [oX10 q_t Q_t (F_t 0 0) (F_t 2 0) (F_t 3 0) (F_t 4 0) (F_t 5 0) (F_t 6 0) (F_t 7 0) (F_t 8 0) (F_t 9 0) (F_t 10 0) (F_t 11 0) (F_t 12 0) (F_t 15 0) (F_t 16 0) (F_t 17 0) (F_t 23 0) (F_t 27 0) (F_t 28 0) (F_t 30 0), ia g (Q_t 18) 16 (F_t 18), ia g (Q_t 19) 30 (F_t 19), ia g (Q_t 20) 174 (F_t 20), ia g (Q_t 21) 174 (F_t 21)] [oX10 q_t Q_t (F_t 0 0) (F_t 2 0) (F_t 3 0) (F_t 4 0) (F_t 5 0) (F_t 6 0) (F_t 7 0) (F_t 8 0) (F_t 9 0) (F_t 10 0) (F_t 11 0) (F_t 12 0) (F_t 15 0) (F_t 16 0) (F_t 17 0) (F_t 23 0) (F_t 27 0) (F_t 28 0) (F_t 30 0), ia g (Q_t 18) 16 (F_t 18), ia g (Q_t 19) 30 (F_t 19), ia g (Q_t 20) 174 (F_t 20), ia g (Q_t 21) 174 o] sz :=
  mkV (av := [.ref q_t, .int x1]) (by decide +kernel) rfl (fun p e s m below meth c A E H locs ls hP hD hS hl => t_X10_layTried E q_t Q_t N F_t x1 o h H locs ls hP hD hS hl) sz
def x_X10_hears (N : Nat) (F_t : St) (x1 : Int32) (x2 : Int32) : Option (Int32 × (Nat → Int32)) :=
  Option.bind (x_X10_isPlace F_t x2) (fun v_1 => if v_1 = 0 then (some ((-1000000001 : Int32), (F_t 21))) else (Option.bind (x_X10_in x1 (0 : Int32) (255 : Int32)) (fun v_3 => if v_3 = 0 then (some ((-1000000002 : Int32), (F_t 21))) else (Option.bind (x_X10_layTried N F_t x1) (fun v_5 => if ((80 : Int32) + x2) < 0 ∨ 174 ≤ ((80 : Int32) + x2).toNatClampNeg then none else some ((v_5 ((80 : Int32) + x2).toNatClampNeg), v_5))))))
set_option maxHeartbeats 4000000 in
set_option maxRecDepth 100000 in
theorem t_X10_hears {p : Program} {l : Launch} {e : Env} {s : State} {m : MethodId} {args : Array Value} {below : List Frame} {meth : Method} {c : Code} {g : gG} {A : Nat → Prop} (E : En p s m args meth c g A cX10_hears 3 (.code yX10_hears cX10_hears 3 (some .int) :: gW) RX10 (some .int)) (q_t : Nat) (Q_t : Ad) (N : Nat) (F_t : St) (x1 : Int32) (x2 : Int32) (o : Int32 × (Nat → Int32)) (h : x_X10_hears N F_t x1 x2 = some o) : WA p l e (rM 4 93) s m args below meth c g A (MQ below (QI g A o.1 [oX10 q_t Q_t (F_t 0 0) (F_t 2 0) (F_t 3 0) (F_t 4 0) (F_t 5 0) (F_t 6 0) (F_t 7 0) (F_t 8 0) (F_t 9 0) (F_t 10 0) (F_t 11 0) (F_t 12 0) (F_t 15 0) (F_t 16 0) (F_t 17 0) (F_t 23 0) (F_t 27 0) (F_t 28 0) (F_t 30 0), ia g (Q_t 18) 16 (F_t 18), ia g (Q_t 19) 30 (F_t 19), ia g (Q_t 20) 174 (F_t 20), ia g (Q_t 21) 174 o.2]) args s 0 0 A) 3 0 [oX10 q_t Q_t (F_t 0 0) (F_t 2 0) (F_t 3 0) (F_t 4 0) (F_t 5 0) (F_t 6 0) (F_t 7 0) (F_t 8 0) (F_t 9 0) (F_t 10 0) (F_t 11 0) (F_t 12 0) (F_t 15 0) (F_t 16 0) (F_t 17 0) (F_t 23 0) (F_t 27 0) (F_t 28 0) (F_t 30 0), ia g (Q_t 18) 16 (F_t 18), ia g (Q_t 19) 30 (F_t 19), ia g (Q_t 20) 174 (F_t 20), ia g (Q_t 21) 174 (F_t 21)] [(0, .ref q_t), (1, .int x1), (2, .int x2)] [] := by
  obtain ⟨⟨hx, hb, hml, hown, hts⟩, hr, hK, hA, hlk⟩ := id E
  intro H locs ls hP hD hS hl
  refine lv_aload_n hx hb dX10_hears_0 rfl (lv_at hl 0 rfl) ?_
  refine lv_iload_n hx hb dX10_hears_1 rfl (lv_at hl 2 rfl) ?_
  obtain ⟨v_1, hv_1, h⟩ := ox_bind h
  refine kVi ⟨hx, hb, hml, hown, hts⟩ (c_X10_isPlace l g q_t Q_t F_t x2 v_1 hv_1 H.size) (gV u_ml_X10_180 u_im_X10_isPlace u_se_X10_isPlace u_ini_X10 u_co_X10_isPlace) hd_X10_isPlace ⟨rfl, rfl⟩ hK hP hD hS hA 0 10 rfl rfl [0] [0, 2, 3, 4, 5] rfl rfl 1 rfl (w2 := [oX10 q_t Q_t (F_t 0 0) (F_t 2 0) (F_t 3 0) (F_t 4 0) (F_t 5 0) (F_t 6 0) (F_t 7 0) (F_t 8 0) (F_t 9 0) (F_t 10 0) (F_t 11 0) (F_t 12 0) (F_t 15 0) (F_t 16 0) (F_t 17 0) (F_t 23 0) (F_t 27 0) (F_t 28 0) (F_t 30 0), ia g (Q_t 18) 16 (F_t 18), ia g (Q_t 19) 30 (F_t 19), ia g (Q_t 20) 174 (F_t 20), ia g (Q_t 21) 174 (F_t 21)]) rfl rfl (As := [.int x2]) (rest := []) rfl hl.1 rfl rfl dX10_hears_2 (fun H locs hP hD hS => ?_)
  refine lv_if_ne (tgt := 11) hx hb dX10_hears_5 (by decide) (fun c_2 => ?_) (fun c_2 => ?_)
  · have h := ox_f c_2 h
    refine lv_iload_n hx hb dX10_hears_11 rfl (lv_at hl 1 rfl) ?_
    refine lv_iconst (v := (0 : Int32)) hx hb dX10_hears_12 (by decide) ?_
    refine lv_sipush (v := (255 : Int32)) hx hb dX10_hears_13 (by decide) ?_
    obtain ⟨v_3, hv_3, h⟩ := ox_bind h
    refine kSi ⟨hx, hb, hml, hown, hts⟩ (c_X10_in l g x1 (0 : Int32) (255 : Int32) v_3 hv_3 H.size) (gS u_ml_X10_83 u_st_X10_in u_ini_X10 u_co_X10_in) hd_X10_in ⟨rfl, rfl⟩ hK hP hD hS hA [] [0, 1, 2, 3, 4] rfl rfl 0 rfl (w2 := [oX10 q_t Q_t (F_t 0 0) (F_t 2 0) (F_t 3 0) (F_t 4 0) (F_t 5 0) (F_t 6 0) (F_t 7 0) (F_t 8 0) (F_t 9 0) (F_t 10 0) (F_t 11 0) (F_t 12 0) (F_t 15 0) (F_t 16 0) (F_t 17 0) (F_t 23 0) (F_t 27 0) (F_t 28 0) (F_t 30 0), ia g (Q_t 18) 16 (F_t 18), ia g (Q_t 19) 30 (F_t 19), ia g (Q_t 20) 174 (F_t 20), ia g (Q_t 21) 174 (F_t 21)]) rfl rfl (As := [.int x1, .int (0 : Int32), .int (255 : Int32)]) (rest := []) rfl hl.1 rfl rfl dX10_hears_16 (fun H locs hP hD hS => ?_)
    refine lv_if_ne (tgt := 25) hx hb dX10_hears_19 (by decide) (fun c_4 => ?_) (fun c_4 => ?_)
    · have h := ox_f c_4 h
      refine lv_aload_n hx hb dX10_hears_25 rfl (lv_at hl 0 rfl) ?_
      refine lv_iload_n hx hb dX10_hears_26 rfl (lv_at hl 1 rfl) ?_
      obtain ⟨v_5, hv_5, h⟩ := ox_bind h
      refine kVv ⟨hx, hb, hml, hown, hts⟩ (c_X10_layTried l g q_t Q_t N F_t x1 v_5 hv_5 H.size) (gV u_ml_X10_225 u_im_X10_layTried u_se_X10_layTried u_ini_X10 u_co_X10_layTried) hd_X10_layTried ⟨rfl, rfl⟩ hK hP hD hS hA 0 10 rfl rfl [0, 1, 2, 3, 4] [0, 1, 2, 3, 4] rfl rfl 5 rfl (w2 := [oX10 q_t Q_t (F_t 0 0) (F_t 2 0) (F_t 3 0) (F_t 4 0) (F_t 5 0) (F_t 6 0) (F_t 7 0) (F_t 8 0) (F_t 9 0) (F_t 10 0) (F_t 11 0) (F_t 12 0) (F_t 15 0) (F_t 16 0) (F_t 17 0) (F_t 23 0) (F_t 27 0) (F_t 28 0) (F_t 30 0), ia g (Q_t 18) 16 (F_t 18), ia g (Q_t 19) 30 (F_t 19), ia g (Q_t 20) 174 (F_t 20), ia g (Q_t 21) 174 v_5]) rfl rfl (As := [.int x1]) (rest := []) rfl hl.1 rfl rfl dX10_hears_27 (fun H locs hP hD hS => ?_)
      refine lv_aload_n hx hb dX10_hears_30 rfl (lv_at hl 0 rfl) ?_
      refine va_get (ci := 10) (v := .ref (Q_t 21)) (C := RX10) (T := TX10) (N := 38) hx hb hts (fun w h => .tail _ (u_inX10 w h)) hown hK.1 hP 0 rfl rfl 21 (by decide) (hts _ (.tail _ u_fl_X10_32)) (fun _ h9 => h9) rfl dX10_hears_31 ?_
      refine lv_bipush (v := (80 : Int32)) hx hb dX10_hears_34 (by decide) ?_
      refine lv_iload_n hx hb dX10_hears_36 rfl (lv_at hl 2 rfl) ?_
      refine lv_iadd hx hb dX10_hears_37 ?_
      obtain ⟨hi_6, h⟩ := ox_chk h
      refine va_iald hx hb hK.1 hP 4 0 rfl rfl hi_6 dX10_hears_38 ?_
      obtain rfl := Option.some.inj h
      exact k_iret hx hb hr hlk hP hD hS dX10_hears_39
    · have h := ox_t c_4 h
      refine lv_ldc (v := (-1000000002 : Int32)) hx hb hown (hts _ (.tail _ u_k_X10_90)) dX10_hears_22 ?_
      obtain rfl := Option.some.inj h
      exact k_iret hx hb hr hlk hP hD hS dX10_hears_24
  · have h := ox_t c_2 h
    refine lv_ldc (v := (-1000000001 : Int32)) hx hb hown (hts _ (.tail _ u_k_X10_183)) dX10_hears_8 ?_
    obtain rfl := Option.some.inj h
    exact k_iret hx hb hr hlk hP hD hS dX10_hears_10
set_option maxRecDepth 100000 in
theorem c_X10_hears (l : Launch) (g : gG) (q_t : Nat) (Q_t : Ad) (N : Nat) (F_t : St) (x1 : Int32) (x2 : Int32) (o : Int32 × (Nat → Int32)) (h : x_X10_hears N F_t x1 x2 = some o) (sz : Nat) : MetI l yX10_hears (.code yX10_hears cX10_hears 3 (some .int) :: gW) 4 93 [.ref q_t, .int x1, .int x2] o.1 g [oX10 q_t Q_t (F_t 0 0) (F_t 2 0) (F_t 3 0) (F_t 4 0) (F_t 5 0) (F_t 6 0) (F_t 7 0) (F_t 8 0) (F_t 9 0) (F_t 10 0) (F_t 11 0) (F_t 12 0) (F_t 15 0) (F_t 16 0) (F_t 17 0) (F_t 23 0) (F_t 27 0) (F_t 28 0) (F_t 30 0), ia g (Q_t 18) 16 (F_t 18), ia g (Q_t 19) 30 (F_t 19), ia g (Q_t 20) 174 (F_t 20), ia g (Q_t 21) 174 (F_t 21)] [oX10 q_t Q_t (F_t 0 0) (F_t 2 0) (F_t 3 0) (F_t 4 0) (F_t 5 0) (F_t 6 0) (F_t 7 0) (F_t 8 0) (F_t 9 0) (F_t 10 0) (F_t 11 0) (F_t 12 0) (F_t 15 0) (F_t 16 0) (F_t 17 0) (F_t 23 0) (F_t 27 0) (F_t 28 0) (F_t 30 0), ia g (Q_t 18) 16 (F_t 18), ia g (Q_t 19) 30 (F_t 19), ia g (Q_t 20) 174 (F_t 20), ia g (Q_t 21) 174 o.2] sz :=
  mkI (av := [.ref q_t, .int x1, .int x2]) (by decide +kernel) rfl (fun p e s m below meth c A E H locs ls hP hD hS hl => t_X10_hears E q_t Q_t N F_t x1 x2 o h H locs ls hP hD hS hl) sz
def x_X10_soonest_b35_k82 (N : Nat) (F_t : St) (x2 : Int32) (x4 : Int32) (s0 : Int32) : Option ((Int32 × Int32) ⊕ (Int32)) :=
  some (.inl (s0, (x4 + (1 : Int32))))
set_option maxHeartbeats 4000000 in
set_option maxRecDepth 100000 in
theorem t_X10_soonest_b35_k82 {p : Program} {l : Launch} {e : Env} {s : State} {m : MethodId} {args : Array Value} {below : List Frame} {meth : Method} {c : Code} {g : gG} {A : Nat → Prop} {Q : State → Prop} (E : En p s m args meth c g A cX10_soonest 6 (.code yX10_soonest cX10_soonest 6 (some .int) :: gW) RX10 (some .int)) (q_t : Nat) (Q_t : Ad) (N : Nat) (F_t : St) (x2 : Int32) (x4 : Int32) (s0 : Int32) (o : (Int32 × Int32) ⊕ (Int32)) (h : x_X10_soonest_b35_k82 N F_t x2 x4 s0 = some o) (hc : ∀ z, o = .inl z → WA p l e (rM 4 93) s m args below meth c g A Q 6 35 [oX10 q_t Q_t (F_t 0 0) (F_t 2 0) (F_t 3 0) (F_t 4 0) (F_t 5 0) (F_t 6 0) (F_t 7 0) (F_t 8 0) (F_t 9 0) (F_t 10 0) (F_t 11 0) (F_t 12 0) (F_t 15 0) (F_t 16 0) (F_t 17 0) (F_t 23 0) (F_t 27 0) (F_t 28 0) (F_t 30 0), ia g (Q_t 18) 16 (F_t 18), ia g (Q_t 19) 30 (F_t 19), ia g (Q_t 20) 174 (F_t 20), ia g (Q_t 21) 174 (F_t 21)] [(0, .ref q_t), (2, .int x2), (3, .int z.1), (4, .int z.2)] []) (he : ∀ v, o = .inr v → WA p l e (rM 4 93) s m args below meth c g A Q 6 89 [oX10 q_t Q_t (F_t 0 0) (F_t 2 0) (F_t 3 0) (F_t 4 0) (F_t 5 0) (F_t 6 0) (F_t 7 0) (F_t 8 0) (F_t 9 0) (F_t 10 0) (F_t 11 0) (F_t 12 0) (F_t 15 0) (F_t 16 0) (F_t 17 0) (F_t 23 0) (F_t 27 0) (F_t 28 0) (F_t 30 0), ia g (Q_t 18) 16 (F_t 18), ia g (Q_t 19) 30 (F_t 19), ia g (Q_t 20) 174 (F_t 20), ia g (Q_t 21) 174 (F_t 21)] [(3, .int v)] []) : WA p l e (rM 4 93) s m args below meth c g A Q 6 82 [oX10 q_t Q_t (F_t 0 0) (F_t 2 0) (F_t 3 0) (F_t 4 0) (F_t 5 0) (F_t 6 0) (F_t 7 0) (F_t 8 0) (F_t 9 0) (F_t 10 0) (F_t 11 0) (F_t 12 0) (F_t 15 0) (F_t 16 0) (F_t 17 0) (F_t 23 0) (F_t 27 0) (F_t 28 0) (F_t 30 0), ia g (Q_t 18) 16 (F_t 18), ia g (Q_t 19) 30 (F_t 19), ia g (Q_t 20) 174 (F_t 20), ia g (Q_t 21) 174 (F_t 21)] [(0, .ref q_t), (2, .int x2), (4, .int x4)] [.int s0] := by
  obtain ⟨⟨hx, hb, hml, hown, hts⟩, hr, hK, hA, hlk⟩ := id E
  intro H locs ls hP hD hS hl
  refine lv_istore_n (lv' := [(3, .int s0), (0, .ref q_t), (2, .int x2), (4, .int x4)]) hx hb dX10_soonest_82 rfl hl (by decide) rfl (fun ls hl => ?_)
  refine lv_iinc (v := (x4 + (1 : Int32))) (lv' := [(4, .int (x4 + (1 : Int32))), (3, .int s0), (0, .ref q_t), (2, .int x2)]) hx hb dX10_soonest_83 hl (k := 3) rfl rfl (by decide) rfl (fun ls hl => ?_)
  refine lv_goto (tgt := 35) hx hb dX10_soonest_86 (by decide) ?_
  obtain rfl := Option.some.inj h
  exact hc _ rfl H locs ls hP hD hS (lv_sub hl [2, 3, 1, 0] rfl)
def x_X10_soonest_b35_k81 (N : Nat) (F_t : St) (x2 : Int32) (x3 : Int32) (x4 : Int32) : Option ((Int32 × Int32) ⊕ (Int32)) :=
  x_X10_soonest_b35_k82 N F_t x2 x4 x3
set_option maxHeartbeats 4000000 in
set_option maxRecDepth 100000 in
theorem t_X10_soonest_b35_k81 {p : Program} {l : Launch} {e : Env} {s : State} {m : MethodId} {args : Array Value} {below : List Frame} {meth : Method} {c : Code} {g : gG} {A : Nat → Prop} {Q : State → Prop} (E : En p s m args meth c g A cX10_soonest 6 (.code yX10_soonest cX10_soonest 6 (some .int) :: gW) RX10 (some .int)) (q_t : Nat) (Q_t : Ad) (N : Nat) (F_t : St) (x2 : Int32) (x3 : Int32) (x4 : Int32) (o : (Int32 × Int32) ⊕ (Int32)) (h : x_X10_soonest_b35_k81 N F_t x2 x3 x4 = some o) (hc : ∀ z, o = .inl z → WA p l e (rM 4 93) s m args below meth c g A Q 6 35 [oX10 q_t Q_t (F_t 0 0) (F_t 2 0) (F_t 3 0) (F_t 4 0) (F_t 5 0) (F_t 6 0) (F_t 7 0) (F_t 8 0) (F_t 9 0) (F_t 10 0) (F_t 11 0) (F_t 12 0) (F_t 15 0) (F_t 16 0) (F_t 17 0) (F_t 23 0) (F_t 27 0) (F_t 28 0) (F_t 30 0), ia g (Q_t 18) 16 (F_t 18), ia g (Q_t 19) 30 (F_t 19), ia g (Q_t 20) 174 (F_t 20), ia g (Q_t 21) 174 (F_t 21)] [(0, .ref q_t), (2, .int x2), (3, .int z.1), (4, .int z.2)] []) (he : ∀ v, o = .inr v → WA p l e (rM 4 93) s m args below meth c g A Q 6 89 [oX10 q_t Q_t (F_t 0 0) (F_t 2 0) (F_t 3 0) (F_t 4 0) (F_t 5 0) (F_t 6 0) (F_t 7 0) (F_t 8 0) (F_t 9 0) (F_t 10 0) (F_t 11 0) (F_t 12 0) (F_t 15 0) (F_t 16 0) (F_t 17 0) (F_t 23 0) (F_t 27 0) (F_t 28 0) (F_t 30 0), ia g (Q_t 18) 16 (F_t 18), ia g (Q_t 19) 30 (F_t 19), ia g (Q_t 20) 174 (F_t 20), ia g (Q_t 21) 174 (F_t 21)] [(3, .int v)] []) : WA p l e (rM 4 93) s m args below meth c g A Q 6 81 [oX10 q_t Q_t (F_t 0 0) (F_t 2 0) (F_t 3 0) (F_t 4 0) (F_t 5 0) (F_t 6 0) (F_t 7 0) (F_t 8 0) (F_t 9 0) (F_t 10 0) (F_t 11 0) (F_t 12 0) (F_t 15 0) (F_t 16 0) (F_t 17 0) (F_t 23 0) (F_t 27 0) (F_t 28 0) (F_t 30 0), ia g (Q_t 18) 16 (F_t 18), ia g (Q_t 19) 30 (F_t 19), ia g (Q_t 20) 174 (F_t 20), ia g (Q_t 21) 174 (F_t 21)] [(0, .ref q_t), (2, .int x2), (3, .int x3), (4, .int x4)] [] := by
  obtain ⟨⟨hx, hb, hml, hown, hts⟩, hr, hK, hA, hlk⟩ := id E
  intro H locs ls hP hD hS hl
  refine lv_iload_n hx hb dX10_soonest_81 rfl (lv_at hl 2 rfl) ?_
  exact t_X10_soonest_b35_k82 E q_t Q_t N F_t x2 x4 x3 _ h hc he H locs ls hP hD hS (lv_sub hl [0, 1, 3] rfl)
def x_X10_soonest_b35_k76 (N : Nat) (F_t : St) (x2 : Int32) (x4 : Int32) (x5 : Int32) : Option ((Int32 × Int32) ⊕ (Int32)) :=
  x_X10_soonest_b35_k82 N F_t x2 x4 x5
set_option maxHeartbeats 4000000 in
set_option maxRecDepth 100000 in
theorem t_X10_soonest_b35_k76 {p : Program} {l : Launch} {e : Env} {s : State} {m : MethodId} {args : Array Value} {below : List Frame} {meth : Method} {c : Code} {g : gG} {A : Nat → Prop} {Q : State → Prop} (E : En p s m args meth c g A cX10_soonest 6 (.code yX10_soonest cX10_soonest 6 (some .int) :: gW) RX10 (some .int)) (q_t : Nat) (Q_t : Ad) (N : Nat) (F_t : St) (x2 : Int32) (x4 : Int32) (x5 : Int32) (o : (Int32 × Int32) ⊕ (Int32)) (h : x_X10_soonest_b35_k76 N F_t x2 x4 x5 = some o) (hc : ∀ z, o = .inl z → WA p l e (rM 4 93) s m args below meth c g A Q 6 35 [oX10 q_t Q_t (F_t 0 0) (F_t 2 0) (F_t 3 0) (F_t 4 0) (F_t 5 0) (F_t 6 0) (F_t 7 0) (F_t 8 0) (F_t 9 0) (F_t 10 0) (F_t 11 0) (F_t 12 0) (F_t 15 0) (F_t 16 0) (F_t 17 0) (F_t 23 0) (F_t 27 0) (F_t 28 0) (F_t 30 0), ia g (Q_t 18) 16 (F_t 18), ia g (Q_t 19) 30 (F_t 19), ia g (Q_t 20) 174 (F_t 20), ia g (Q_t 21) 174 (F_t 21)] [(0, .ref q_t), (2, .int x2), (3, .int z.1), (4, .int z.2)] []) (he : ∀ v, o = .inr v → WA p l e (rM 4 93) s m args below meth c g A Q 6 89 [oX10 q_t Q_t (F_t 0 0) (F_t 2 0) (F_t 3 0) (F_t 4 0) (F_t 5 0) (F_t 6 0) (F_t 7 0) (F_t 8 0) (F_t 9 0) (F_t 10 0) (F_t 11 0) (F_t 12 0) (F_t 15 0) (F_t 16 0) (F_t 17 0) (F_t 23 0) (F_t 27 0) (F_t 28 0) (F_t 30 0), ia g (Q_t 18) 16 (F_t 18), ia g (Q_t 19) 30 (F_t 19), ia g (Q_t 20) 174 (F_t 20), ia g (Q_t 21) 174 (F_t 21)] [(3, .int v)] []) : WA p l e (rM 4 93) s m args below meth c g A Q 6 76 [oX10 q_t Q_t (F_t 0 0) (F_t 2 0) (F_t 3 0) (F_t 4 0) (F_t 5 0) (F_t 6 0) (F_t 7 0) (F_t 8 0) (F_t 9 0) (F_t 10 0) (F_t 11 0) (F_t 12 0) (F_t 15 0) (F_t 16 0) (F_t 17 0) (F_t 23 0) (F_t 27 0) (F_t 28 0) (F_t 30 0), ia g (Q_t 18) 16 (F_t 18), ia g (Q_t 19) 30 (F_t 19), ia g (Q_t 20) 174 (F_t 20), ia g (Q_t 21) 174 (F_t 21)] [(0, .ref q_t), (2, .int x2), (4, .int x4), (5, .int x5)] [] := by
  obtain ⟨⟨hx, hb, hml, hown, hts⟩, hr, hK, hA, hlk⟩ := id E
  intro H locs ls hP hD hS hl
  refine lv_iload hx hb dX10_soonest_76 (lv_at hl 3 rfl) ?_
  refine lv_goto (tgt := 82) hx hb dX10_soonest_78 (by decide) ?_
  exact t_X10_soonest_b35_k82 E q_t Q_t N F_t x2 x4 x5 _ h hc he H locs ls hP hD hS (lv_sub hl [0, 1, 2] rfl)
def x_X10_soonest_b35 (N : Nat) (F_t : St) (x2 : Int32) (x3 : Int32) (x4 : Int32) : Option ((Int32 × Int32) ⊕ (Int32)) :=
  if (8 : Int32) ≤ x4 then (some (.inr x3)) else (if (((88 : Int32) + ((8 : Int32) * x2)) + x4) < 0 ∨ 174 ≤ (((88 : Int32) + ((8 : Int32) * x2)) + x4).toNatClampNeg then none else xl ((F_t 21) (((88 : Int32) + ((8 : Int32) * x2)) + x4).toNatClampNeg) (fun y_8 => if y_8 = (-1 : Int32) then (x_X10_soonest_b35_k81 N F_t x2 x3 x4) else (if x3 = (-1 : Int32) then (x_X10_soonest_b35_k76 N F_t x2 x4 y_8) else (if x3 ≤ y_8 then (x_X10_soonest_b35_k81 N F_t x2 x3 x4) else (x_X10_soonest_b35_k76 N F_t x2 x4 y_8)))))
set_option maxHeartbeats 4000000 in
set_option maxRecDepth 100000 in
theorem t_X10_soonest_b35 {p : Program} {l : Launch} {e : Env} {s : State} {m : MethodId} {args : Array Value} {below : List Frame} {meth : Method} {c : Code} {g : gG} {A : Nat → Prop} {Q : State → Prop} (E : En p s m args meth c g A cX10_soonest 6 (.code yX10_soonest cX10_soonest 6 (some .int) :: gW) RX10 (some .int)) (q_t : Nat) (Q_t : Ad) (N : Nat) (F_t : St) (x2 : Int32) (x3 : Int32) (x4 : Int32) (o : (Int32 × Int32) ⊕ (Int32)) (h : x_X10_soonest_b35 N F_t x2 x3 x4 = some o) (hc : ∀ z, o = .inl z → WA p l e (rM 4 93) s m args below meth c g A Q 6 35 [oX10 q_t Q_t (F_t 0 0) (F_t 2 0) (F_t 3 0) (F_t 4 0) (F_t 5 0) (F_t 6 0) (F_t 7 0) (F_t 8 0) (F_t 9 0) (F_t 10 0) (F_t 11 0) (F_t 12 0) (F_t 15 0) (F_t 16 0) (F_t 17 0) (F_t 23 0) (F_t 27 0) (F_t 28 0) (F_t 30 0), ia g (Q_t 18) 16 (F_t 18), ia g (Q_t 19) 30 (F_t 19), ia g (Q_t 20) 174 (F_t 20), ia g (Q_t 21) 174 (F_t 21)] [(0, .ref q_t), (2, .int x2), (3, .int z.1), (4, .int z.2)] []) (he : ∀ v, o = .inr v → WA p l e (rM 4 93) s m args below meth c g A Q 6 89 [oX10 q_t Q_t (F_t 0 0) (F_t 2 0) (F_t 3 0) (F_t 4 0) (F_t 5 0) (F_t 6 0) (F_t 7 0) (F_t 8 0) (F_t 9 0) (F_t 10 0) (F_t 11 0) (F_t 12 0) (F_t 15 0) (F_t 16 0) (F_t 17 0) (F_t 23 0) (F_t 27 0) (F_t 28 0) (F_t 30 0), ia g (Q_t 18) 16 (F_t 18), ia g (Q_t 19) 30 (F_t 19), ia g (Q_t 20) 174 (F_t 20), ia g (Q_t 21) 174 (F_t 21)] [(3, .int v)] []) : WA p l e (rM 4 93) s m args below meth c g A Q 6 35 [oX10 q_t Q_t (F_t 0 0) (F_t 2 0) (F_t 3 0) (F_t 4 0) (F_t 5 0) (F_t 6 0) (F_t 7 0) (F_t 8 0) (F_t 9 0) (F_t 10 0) (F_t 11 0) (F_t 12 0) (F_t 15 0) (F_t 16 0) (F_t 17 0) (F_t 23 0) (F_t 27 0) (F_t 28 0) (F_t 30 0), ia g (Q_t 18) 16 (F_t 18), ia g (Q_t 19) 30 (F_t 19), ia g (Q_t 20) 174 (F_t 20), ia g (Q_t 21) 174 (F_t 21)] [(0, .ref q_t), (2, .int x2), (3, .int x3), (4, .int x4)] [] := by
  obtain ⟨⟨hx, hb, hml, hown, hts⟩, hr, hK, hA, hlk⟩ := id E
  intro H locs ls hP hD hS hl
  refine lv_iload hx hb dX10_soonest_35 (lv_at hl 3 rfl) ?_
  refine lv_bipush (v := (8 : Int32)) hx hb dX10_soonest_37 (by decide) ?_
  refine lv_icmp_ge (tgt := 89) hx hb dX10_soonest_39 (by decide) (fun c_6 => ?_) (fun c_6 => ?_)
  · have h := ox_t c_6 h
    obtain rfl := Option.some.inj h
    exact he _ rfl H locs ls hP hD hS (lv_sub hl [2] rfl)
  · have h := ox_f c_6 h
    refine lv_aload_n hx hb dX10_soonest_42 rfl (lv_at hl 0 rfl) ?_
    refine va_get (ci := 10) (v := .ref (Q_t 21)) (C := RX10) (T := TX10) (N := 38) hx hb hts (fun w h => .tail _ (u_inX10 w h)) hown hK.1 hP 0 rfl rfl 21 (by decide) (hts _ (.tail _ u_fl_X10_32)) (fun _ h9 => h9) rfl dX10_soonest_43 ?_
    refine lv_bipush (v := (88 : Int32)) hx hb dX10_soonest_46 (by decide) ?_
    refine lv_bipush (v := (8 : Int32)) hx hb dX10_soonest_48 (by decide) ?_
    refine lv_iload_n hx hb dX10_soonest_50 rfl (lv_at hl 1 rfl) ?_
    refine lv_imul hx hb dX10_soonest_51 ?_
    refine lv_iadd hx hb dX10_soonest_52 ?_
    refine lv_iload hx hb dX10_soonest_53 (lv_at hl 3 rfl) ?_
    refine lv_iadd hx hb dX10_soonest_55 ?_
    obtain ⟨hi_7, h⟩ := ox_chk h
    refine va_iald hx hb hK.1 hP 4 0 rfl rfl hi_7 dX10_soonest_56 ?_
    refine lv_topi (fun y_8 ey_8 => ?_)
    have h := xl_at ey_8 h
    refine lv_istore (lv' := [(5, .int y_8), (0, .ref q_t), (2, .int x2), (3, .int x3), (4, .int x4)]) hx hb dX10_soonest_57 hl (by decide) rfl (fun ls hl => ?_)
    refine lv_iload hx hb dX10_soonest_59 (lv_at hl 0 rfl) ?_
    refine lv_iconst (v := (-1 : Int32)) hx hb dX10_soonest_61 (by decide) ?_
    refine lv_icmp_eq (tgt := 81) hx hb dX10_soonest_62 (by decide) (fun c_9 => ?_) (fun c_9 => ?_)
    · have h := ox_t c_9 h
      exact t_X10_soonest_b35_k81 E q_t Q_t N F_t x2 x3 x4 _ h hc he H locs ls hP hD hS (lv_sub hl [1, 2, 3, 4] rfl)
    · have h := ox_f c_9 h
      refine lv_iload_n hx hb dX10_soonest_65 rfl (lv_at hl 3 rfl) ?_
      refine lv_iconst (v := (-1 : Int32)) hx hb dX10_soonest_66 (by decide) ?_
      refine lv_icmp_eq (tgt := 76) hx hb dX10_soonest_67 (by decide) (fun c_10 => ?_) (fun c_10 => ?_)
      · have h := ox_t c_10 h
        exact t_X10_soonest_b35_k76 E q_t Q_t N F_t x2 x4 y_8 _ h hc he H locs ls hP hD hS (lv_sub hl [1, 2, 4, 0] rfl)
      · have h := ox_f c_10 h
        refine lv_iload hx hb dX10_soonest_70 (lv_at hl 0 rfl) ?_
        refine lv_iload_n hx hb dX10_soonest_72 rfl (lv_at hl 3 rfl) ?_
        refine lv_icmp_ge (tgt := 81) hx hb dX10_soonest_73 (by decide) (fun c_11 => ?_) (fun c_11 => ?_)
        · have h := ox_t c_11 h
          exact t_X10_soonest_b35_k81 E q_t Q_t N F_t x2 x3 x4 _ h hc he H locs ls hP hD hS (lv_sub hl [1, 2, 3, 4] rfl)
        · have h := ox_f c_11 h
          exact t_X10_soonest_b35_k76 E q_t Q_t N F_t x2 x4 y_8 _ h hc he H locs ls hP hD hS (lv_sub hl [1, 2, 4, 0] rfl)
def x_X10_soonest (N : Nat) (F_t : St) (x1 : Int32) (x2 : Int32) : Option (Int32 × (Nat → Int32)) :=
  Option.bind (x_X10_isPlace F_t x2) (fun v_1 => if v_1 = 0 then (some ((-1000000001 : Int32), (F_t 21))) else (Option.bind (x_X10_in x1 (0 : Int32) (255 : Int32)) (fun v_3 => if v_3 = 0 then (some ((-1000000002 : Int32), (F_t 21))) else (Option.bind (x_X10_layTried N F_t x1) (fun v_5 => Option.bind (lpc (fun (z : Int32 × Int32) => x_X10_soonest_b35 N (va_up F_t 21 v_5) x2 z.1 z.2) N ((-1 : Int32), (0 : Int32))) (fun v_12 => some (v_12, v_5)))))))
set_option maxHeartbeats 4000000 in
set_option maxRecDepth 100000 in
theorem t_X10_soonest {p : Program} {l : Launch} {e : Env} {s : State} {m : MethodId} {args : Array Value} {below : List Frame} {meth : Method} {c : Code} {g : gG} {A : Nat → Prop} (E : En p s m args meth c g A cX10_soonest 6 (.code yX10_soonest cX10_soonest 6 (some .int) :: gW) RX10 (some .int)) (q_t : Nat) (Q_t : Ad) (N : Nat) (F_t : St) (x1 : Int32) (x2 : Int32) (o : Int32 × (Nat → Int32)) (h : x_X10_soonest N F_t x1 x2 = some o) : WA p l e (rM 4 93) s m args below meth c g A (MQ below (QI g A o.1 [oX10 q_t Q_t (F_t 0 0) (F_t 2 0) (F_t 3 0) (F_t 4 0) (F_t 5 0) (F_t 6 0) (F_t 7 0) (F_t 8 0) (F_t 9 0) (F_t 10 0) (F_t 11 0) (F_t 12 0) (F_t 15 0) (F_t 16 0) (F_t 17 0) (F_t 23 0) (F_t 27 0) (F_t 28 0) (F_t 30 0), ia g (Q_t 18) 16 (F_t 18), ia g (Q_t 19) 30 (F_t 19), ia g (Q_t 20) 174 (F_t 20), ia g (Q_t 21) 174 o.2]) args s 0 0 A) 6 0 [oX10 q_t Q_t (F_t 0 0) (F_t 2 0) (F_t 3 0) (F_t 4 0) (F_t 5 0) (F_t 6 0) (F_t 7 0) (F_t 8 0) (F_t 9 0) (F_t 10 0) (F_t 11 0) (F_t 12 0) (F_t 15 0) (F_t 16 0) (F_t 17 0) (F_t 23 0) (F_t 27 0) (F_t 28 0) (F_t 30 0), ia g (Q_t 18) 16 (F_t 18), ia g (Q_t 19) 30 (F_t 19), ia g (Q_t 20) 174 (F_t 20), ia g (Q_t 21) 174 (F_t 21)] [(0, .ref q_t), (1, .int x1), (2, .int x2)] [] := by
  obtain ⟨⟨hx, hb, hml, hown, hts⟩, hr, hK, hA, hlk⟩ := id E
  intro H locs ls hP hD hS hl
  refine lv_aload_n hx hb dX10_soonest_0 rfl (lv_at hl 0 rfl) ?_
  refine lv_iload_n hx hb dX10_soonest_1 rfl (lv_at hl 2 rfl) ?_
  obtain ⟨v_1, hv_1, h⟩ := ox_bind h
  refine kVi ⟨hx, hb, hml, hown, hts⟩ (c_X10_isPlace l g q_t Q_t F_t x2 v_1 hv_1 H.size) (gV u_ml_X10_180 u_im_X10_isPlace u_se_X10_isPlace u_ini_X10 u_co_X10_isPlace) hd_X10_isPlace ⟨rfl, rfl⟩ hK hP hD hS hA 0 10 rfl rfl [0] [0, 2, 3, 4, 5] rfl rfl 1 rfl (w2 := [oX10 q_t Q_t (F_t 0 0) (F_t 2 0) (F_t 3 0) (F_t 4 0) (F_t 5 0) (F_t 6 0) (F_t 7 0) (F_t 8 0) (F_t 9 0) (F_t 10 0) (F_t 11 0) (F_t 12 0) (F_t 15 0) (F_t 16 0) (F_t 17 0) (F_t 23 0) (F_t 27 0) (F_t 28 0) (F_t 30 0), ia g (Q_t 18) 16 (F_t 18), ia g (Q_t 19) 30 (F_t 19), ia g (Q_t 20) 174 (F_t 20), ia g (Q_t 21) 174 (F_t 21)]) rfl rfl (As := [.int x2]) (rest := []) rfl hl.1 rfl rfl dX10_soonest_2 (fun H locs hP hD hS => ?_)
  refine lv_if_ne (tgt := 11) hx hb dX10_soonest_5 (by decide) (fun c_2 => ?_) (fun c_2 => ?_)
  · have h := ox_f c_2 h
    refine lv_iload_n hx hb dX10_soonest_11 rfl (lv_at hl 1 rfl) ?_
    refine lv_iconst (v := (0 : Int32)) hx hb dX10_soonest_12 (by decide) ?_
    refine lv_sipush (v := (255 : Int32)) hx hb dX10_soonest_13 (by decide) ?_
    obtain ⟨v_3, hv_3, h⟩ := ox_bind h
    refine kSi ⟨hx, hb, hml, hown, hts⟩ (c_X10_in l g x1 (0 : Int32) (255 : Int32) v_3 hv_3 H.size) (gS u_ml_X10_83 u_st_X10_in u_ini_X10 u_co_X10_in) hd_X10_in ⟨rfl, rfl⟩ hK hP hD hS hA [] [0, 1, 2, 3, 4] rfl rfl 0 rfl (w2 := [oX10 q_t Q_t (F_t 0 0) (F_t 2 0) (F_t 3 0) (F_t 4 0) (F_t 5 0) (F_t 6 0) (F_t 7 0) (F_t 8 0) (F_t 9 0) (F_t 10 0) (F_t 11 0) (F_t 12 0) (F_t 15 0) (F_t 16 0) (F_t 17 0) (F_t 23 0) (F_t 27 0) (F_t 28 0) (F_t 30 0), ia g (Q_t 18) 16 (F_t 18), ia g (Q_t 19) 30 (F_t 19), ia g (Q_t 20) 174 (F_t 20), ia g (Q_t 21) 174 (F_t 21)]) rfl rfl (As := [.int x1, .int (0 : Int32), .int (255 : Int32)]) (rest := []) rfl hl.1 rfl rfl dX10_soonest_16 (fun H locs hP hD hS => ?_)
    refine lv_if_ne (tgt := 25) hx hb dX10_soonest_19 (by decide) (fun c_4 => ?_) (fun c_4 => ?_)
    · have h := ox_f c_4 h
      refine lv_aload_n hx hb dX10_soonest_25 rfl (lv_at hl 0 rfl) ?_
      refine lv_iload_n hx hb dX10_soonest_26 rfl (lv_at hl 1 rfl) ?_
      obtain ⟨v_5, hv_5, h⟩ := ox_bind h
      refine kVv ⟨hx, hb, hml, hown, hts⟩ (c_X10_layTried l g q_t Q_t N F_t x1 v_5 hv_5 H.size) (gV u_ml_X10_225 u_im_X10_layTried u_se_X10_layTried u_ini_X10 u_co_X10_layTried) hd_X10_layTried ⟨rfl, rfl⟩ hK hP hD hS hA 0 10 rfl rfl [0, 1, 2, 3, 4] [0, 1, 2, 3, 4] rfl rfl 5 rfl (w2 := [oX10 q_t Q_t (F_t 0 0) (F_t 2 0) (F_t 3 0) (F_t 4 0) (F_t 5 0) (F_t 6 0) (F_t 7 0) (F_t 8 0) (F_t 9 0) (F_t 10 0) (F_t 11 0) (F_t 12 0) (F_t 15 0) (F_t 16 0) (F_t 17 0) (F_t 23 0) (F_t 27 0) (F_t 28 0) (F_t 30 0), ia g (Q_t 18) 16 (F_t 18), ia g (Q_t 19) 30 (F_t 19), ia g (Q_t 20) 174 (F_t 20), ia g (Q_t 21) 174 v_5]) rfl rfl (As := [.int x1]) (rest := []) rfl hl.1 rfl rfl dX10_soonest_27 (fun H locs hP hD hS => ?_)
      refine lv_iconst (v := (-1 : Int32)) hx hb dX10_soonest_30 (by decide) ?_
      refine lv_istore_n (lv' := [(3, .int (-1 : Int32)), (0, .ref q_t), (1, .int x1), (2, .int x2)]) hx hb dX10_soonest_31 rfl hl (by decide) rfl (fun ls hl => ?_)
      refine lv_iconst (v := (0 : Int32)) hx hb dX10_soonest_32 (by decide) ?_
      refine lv_istore (lv' := [(4, .int (0 : Int32)), (3, .int (-1 : Int32)), (0, .ref q_t), (1, .int x1), (2, .int x2)]) hx hb dX10_soonest_33 hl (by decide) rfl (fun ls hl => ?_)
      obtain ⟨v_12, hv_12, h⟩ := ox_bind h
      refine lpc_W (Wh := fun (z : Int32 × Int32) => WA p l e (rM 4 93) s m args below meth c g A (MQ below (QI g A o.1 [oX10 q_t Q_t (F_t 0 0) (F_t 2 0) (F_t 3 0) (F_t 4 0) (F_t 5 0) (F_t 6 0) (F_t 7 0) (F_t 8 0) (F_t 9 0) (F_t 10 0) (F_t 11 0) (F_t 12 0) (F_t 15 0) (F_t 16 0) (F_t 17 0) (F_t 23 0) (F_t 27 0) (F_t 28 0) (F_t 30 0), ia g (Q_t 18) 16 (F_t 18), ia g (Q_t 19) 30 (F_t 19), ia g (Q_t 20) 174 (F_t 20), ia g (Q_t 21) 174 o.2]) args s 0 0 A) 6 35 [oX10 q_t Q_t (F_t 0 0) (F_t 2 0) (F_t 3 0) (F_t 4 0) (F_t 5 0) (F_t 6 0) (F_t 7 0) (F_t 8 0) (F_t 9 0) (F_t 10 0) (F_t 11 0) (F_t 12 0) (F_t 15 0) (F_t 16 0) (F_t 17 0) (F_t 23 0) (F_t 27 0) (F_t 28 0) (F_t 30 0), ia g (Q_t 18) 16 (F_t 18), ia g (Q_t 19) 30 (F_t 19), ia g (Q_t 20) 174 (F_t 20), ia g (Q_t 21) 174 v_5] [(0, .ref q_t), (2, .int x2), (3, .int z.1), (4, .int z.2)] []) (We := fun (v : Int32) => WA p l e (rM 4 93) s m args below meth c g A (MQ below (QI g A o.1 [oX10 q_t Q_t (F_t 0 0) (F_t 2 0) (F_t 3 0) (F_t 4 0) (F_t 5 0) (F_t 6 0) (F_t 7 0) (F_t 8 0) (F_t 9 0) (F_t 10 0) (F_t 11 0) (F_t 12 0) (F_t 15 0) (F_t 16 0) (F_t 17 0) (F_t 23 0) (F_t 27 0) (F_t 28 0) (F_t 30 0), ia g (Q_t 18) 16 (F_t 18), ia g (Q_t 19) 30 (F_t 19), ia g (Q_t 20) 174 (F_t 20), ia g (Q_t 21) 174 o.2]) args s 0 0 A) 6 89 [oX10 q_t Q_t (F_t 0 0) (F_t 2 0) (F_t 3 0) (F_t 4 0) (F_t 5 0) (F_t 6 0) (F_t 7 0) (F_t 8 0) (F_t 9 0) (F_t 10 0) (F_t 11 0) (F_t 12 0) (F_t 15 0) (F_t 16 0) (F_t 17 0) (F_t 23 0) (F_t 27 0) (F_t 28 0) (F_t 30 0), ia g (Q_t 18) 16 (F_t 18), ia g (Q_t 19) 30 (F_t 19), ia g (Q_t 20) 174 (F_t 20), ia g (Q_t 21) 174 v_5] [(3, .int v)] []) (fun z r hb hc he => t_X10_soonest_b35 E q_t Q_t N (va_up F_t 21 v_5) x2 z.1 z.2 r hb hc he) N ((-1 : Int32), (0 : Int32)) v_12 hv_12 ?_ H locs ls hP hD hS (lv_sub hl [2, 4, 1, 0] rfl)
      intro H locs ls hP hD hS hl
      refine lv_iload_n hx hb dX10_soonest_89 rfl (lv_at hl 0 rfl) ?_
      obtain rfl := Option.some.inj h
      exact k_iret hx hb hr hlk hP hD hS dX10_soonest_90
    · have h := ox_t c_4 h
      refine lv_ldc (v := (-1000000002 : Int32)) hx hb hown (hts _ (.tail _ u_k_X10_90)) dX10_soonest_22 ?_
      obtain rfl := Option.some.inj h
      exact k_iret hx hb hr hlk hP hD hS dX10_soonest_24
  · have h := ox_t c_2 h
    refine lv_ldc (v := (-1000000001 : Int32)) hx hb hown (hts _ (.tail _ u_k_X10_183)) dX10_soonest_8 ?_
    obtain rfl := Option.some.inj h
    exact k_iret hx hb hr hlk hP hD hS dX10_soonest_10
set_option maxRecDepth 100000 in
theorem c_X10_soonest (l : Launch) (g : gG) (q_t : Nat) (Q_t : Ad) (N : Nat) (F_t : St) (x1 : Int32) (x2 : Int32) (o : Int32 × (Nat → Int32)) (h : x_X10_soonest N F_t x1 x2 = some o) (sz : Nat) : MetI l yX10_soonest (.code yX10_soonest cX10_soonest 6 (some .int) :: gW) 4 93 [.ref q_t, .int x1, .int x2] o.1 g [oX10 q_t Q_t (F_t 0 0) (F_t 2 0) (F_t 3 0) (F_t 4 0) (F_t 5 0) (F_t 6 0) (F_t 7 0) (F_t 8 0) (F_t 9 0) (F_t 10 0) (F_t 11 0) (F_t 12 0) (F_t 15 0) (F_t 16 0) (F_t 17 0) (F_t 23 0) (F_t 27 0) (F_t 28 0) (F_t 30 0), ia g (Q_t 18) 16 (F_t 18), ia g (Q_t 19) 30 (F_t 19), ia g (Q_t 20) 174 (F_t 20), ia g (Q_t 21) 174 (F_t 21)] [oX10 q_t Q_t (F_t 0 0) (F_t 2 0) (F_t 3 0) (F_t 4 0) (F_t 5 0) (F_t 6 0) (F_t 7 0) (F_t 8 0) (F_t 9 0) (F_t 10 0) (F_t 11 0) (F_t 12 0) (F_t 15 0) (F_t 16 0) (F_t 17 0) (F_t 23 0) (F_t 27 0) (F_t 28 0) (F_t 30 0), ia g (Q_t 18) 16 (F_t 18), ia g (Q_t 19) 30 (F_t 19), ia g (Q_t 20) 174 (F_t 20), ia g (Q_t 21) 174 o.2] sz :=
  mkI (av := [.ref q_t, .int x1, .int x2]) (by decide +kernel) rfl (fun p e s m below meth c A E H locs ls hP hD hS hl => t_X10_soonest E q_t Q_t N F_t x1 x2 o h H locs ls hP hD hS hl) sz
