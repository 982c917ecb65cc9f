def x_J6_bitCount_0f7a4 (x0 : Int32) : Option (Int32) :=
  xl (x0 - (((x0.toUInt32 >>> ((1 : Int32).toUInt32 &&& Int32.toUInt32 31)).toInt32) &&& (1431655765 : Int32))) (fun y_1 => xl ((y_1 &&& (858993459 : Int32)) + (((y_1.toUInt32 >>> ((2 : Int32).toUInt32 &&& Int32.toUInt32 31)).toInt32) &&& (858993459 : Int32))) (fun y_2 => xl ((y_2 + ((y_2.toUInt32 >>> ((4 : Int32).toUInt32 &&& Int32.toUInt32 31)).toInt32)) &&& (252645135 : Int32)) (fun y_3 => xl (y_3 + ((y_3.toUInt32 >>> ((8 : Int32).toUInt32 &&& Int32.toUInt32 31)).toInt32)) (fun y_4 => xl (y_4 + ((y_4.toUInt32 >>> ((16 : Int32).toUInt32 &&& Int32.toUInt32 31)).toInt32)) (fun y_5 => some (y_5 &&& (63 : Int32)))))))
set_option maxHeartbeats 4000000 in
set_option maxRecDepth 100000 in
theorem t_J6_bitCount_0f7a4 {p : Program} {l : Launch} {e : Env} {s : State} {m : MethodId} {args : Array Value} {below : List Frame} {meth : Method} {c : Code} {g : gG} {A : Nat → Prop} (E : En p s m args meth c g A cJ6_bitCount_0f7a4 1 (.code yJ6_bitCount_0f7a4 cJ6_bitCount_0f7a4 1 (some .int) :: gW) RJ6 (some .int)) (x0 : Int32) (o : Int32) (h : x_J6_bitCount_0f7a4 x0 = some o) : WA p l e (rM 0 0) s m args below meth c g A (MQ below (QI g A o []) args s 0 0 A) 1 0 [] [(0, .int x0)] [] := by
  obtain ⟨⟨hx, hb, hml, hown, hts⟩, hr, hK, hA, hlk⟩ := id E
  intro H locs ls hP hD hS hl
  refine lv_iload_n hx hb dJ6_bitCount_0f7a4_0 rfl (lv_at hl 0 rfl) ?_
  refine lv_iload_n hx hb dJ6_bitCount_0f7a4_1 rfl (lv_at hl 0 rfl) ?_
  refine lv_iconst (v := (1 : Int32)) hx hb dJ6_bitCount_0f7a4_2 (by decide) ?_
  refine lv_iushr (v := ((x0.toUInt32 >>> ((1 : Int32).toUInt32 &&& Int32.toUInt32 31)).toInt32)) hx hb dJ6_bitCount_0f7a4_3 rfl ?_
  refine lv_ldcw (v := (1431655765 : Int32)) hx hb hown (hts _ (.tail _ u_k_J6_265)) dJ6_bitCount_0f7a4_4 ?_
  refine lv_iand hx hb dJ6_bitCount_0f7a4_7 ?_
  refine lv_isub hx hb dJ6_bitCount_0f7a4_8 ?_
  refine lv_topi (fun y_1 ey_1 => ?_)
  have h := xl_at ey_1 h
  refine lv_istore_n (lv' := [(0, .int y_1)]) hx hb dJ6_bitCount_0f7a4_9 rfl hl (by decide) rfl (fun ls hl => ?_)
  refine lv_iload_n hx hb dJ6_bitCount_0f7a4_10 rfl (lv_at hl 0 rfl) ?_
  refine lv_ldcw (v := (858993459 : Int32)) hx hb hown (hts _ (.tail _ u_k_J6_266)) dJ6_bitCount_0f7a4_11 ?_
  refine lv_iand hx hb dJ6_bitCount_0f7a4_14 ?_
  refine lv_iload_n hx hb dJ6_bitCount_0f7a4_15 rfl (lv_at hl 0 rfl) ?_
  refine lv_iconst (v := (2 : Int32)) hx hb dJ6_bitCount_0f7a4_16 (by decide) ?_
  refine lv_iushr (v := ((y_1.toUInt32 >>> ((2 : Int32).toUInt32 &&& Int32.toUInt32 31)).toInt32)) hx hb dJ6_bitCount_0f7a4_17 rfl ?_
  refine lv_ldcw (v := (858993459 : Int32)) hx hb hown (hts _ (.tail _ u_k_J6_266)) dJ6_bitCount_0f7a4_18 ?_
  refine lv_iand hx hb dJ6_bitCount_0f7a4_21 ?_
  refine lv_iadd hx hb dJ6_bitCount_0f7a4_22 ?_
  refine lv_topi (fun y_2 ey_2 => ?_)
  have h := xl_at ey_2 h
  refine lv_istore_n (lv' := [(0, .int y_2)]) hx hb dJ6_bitCount_0f7a4_23 rfl hl (by decide) rfl (fun ls hl => ?_)
  refine lv_iload_n hx hb dJ6_bitCount_0f7a4_24 rfl (lv_at hl 0 rfl) ?_
  refine lv_iload_n hx hb dJ6_bitCount_0f7a4_25 rfl (lv_at hl 0 rfl) ?_
  refine lv_iconst (v := (4 : Int32)) hx hb dJ6_bitCount_0f7a4_26 (by decide) ?_
  refine lv_iushr (v := ((y_2.toUInt32 >>> ((4 : Int32).toUInt32 &&& Int32.toUInt32 31)).toInt32)) hx hb dJ6_bitCount_0f7a4_27 rfl ?_
  refine lv_iadd hx hb dJ6_bitCount_0f7a4_28 ?_
  refine lv_ldcw (v := (252645135 : Int32)) hx hb hown (hts _ (.tail _ u_k_J6_267)) dJ6_bitCount_0f7a4_29 ?_
  refine lv_iand hx hb dJ6_bitCount_0f7a4_32 ?_
  refine lv_topi (fun y_3 ey_3 => ?_)
  have h := xl_at ey_3 h
  refine lv_istore_n (lv' := [(0, .int y_3)]) hx hb dJ6_bitCount_0f7a4_33 rfl hl (by decide) rfl (fun ls hl => ?_)
  refine lv_iload_n hx hb dJ6_bitCount_0f7a4_34 rfl (lv_at hl 0 rfl) ?_
  refine lv_iload_n hx hb dJ6_bitCount_0f7a4_35 rfl (lv_at hl 0 rfl) ?_
  refine lv_bipush (v := (8 : Int32)) hx hb dJ6_bitCount_0f7a4_36 (by decide) ?_
  refine lv_iushr (v := ((y_3.toUInt32 >>> ((8 : Int32).toUInt32 &&& Int32.toUInt32 31)).toInt32)) hx hb dJ6_bitCount_0f7a4_38 rfl ?_
  refine lv_iadd hx hb dJ6_bitCount_0f7a4_39 ?_
  refine lv_topi (fun y_4 ey_4 => ?_)
  have h := xl_at ey_4 h
  refine lv_istore_n (lv' := [(0, .int y_4)]) hx hb dJ6_bitCount_0f7a4_40 rfl hl (by decide) rfl (fun ls hl => ?_)
  refine lv_iload_n hx hb dJ6_bitCount_0f7a4_41 rfl (lv_at hl 0 rfl) ?_
  refine lv_iload_n hx hb dJ6_bitCount_0f7a4_42 rfl (lv_at hl 0 rfl) ?_
  refine lv_bipush (v := (16 : Int32)) hx hb dJ6_bitCount_0f7a4_43 (by decide) ?_
  refine lv_iushr (v := ((y_4.toUInt32 >>> ((16 : Int32).toUInt32 &&& Int32.toUInt32 31)).toInt32)) hx hb dJ6_bitCount_0f7a4_45 rfl ?_
  refine lv_iadd hx hb dJ6_bitCount_0f7a4_46 ?_
  refine lv_topi (fun y_5 ey_5 => ?_)
  have h := xl_at ey_5 h
  refine lv_istore_n (lv' := [(0, .int y_5)]) hx hb dJ6_bitCount_0f7a4_47 rfl hl (by decide) rfl (fun ls hl => ?_)
  refine lv_iload_n hx hb dJ6_bitCount_0f7a4_48 rfl (lv_at hl 0 rfl) ?_
  refine lv_bipush (v := (63 : Int32)) hx hb dJ6_bitCount_0f7a4_49 (by decide) ?_
  refine lv_iand hx hb dJ6_bitCount_0f7a4_51 ?_
  obtain rfl := Option.some.inj h
  exact k_iret hx hb hr hlk hP hD hS dJ6_bitCount_0f7a4_52
set_option maxRecDepth 100000 in
theorem c_J6_bitCount_0f7a4 (l : Launch) (g : gG)  (x0 : Int32) (o : Int32) (h : x_J6_bitCount_0f7a4 x0 = some o) (sz : Nat) : MetI l yJ6_bitCount_0f7a4 (.code yJ6_bitCount_0f7a4 cJ6_bitCount_0f7a4 1 (some .int) :: gW) 0 0 [.int x0] o g [] [] sz :=
  mkI (av := [.int x0]) (by decide +kernel) rfl (fun p e s m below meth c A E H locs ls hP hD hS hl => t_J6_bitCount_0f7a4 E  x0 o h H locs ls hP hD hS hl) sz
def x_J6_numberOfTrailingZeros_0f7a4_k74 (x0 : Int32) (x1 : Int32) : Option (Int32) :=
  some (x1 + ((x0.toUInt32 >>> ((1 : Int32).toUInt32 &&& Int32.toUInt32 31)).toInt32))
set_option maxHeartbeats 4000000 in
set_option maxRecDepth 100000 in
theorem t_J6_numberOfTrailingZeros_0f7a4_k74 {p : Program} {l : Launch} {e : Env} {s : State} {m : MethodId} {args : Array Value} {below : List Frame} {meth : Method} {c : Code} {g : gG} {A : Nat → Prop} (E : En p s m args meth c g A cJ6_numberOfTrailingZeros_0f7a4 2 (.code yJ6_numberOfTrailingZeros_0f7a4 cJ6_numberOfTrailingZeros_0f7a4 2 (some .int) :: gW) RJ6 (some .int)) (x0 : Int32) (x1 : Int32) (o : Int32) (h : x_J6_numberOfTrailingZeros_0f7a4_k74 x0 x1 = some o) : WA p l e (rM 0 0) s m args below meth c g A (MQ below (QI g A o []) args s 0 0 A) 2 74 [] [(0, .int x0), (1, .int x1)] [] := by
  obtain ⟨⟨hx, hb, hml, hown, hts⟩, hr, hK, hA, hlk⟩ := id E
  intro H locs ls hP hD hS hl
  refine lv_iload_n hx hb dJ6_numberOfTrailingZeros_0f7a4_74 rfl (lv_at hl 1 rfl) ?_
  refine lv_iload_n hx hb dJ6_numberOfTrailingZeros_0f7a4_75 rfl (lv_at hl 0 rfl) ?_
  refine lv_iconst (v := (1 : Int32)) hx hb dJ6_numberOfTrailingZeros_0f7a4_76 (by decide) ?_
  refine lv_iushr (v := ((x0.toUInt32 >>> ((1 : Int32).toUInt32 &&& Int32.toUInt32 31)).toInt32)) hx hb dJ6_numberOfTrailingZeros_0f7a4_77 rfl ?_
  refine lv_iadd hx hb dJ6_numberOfTrailingZeros_0f7a4_78 ?_
  obtain rfl := Option.some.inj h
  exact k_iret hx hb hr hlk hP hD hS dJ6_numberOfTrailingZeros_0f7a4_79
def x_J6_numberOfTrailingZeros_0f7a4_k62 (x0 : Int32) (x1 : Int32) : Option (Int32) :=
  if x0 ≤ (4 : Int32) then (x_J6_numberOfTrailingZeros_0f7a4_k74 x0 x1) else (xl ((x0.toUInt32 >>> ((2 : Int32).toUInt32 &&& Int32.toUInt32 31)).toInt32) (fun y_2 => x_J6_numberOfTrailingZeros_0f7a4_k74 y_2 (x1 + (2 : Int32))))
set_option maxHeartbeats 4000000 in
set_option maxRecDepth 100000 in
theorem t_J6_numberOfTrailingZeros_0f7a4_k62 {p : Program} {l : Launch} {e : Env} {s : State} {m : MethodId} {args : Array Value} {below : List Frame} {meth : Method} {c : Code} {g : gG} {A : Nat → Prop} (E : En p s m args meth c g A cJ6_numberOfTrailingZeros_0f7a4 2 (.code yJ6_numberOfTrailingZeros_0f7a4 cJ6_numberOfTrailingZeros_0f7a4 2 (some .int) :: gW) RJ6 (some .int)) (x0 : Int32) (x1 : Int32) (o : Int32) (h : x_J6_numberOfTrailingZeros_0f7a4_k62 x0 x1 = some o) : WA p l e (rM 0 0) s m args below meth c g A (MQ below (QI g A o []) args s 0 0 A) 2 62 [] [(0, .int x0), (1, .int x1)] [] := by
  obtain ⟨⟨hx, hb, hml, hown, hts⟩, hr, hK, hA, hlk⟩ := id E
  intro H locs ls hP hD hS hl
  refine lv_iload_n hx hb dJ6_numberOfTrailingZeros_0f7a4_62 rfl (lv_at hl 0 rfl) ?_
  refine lv_iconst (v := (4 : Int32)) hx hb dJ6_numberOfTrailingZeros_0f7a4_63 (by decide) ?_
  refine lv_icmp_le (tgt := 74) hx hb dJ6_numberOfTrailingZeros_0f7a4_64 (by decide) (fun c_1 => ?_) (fun c_1 => ?_)
  · have h := ox_t c_1 h
    exact t_J6_numberOfTrailingZeros_0f7a4_k74 E x0 x1 _ h H locs ls hP hD hS hl
  · have h := ox_f c_1 h
    refine lv_iinc (v := (x1 + (2 : Int32))) (lv' := [(1, .int (x1 + (2 : Int32))), (0, .int x0)]) hx hb dJ6_numberOfTrailingZeros_0f7a4_67 hl (k := 1) rfl rfl (by decide) rfl (fun ls hl => ?_)
    refine lv_iload_n hx hb dJ6_numberOfTrailingZeros_0f7a4_70 rfl (lv_at hl 1 rfl) ?_
    refine lv_iconst (v := (2 : Int32)) hx hb dJ6_numberOfTrailingZeros_0f7a4_71 (by decide) ?_
    refine lv_iushr (v := ((x0.toUInt32 >>> ((2 : Int32).toUInt32 &&& Int32.toUInt32 31)).toInt32)) hx hb dJ6_numberOfTrailingZeros_0f7a4_72 rfl ?_
    refine lv_topi (fun y_2 ey_2 => ?_)
    have h := xl_at ey_2 h
    refine lv_istore_n (lv' := [(0, .int y_2), (1, .int (x1 + (2 : Int32)))]) hx hb dJ6_numberOfTrailingZeros_0f7a4_73 rfl hl (by decide) rfl (fun ls hl => ?_)
    exact t_J6_numberOfTrailingZeros_0f7a4_k74 E y_2 (x1 + (2 : Int32)) _ h H locs ls hP hD hS hl
def x_J6_numberOfTrailingZeros_0f7a4_k49 (x0 : Int32) (x1 : Int32) : Option (Int32) :=
  if x0 ≤ (16 : Int32) then (x_J6_numberOfTrailingZeros_0f7a4_k62 x0 x1) else (xl ((x0.toUInt32 >>> ((4 : Int32).toUInt32 &&& Int32.toUInt32 31)).toInt32) (fun y_4 => x_J6_numberOfTrailingZeros_0f7a4_k62 y_4 (x1 + (4 : Int32))))
set_option maxHeartbeats 4000000 in
set_option maxRecDepth 100000 in
theorem t_J6_numberOfTrailingZeros_0f7a4_k49 {p : Program} {l : Launch} {e : Env} {s : State} {m : MethodId} {args : Array Value} {below : List Frame} {meth : Method} {c : Code} {g : gG} {A : Nat → Prop} (E : En p s m args meth c g A cJ6_numberOfTrailingZeros_0f7a4 2 (.code yJ6_numberOfTrailingZeros_0f7a4 cJ6_numberOfTrailingZeros_0f7a4 2 (some .int) :: gW) RJ6 (some .int)) (x0 : Int32) (x1 : Int32) (o : Int32) (h : x_J6_numberOfTrailingZeros_0f7a4_k49 x0 x1 = some o) : WA p l e (rM 0 0) s m args below meth c g A (MQ below (QI g A o []) args s 0 0 A) 2 49 [] [(0, .int x0), (1, .int x1)] [] := by
  obtain ⟨⟨hx, hb, hml, hown, hts⟩, hr, hK, hA, hlk⟩ := id E
  intro H locs ls hP hD hS hl
  refine lv_iload_n hx hb dJ6_numberOfTrailingZeros_0f7a4_49 rfl (lv_at hl 0 rfl) ?_
  refine lv_bipush (v := (16 : Int32)) hx hb dJ6_numberOfTrailingZeros_0f7a4_50 (by decide) ?_
  refine lv_icmp_le (tgt := 62) hx hb dJ6_numberOfTrailingZeros_0f7a4_52 (by decide) (fun c_3 => ?_) (fun c_3 => ?_)
  · have h := ox_t c_3 h
    exact t_J6_numberOfTrailingZeros_0f7a4_k62 E x0 x1 _ h H locs ls hP hD hS hl
  · have h := ox_f c_3 h
    refine lv_iinc (v := (x1 + (4 : Int32))) (lv' := [(1, .int (x1 + (4 : Int32))), (0, .int x0)]) hx hb dJ6_numberOfTrailingZeros_0f7a4_55 hl (k := 1) rfl rfl (by decide) rfl (fun ls hl => ?_)
    refine lv_iload_n hx hb dJ6_numberOfTrailingZeros_0f7a4_58 rfl (lv_at hl 1 rfl) ?_
    refine lv_iconst (v := (4 : Int32)) hx hb dJ6_numberOfTrailingZeros_0f7a4_59 (by decide) ?_
    refine lv_iushr (v := ((x0.toUInt32 >>> ((4 : Int32).toUInt32 &&& Int32.toUInt32 31)).toInt32)) hx hb dJ6_numberOfTrailingZeros_0f7a4_60 rfl ?_
    refine lv_topi (fun y_4 ey_4 => ?_)
    have h := xl_at ey_4 h
    refine lv_istore_n (lv' := [(0, .int y_4), (1, .int (x1 + (4 : Int32)))]) hx hb dJ6_numberOfTrailingZeros_0f7a4_61 rfl hl (by decide) rfl (fun ls hl => ?_)
    exact t_J6_numberOfTrailingZeros_0f7a4_k62 E y_4 (x1 + (4 : Int32)) _ h H locs ls hP hD hS hl
def x_J6_numberOfTrailingZeros_0f7a4_k34 (x0 : Int32) (x1 : Int32) : Option (Int32) :=
  if x0 ≤ (256 : Int32) then (x_J6_numberOfTrailingZeros_0f7a4_k49 x0 x1) else (xl ((x0.toUInt32 >>> ((8 : Int32).toUInt32 &&& Int32.toUInt32 31)).toInt32) (fun y_6 => x_J6_numberOfTrailingZeros_0f7a4_k49 y_6 (x1 + (8 : Int32))))
set_option maxHeartbeats 4000000 in
set_option maxRecDepth 100000 in
theorem t_J6_numberOfTrailingZeros_0f7a4_k34 {p : Program} {l : Launch} {e : Env} {s : State} {m : MethodId} {args : Array Value} {below : List Frame} {meth : Method} {c : Code} {g : gG} {A : Nat → Prop} (E : En p s m args meth c g A cJ6_numberOfTrailingZeros_0f7a4 2 (.code yJ6_numberOfTrailingZeros_0f7a4 cJ6_numberOfTrailingZeros_0f7a4 2 (some .int) :: gW) RJ6 (some .int)) (x0 : Int32) (x1 : Int32) (o : Int32) (h : x_J6_numberOfTrailingZeros_0f7a4_k34 x0 x1 = some o) : WA p l e (rM 0 0) s m args below meth c g A (MQ below (QI g A o []) args s 0 0 A) 2 34 [] [(0, .int x0), (1, .int x1)] [] := by
  obtain ⟨⟨hx, hb, hml, hown, hts⟩, hr, hK, hA, hlk⟩ := id E
  intro H locs ls hP hD hS hl
  refine lv_iload_n hx hb dJ6_numberOfTrailingZeros_0f7a4_34 rfl (lv_at hl 0 rfl) ?_
  refine lv_sipush (v := (256 : Int32)) hx hb dJ6_numberOfTrailingZeros_0f7a4_35 (by decide) ?_
  refine lv_icmp_le (tgt := 49) hx hb dJ6_numberOfTrailingZeros_0f7a4_38 (by decide) (fun c_5 => ?_) (fun c_5 => ?_)
  · have h := ox_t c_5 h
    exact t_J6_numberOfTrailingZeros_0f7a4_k49 E x0 x1 _ h H locs ls hP hD hS hl
  · have h := ox_f c_5 h
    refine lv_iinc (v := (x1 + (8 : Int32))) (lv' := [(1, .int (x1 + (8 : Int32))), (0, .int x0)]) hx hb dJ6_numberOfTrailingZeros_0f7a4_41 hl (k := 1) rfl rfl (by decide) rfl (fun ls hl => ?_)
    refine lv_iload_n hx hb dJ6_numberOfTrailingZeros_0f7a4_44 rfl (lv_at hl 1 rfl) ?_
    refine lv_bipush (v := (8 : Int32)) hx hb dJ6_numberOfTrailingZeros_0f7a4_45 (by decide) ?_
    refine lv_iushr (v := ((x0.toUInt32 >>> ((8 : Int32).toUInt32 &&& Int32.toUInt32 31)).toInt32)) hx hb dJ6_numberOfTrailingZeros_0f7a4_47 rfl ?_
    refine lv_topi (fun y_6 ey_6 => ?_)
    have h := xl_at ey_6 h
    refine lv_istore_n (lv' := [(0, .int y_6), (1, .int (x1 + (8 : Int32)))]) hx hb dJ6_numberOfTrailingZeros_0f7a4_48 rfl hl (by decide) rfl (fun ls hl => ?_)
    exact t_J6_numberOfTrailingZeros_0f7a4_k49 E y_6 (x1 + (8 : Int32)) _ h H locs ls hP hD hS hl
def x_J6_numberOfTrailingZeros_0f7a4 (x0 : Int32) : Option (Int32) :=
  xl ((x0 ^^^ (-1 : Int32)) &&& (x0 - (1 : Int32))) (fun y_7 => if 0 < y_7 then (if y_7 ≤ (65536 : Int32) then (x_J6_numberOfTrailingZeros_0f7a4_k34 y_7 (1 : Int32)) else (xl ((y_7.toUInt32 >>> ((16 : Int32).toUInt32 &&& Int32.toUInt32 31)).toInt32) (fun y_10 => x_J6_numberOfTrailingZeros_0f7a4_k34 y_10 ((1 : Int32) + (16 : Int32))))) else (some (y_7 &&& (32 : Int32))))
set_option maxHeartbeats 4000000 in
set_option maxRecDepth 100000 in
theorem t_J6_numberOfTrailingZeros_0f7a4 {p : Program} {l : Launch} {e : Env} {s : State} {m : MethodId} {args : Array Value} {below : List Frame} {meth : Method} {c : Code} {g : gG} {A : Nat → Prop} (E : En p s m args meth c g A cJ6_numberOfTrailingZeros_0f7a4 2 (.code yJ6_numberOfTrailingZeros_0f7a4 cJ6_numberOfTrailingZeros_0f7a4 2 (some .int) :: gW) RJ6 (some .int)) (x0 : Int32) (o : Int32) (h : x_J6_numberOfTrailingZeros_0f7a4 x0 = some o) : WA p l e (rM 0 0) s m args below meth c g A (MQ below (QI g A o []) args s 0 0 A) 2 0 [] [(0, .int x0)] [] := by
  obtain ⟨⟨hx, hb, hml, hown, hts⟩, hr, hK, hA, hlk⟩ := id E
  intro H locs ls hP hD hS hl
  refine lv_iload_n hx hb dJ6_numberOfTrailingZeros_0f7a4_0 rfl (lv_at hl 0 rfl) ?_
  refine lv_iconst (v := (-1 : Int32)) hx hb dJ6_numberOfTrailingZeros_0f7a4_1 (by decide) ?_
  refine lv_ixor hx hb dJ6_numberOfTrailingZeros_0f7a4_2 ?_
  refine lv_iload_n hx hb dJ6_numberOfTrailingZeros_0f7a4_3 rfl (lv_at hl 0 rfl) ?_
  refine lv_iconst (v := (1 : Int32)) hx hb dJ6_numberOfTrailingZeros_0f7a4_4 (by decide) ?_
  refine lv_isub hx hb dJ6_numberOfTrailingZeros_0f7a4_5 ?_
  refine lv_iand hx hb dJ6_numberOfTrailingZeros_0f7a4_6 ?_
  refine lv_topi (fun y_7 ey_7 => ?_)
  have h := xl_at ey_7 h
  refine lv_istore_n (lv' := [(0, .int y_7)]) hx hb dJ6_numberOfTrailingZeros_0f7a4_7 rfl hl (by decide) rfl (fun ls hl => ?_)
  refine lv_iload_n hx hb dJ6_numberOfTrailingZeros_0f7a4_8 rfl (lv_at hl 0 rfl) ?_
  refine lv_if_gt (tgt := 17) hx hb dJ6_numberOfTrailingZeros_0f7a4_9 (by decide) (fun c_8 => ?_) (fun c_8 => ?_)
  · have h := ox_t c_8 h
    refine lv_iconst (v := (1 : Int32)) hx hb dJ6_numberOfTrailingZeros_0f7a4_17 (by decide) ?_
    refine lv_istore_n (lv' := [(1, .int (1 : Int32)), (0, .int y_7)]) hx hb dJ6_numberOfTrailingZeros_0f7a4_18 rfl hl (by decide) rfl (fun ls hl => ?_)
    refine lv_iload_n hx hb dJ6_numberOfTrailingZeros_0f7a4_19 rfl (lv_at hl 1 rfl) ?_
    refine lv_ldcw (v := (65536 : Int32)) hx hb hown (hts _ (.tail _ u_k_J6_264)) dJ6_numberOfTrailingZeros_0f7a4_20 ?_
    refine lv_icmp_le (tgt := 34) hx hb dJ6_numberOfTrailingZeros_0f7a4_23 (by decide) (fun c_9 => ?_) (fun c_9 => ?_)
    · have h := ox_t c_9 h
      exact t_J6_numberOfTrailingZeros_0f7a4_k34 E y_7 (1 : Int32) _ h H locs ls hP hD hS (lv_sub hl [1, 0] rfl)
    · have h := ox_f c_9 h
      refine lv_iinc (v := ((1 : Int32) + (16 : Int32))) (lv' := [(1, .int ((1 : Int32) + (16 : Int32))), (0, .int y_7)]) hx hb dJ6_numberOfTrailingZeros_0f7a4_26 hl (k := 0) rfl rfl (by decide) rfl (fun ls hl => ?_)
      refine lv_iload_n hx hb dJ6_numberOfTrailingZeros_0f7a4_29 rfl (lv_at hl 1 rfl) ?_
      refine lv_bipush (v := (16 : Int32)) hx hb dJ6_numberOfTrailingZeros_0f7a4_30 (by decide) ?_
      refine lv_iushr (v := ((y_7.toUInt32 >>> ((16 : Int32).toUInt32 &&& Int32.toUInt32 31)).toInt32)) hx hb dJ6_numberOfTrailingZeros_0f7a4_32 rfl ?_
      refine lv_topi (fun y_10 ey_10 => ?_)
      have h := xl_at ey_10 h
      refine lv_istore_n (lv' := [(0, .int y_10), (1, .int ((1 : Int32) + (16 : Int32)))]) hx hb dJ6_numberOfTrailingZeros_0f7a4_33 rfl hl (by decide) rfl (fun ls hl => ?_)
      exact t_J6_numberOfTrailingZeros_0f7a4_k34 E y_10 ((1 : Int32) + (16 : Int32)) _ h H locs ls hP hD hS hl
  · have h := ox_f c_8 h
    refine lv_iload_n hx hb dJ6_numberOfTrailingZeros_0f7a4_12 rfl (lv_at hl 0 rfl) ?_
    refine lv_bipush (v := (32 : Int32)) hx hb dJ6_numberOfTrailingZeros_0f7a4_13 (by decide) ?_
    refine lv_iand hx hb dJ6_numberOfTrailingZeros_0f7a4_15 ?_
    obtain rfl := Option.some.inj h
    exact k_iret hx hb hr hlk hP hD hS dJ6_numberOfTrailingZeros_0f7a4_16
set_option maxRecDepth 100000 in
theorem c_J6_numberOfTrailingZeros_0f7a4 (l : Launch) (g : gG)  (x0 : Int32) (o : Int32) (h : x_J6_numberOfTrailingZeros_0f7a4 x0 = some o) (sz : Nat) : MetI l yJ6_numberOfTrailingZeros_0f7a4 (.code yJ6_numberOfTrailingZeros_0f7a4 cJ6_numberOfTrailingZeros_0f7a4 2 (some .int) :: gW) 0 0 [.int x0] o g [] [] sz :=
  mkI (av := [.int x0]) (by decide +kernel) rfl (fun p e s m below meth c A E H locs ls hP hD hS hl => t_J6_numberOfTrailingZeros_0f7a4 E  x0 o h H locs ls hP hD hS hl) sz
def x_J13_numberOfTrailingZeros_95d88 (x0 : Int64) : Option (Int32) :=
  xl (x0.toInt32) (fun y_1 => if y_1 = 0 then (Option.bind (x_J6_numberOfTrailingZeros_0f7a4 (((x0.toUInt64 >>> ((32 : Int32).toInt64.toUInt64 &&& Int64.toUInt64 63)).toInt64).toInt32)) (fun v_4 => some ((32 : Int32) + v_4))) else (Option.bind (x_J6_numberOfTrailingZeros_0f7a4 y_1) (fun v_3 => some v_3)))
set_option maxHeartbeats 4000000 in
set_option maxRecDepth 100000 in
theorem t_J13_numberOfTrailingZeros_95d88 {p : Program} {l : Launch} {e : Env} {s : State} {m : MethodId} {args : Array Value} {below : List Frame} {meth : Method} {c : Code} {g : gG} {A : Nat → Prop} (E : En p s m args meth c g A cJ13_numberOfTrailingZeros_95d88 3 (.code yJ13_numberOfTrailingZeros_95d88 cJ13_numberOfTrailingZeros_95d88 3 (some .int) :: gW) RJ13 (some .int)) (x0 : Int64) (o : Int32) (h : x_J13_numberOfTrailingZeros_95d88 x0 = some o) : WA p l e (rM 1 21) s m args below meth c g A (MQ below (QI g A o []) args s 0 0 A) 3 0 [] [(0, .long x0)] [] := by
  obtain ⟨⟨hx, hb, hml, hown, hts⟩, hr, hK, hA, hlk⟩ := id E
  intro H locs ls hP hD hS hl
  refine lv_lload_n hx hb dJ13_numberOfTrailingZeros_95d88_0 rfl (lv_at hl 0 rfl) ?_
  refine lv_l2i (v := (x0.toInt32)) hx hb dJ13_numberOfTrailingZeros_95d88_1 rfl ?_
  refine lv_topi (fun y_1 ey_1 => ?_)
  have h := xl_at ey_1 h
  refine lv_istore_n (lv' := [(2, .int y_1), (0, .long x0)]) hx hb dJ13_numberOfTrailingZeros_95d88_2 rfl hl (by decide) rfl (fun ls hl => ?_)
  refine lv_iload_n hx hb dJ13_numberOfTrailingZeros_95d88_3 rfl (lv_at hl 0 rfl) ?_
  refine lv_if_ne (tgt := 21) hx hb dJ13_numberOfTrailingZeros_95d88_4 (by decide) (fun c_2 => ?_) (fun c_2 => ?_)
  · have h := ox_f c_2 h
    refine lv_iload_n hx hb dJ13_numberOfTrailingZeros_95d88_21 rfl (lv_at hl 0 rfl) ?_
    obtain ⟨v_3, hv_3, h⟩ := ox_bind h
    refine kSi ⟨hx, hb, hml, hown, hts⟩ (c_J6_numberOfTrailingZeros_0f7a4 l g y_1 v_3 hv_3 H.size) (gS u_ml_J13_311 u_st_J6_numberOfTrailingZeros_0f7a4 u_ini_J6 u_co_J6_numberOfTrailingZeros_0f7a4) hd_J6_numberOfTrailingZeros_0f7a4 ⟨rfl, rfl⟩ hK hP hD hS hA [] [] rfl rfl 0 rfl (w2 := []) rfl rfl (As := [.int y_1]) (rest := []) rfl hl.1 rfl rfl dJ13_numberOfTrailingZeros_95d88_22 (fun H locs hP hD hS => ?_)
    obtain rfl := Option.some.inj h
    exact k_iret hx hb hr hlk hP hD hS dJ13_numberOfTrailingZeros_95d88_25
  · have h := ox_t c_2 h
    refine lv_bipush (v := (32 : Int32)) hx hb dJ13_numberOfTrailingZeros_95d88_7 (by decide) ?_
    refine lv_lload_n hx hb dJ13_numberOfTrailingZeros_95d88_9 rfl (lv_at hl 1 rfl) ?_
    refine lv_bipush (v := (32 : Int32)) hx hb dJ13_numberOfTrailingZeros_95d88_10 (by decide) ?_
    refine lv_lushr (v := ((x0.toUInt64 >>> ((32 : Int32).toInt64.toUInt64 &&& Int64.toUInt64 63)).toInt64)) hx hb dJ13_numberOfTrailingZeros_95d88_12 rfl ?_
    refine lv_l2i (v := (((x0.toUInt64 >>> ((32 : Int32).toInt64.toUInt64 &&& Int64.toUInt64 63)).toInt64).toInt32)) hx hb dJ13_numberOfTrailingZeros_95d88_13 rfl ?_
    obtain ⟨v_4, hv_4, h⟩ := ox_bind h
    refine kSi ⟨hx, hb, hml, hown, hts⟩ (c_J6_numberOfTrailingZeros_0f7a4 l g (((x0.toUInt64 >>> ((32 : Int32).toInt64.toUInt64 &&& Int64.toUInt64 63)).toInt64).toInt32) v_4 hv_4 H.size) (gS u_ml_J13_311 u_st_J6_numberOfTrailingZeros_0f7a4 u_ini_J6 u_co_J6_numberOfTrailingZeros_0f7a4) hd_J6_numberOfTrailingZeros_0f7a4 ⟨rfl, rfl⟩ hK hP hD hS hA [] [] rfl rfl 0 rfl (w2 := []) rfl rfl (As := [.int (((x0.toUInt64 >>> ((32 : Int32).toInt64.toUInt64 &&& Int64.toUInt64 63)).toInt64).toInt32)]) (rest := [.int (32 : Int32)]) rfl hl.1 rfl rfl dJ13_numberOfTrailingZeros_95d88_14 (fun H locs hP hD hS => ?_)
    refine lv_iadd hx hb dJ13_numberOfTrailingZeros_95d88_17 ?_
    refine lv_goto (tgt := 25) hx hb dJ13_numberOfTrailingZeros_95d88_18 (by decide) ?_
    obtain rfl := Option.some.inj h
    exact k_iret hx hb hr hlk hP hD hS dJ13_numberOfTrailingZeros_95d88_25
set_option maxRecDepth 100000 in
theorem c_J13_numberOfTrailingZeros_95d88 (l : Launch) (g : gG)  (x0 : Int64) (o : Int32) (h : x_J13_numberOfTrailingZeros_95d88 x0 = some o) (sz : Nat) : MetI l yJ13_numberOfTrailingZeros_95d88 (.code yJ13_numberOfTrailingZeros_95d88 cJ13_numberOfTrailingZeros_95d88 3 (some .int) :: gW) 1 21 [.long x0] o g [] [] sz :=
  mkI (av := [.long x0]) (by decide +kernel) rfl (fun p e s m below meth c A E H locs ls hP hD hS hl => t_J13_numberOfTrailingZeros_95d88 E  x0 o h H locs ls hP hD hS hl) sz
def x_J7_fill_53178_b5 (N : Nat) (n_a0 : Nat) (f_a0 : (Nat → Int32)) (x1 : Int32) (x2 : Int32) (x3 : Int32) : Option ((Int32 × (Nat → Int32)) ⊕ ((Nat → Int32))) :=
  if x3 ≤ x2 then (some (.inr f_a0)) else (if x2 < 0 ∨ n_a0 ≤ x2.toNatClampNeg then none else some (.inl ((x2 + (1 : Int32)), (upd f_a0 x2.toNatClampNeg x1))))
set_option maxHeartbeats 4000000 in
set_option maxRecDepth 100000 in
theorem t_J7_fill_53178_b5 {p : Program} {l : Launch} {e : Env} {s : State} {m : MethodId} {args : Array Value} {below : List Frame} {meth : Method} {c : Code} {g : gG} {A : Nat → Prop} {Q : State → Prop} (E : En p s m args meth c g A cJ7_fill_53178 4 (.code yJ7_fill_53178 cJ7_fill_53178 4 none :: gW) RJ7 none) (q_a0 : Nat) (N : Nat) (n_a0 : Nat) (f_a0 : (Nat → Int32)) (x1 : Int32) (x2 : Int32) (x3 : Int32) (o : (Int32 × (Nat → Int32)) ⊕ ((Nat → Int32))) (h : x_J7_fill_53178_b5 N n_a0 f_a0 x1 x2 x3 = some o) (hc : ∀ z, o = .inl z → WA p l e (rM 0 0) s m args below meth c g A Q 4 5 [ia g q_a0 n_a0 z.2] [(0, .ref q_a0), (1, .int x1), (2, .int z.1), (3, .int x3)] []) (he : ∀ v, o = .inr v → WA p l e (rM 0 0) s m args below meth c g A Q 4 20 [ia g q_a0 n_a0 v] [] []) : WA p l e (rM 0 0) s m args below meth c g A Q 4 5 [ia g q_a0 n_a0 f_a0] [(0, .ref q_a0), (1, .int x1), (2, .int x2), (3, .int x3)] [] := by
  obtain ⟨⟨hx, hb, hml, hown, hts⟩, hr, hK, hA, hlk⟩ := id E
  intro H locs ls hP hD hS hl
  refine lv_iload_n hx hb dJ7_fill_53178_5 rfl (lv_at hl 2 rfl) ?_
  refine lv_iload_n hx hb dJ7_fill_53178_6 rfl (lv_at hl 3 rfl) ?_
  refine lv_icmp_ge (tgt := 20) hx hb dJ7_fill_53178_7 (by decide) (fun c_2 => ?_) (fun c_2 => ?_)
  · have h := ox_t c_2 h
    obtain rfl := Option.some.inj h
    exact he _ rfl H locs ls hP hD hS (lv_sub hl [] rfl)
  · have h := ox_f c_2 h
    refine lv_aload_n hx hb dJ7_fill_53178_10 rfl (lv_at hl 0 rfl) ?_
    refine lv_iload_n hx hb dJ7_fill_53178_11 rfl (lv_at hl 2 rfl) ?_
    refine lv_iload_n hx hb dJ7_fill_53178_12 rfl (lv_at hl 1 rfl) ?_
    obtain ⟨hi_3, h⟩ := ox_chk h
    refine va_iast hx hb hK.1 hP hD hS 0 0 rfl rfl hi_3 dJ7_fill_53178_13 (fun H locs hP hD hS => ?_)
    have hP : va_P g.1 vwCl [ia g q_a0 n_a0 (upd f_a0 x2.toNatClampNeg x1)] H := hP
    have hD : va_D A [ia g q_a0 n_a0 (upd f_a0 x2.toNatClampNeg x1)] := hD
    refine lv_iinc (v := (x2 + (1 : Int32))) (lv' := [(2, .int (x2 + (1 : Int32))), (0, .ref q_a0), (1, .int x1), (3, .int x3)]) hx hb dJ7_fill_53178_14 hl (k := 2) rfl rfl (by decide) rfl (fun ls hl => ?_)
    refine lv_goto (tgt := 5) hx hb dJ7_fill_53178_17 (by decide) ?_
    obtain rfl := Option.some.inj h
    exact hc _ rfl H locs ls hP hD hS (lv_sub hl [1, 2, 0, 3] rfl)
def x_J7_fill_53178 (N : Nat) (n_a0 : Nat) (f_a0 : (Nat → Int32)) (x1 : Int32) : Option ((Nat → Int32)) :=
  xl (Int32.ofNat n_a0) (fun y_1 => Option.bind (lpc (fun (z : Int32 × (Nat → Int32)) => x_J7_fill_53178_b5 N n_a0 z.2 x1 z.1 y_1) N ((0 : Int32), f_a0)) (fun v_4 => some v_4))
set_option maxHeartbeats 4000000 in
set_option maxRecDepth 100000 in
theorem t_J7_fill_53178 {p : Program} {l : Launch} {e : Env} {s : State} {m : MethodId} {args : Array Value} {below : List Frame} {meth : Method} {c : Code} {g : gG} {A : Nat → Prop} (E : En p s m args meth c g A cJ7_fill_53178 4 (.code yJ7_fill_53178 cJ7_fill_53178 4 none :: gW) RJ7 none) (q_a0 : Nat) (N : Nat) (n_a0 : Nat) (f_a0 : (Nat → Int32)) (x1 : Int32) (o : (Nat → Int32)) (h : x_J7_fill_53178 N n_a0 f_a0 x1 = some o) : WA p l e (rM 0 0) s m args below meth c g A (MQ below (QV g A [ia g q_a0 n_a0 o]) args s 0 0 A) 4 0 [ia g q_a0 n_a0 f_a0] [(0, .ref q_a0), (1, .int x1)] [] := by
  obtain ⟨⟨hx, hb, hml, hown, hts⟩, hr, hK, hA, hlk⟩ := id E
  intro H locs ls hP hD hS hl
  refine lv_iconst (v := (0 : Int32)) hx hb dJ7_fill_53178_0 (by decide) ?_
  refine lv_istore_n (lv' := [(2, .int (0 : Int32)), (0, .ref q_a0), (1, .int x1)]) hx hb dJ7_fill_53178_1 rfl hl (by decide) rfl (fun ls hl => ?_)
  refine lv_aload_n hx hb dJ7_fill_53178_2 rfl (lv_at hl 1 rfl) ?_
  refine va_alen hx hb hK.1 hP 0 0 rfl rfl (v := (Int32.ofNat n_a0)) rfl dJ7_fill_53178_3 ?_
  refine lv_topi (fun y_1 ey_1 => ?_)
  have h := xl_at ey_1 h
  refine lv_istore_n (lv' := [(3, .int y_1), (2, .int (0 : Int32)), (0, .ref q_a0), (1, .int x1)]) hx hb dJ7_fill_53178_4 rfl hl (by decide) rfl (fun ls hl => ?_)
  obtain ⟨v_4, hv_4, h⟩ := ox_bind h
  refine lpc_W (Wh := fun (z : Int32 × (Nat → Int32)) => WA p l e (rM 0 0) s m args below meth c g A (MQ below (QV g A [ia g q_a0 n_a0 o]) args s 0 0 A) 4 5 [ia g q_a0 n_a0 z.2] [(0, .ref q_a0), (1, .int x1), (2, .int z.1), (3, .int y_1)] []) (We := fun (v : (Nat → Int32)) => WA p l e (rM 0 0) s m args below meth c g A (MQ below (QV g A [ia g q_a0 n_a0 o]) args s 0 0 A) 4 20 [ia g q_a0 n_a0 v] [] []) (fun z r hb hc he => t_J7_fill_53178_b5 E q_a0 N n_a0 z.2 x1 z.1 y_1 r hb hc he) N ((0 : Int32), f_a0) v_4 hv_4 ?_ H locs ls hP hD hS (lv_sub hl [2, 3, 1, 0] rfl)
  intro H locs ls hP hD hS hl
  obtain rfl := Option.some.inj h
  exact k_vret hx hb hr hlk hP hD hS dJ7_fill_53178_20
set_option maxRecDepth 100000 in
theorem c_J7_fill_53178 (l : Launch) (g : gG) (q_a0 : Nat) (N : Nat) (n_a0 : Nat) (f_a0 : (Nat → Int32)) (x1 : Int32) (o : (Nat → Int32)) (h : x_J7_fill_53178 N n_a0 f_a0 x1 = some o) (sz : Nat) : MetV l yJ7_fill_53178 (.code yJ7_fill_53178 cJ7_fill_53178 4 none :: gW) 0 0 [.ref q_a0, .int x1] g [ia g q_a0 n_a0 f_a0] [ia g q_a0 n_a0 o] sz :=
  mkV (av := [.ref q_a0, .int x1]) (by decide +kernel) rfl (fun p e s m below meth c A E H locs ls hP hD hS hl => t_J7_fill_53178 E q_a0 N n_a0 f_a0 x1 o h H locs ls hP hD hS hl) sz
def x_J7_fill_d0a16_b6 (N : Nat) (n_a0 : Nat) (f_a0 : (Nat → Int64)) (x1 : Int64) (x3 : Int32) (x4 : Int32) : Option ((Int32 × (Nat → Int64)) ⊕ ((Nat → Int64))) :=
  if x4 ≤ x3 then (some (.inr f_a0)) else (if x3 < 0 ∨ n_a0 ≤ x3.toNatClampNeg then none else some (.inl ((x3 + (1 : Int32)), (vp_updL f_a0 x3.toNatClampNeg x1))))
set_option maxHeartbeats 4000000 in
set_option maxRecDepth 100000 in
theorem t_J7_fill_d0a16_b6 {p : Program} {l : Launch} {e : Env} {s : State} {m : MethodId} {args : Array Value} {below : List Frame} {meth : Method} {c : Code} {g : gG} {A : Nat → Prop} {Q : State → Prop} (E : En p s m args meth c g A cJ7_fill_d0a16 5 (.code yJ7_fill_d0a16 cJ7_fill_d0a16 5 none :: gW) RJ7 none) (q_a0 : Nat) (N : Nat) (n_a0 : Nat) (f_a0 : (Nat → Int64)) (x1 : Int64) (x3 : Int32) (x4 : Int32) (o : (Int32 × (Nat → Int64)) ⊕ ((Nat → Int64))) (h : x_J7_fill_d0a16_b6 N n_a0 f_a0 x1 x3 x4 = some o) (hc : ∀ z, o = .inl z → WA p l e (rM 0 0) s m args below meth c g A Q 5 6 [la g q_a0 n_a0 z.2] [(0, .ref q_a0), (1, .long x1), (3, .int z.1), (4, .int x4)] []) (he : ∀ v, o = .inr v → WA p l e (rM 0 0) s m args below meth c g A Q 5 22 [la g q_a0 n_a0 v] [] []) : WA p l e (rM 0 0) s m args below meth c g A Q 5 6 [la g q_a0 n_a0 f_a0] [(0, .ref q_a0), (1, .long x1), (3, .int x3), (4, .int x4)] [] := by
  obtain ⟨⟨hx, hb, hml, hown, hts⟩, hr, hK, hA, hlk⟩ := id E
  intro H locs ls hP hD hS hl
  refine lv_iload_n hx hb dJ7_fill_d0a16_6 rfl (lv_at hl 2 rfl) ?_
  refine lv_iload hx hb dJ7_fill_d0a16_7 (lv_at hl 3 rfl) ?_
  refine lv_icmp_ge (tgt := 22) hx hb dJ7_fill_d0a16_9 (by decide) (fun c_2 => ?_) (fun c_2 => ?_)
  · have h := ox_t c_2 h
    obtain rfl := Option.some.inj h
    exact he _ rfl H locs ls hP hD hS (lv_sub hl [] rfl)
  · have h := ox_f c_2 h
    refine lv_aload_n hx hb dJ7_fill_d0a16_12 rfl (lv_at hl 0 rfl) ?_
    refine lv_iload_n hx hb dJ7_fill_d0a16_13 rfl (lv_at hl 2 rfl) ?_
    refine lv_lload_n hx hb dJ7_fill_d0a16_14 rfl (lv_at hl 1 rfl) ?_
    obtain ⟨hi_3, h⟩ := ox_chk h
    refine va_last hx hb hK.1 hP hD hS 0 1 rfl rfl hi_3 dJ7_fill_d0a16_15 (fun H locs hP hD hS => ?_)
    have hP : va_P g.1 vwCl [la g q_a0 n_a0 (vp_updL f_a0 x3.toNatClampNeg x1)] H := hP
    have hD : va_D A [la g q_a0 n_a0 (vp_updL f_a0 x3.toNatClampNeg x1)] := hD
    refine lv_iinc (v := (x3 + (1 : Int32))) (lv' := [(3, .int (x3 + (1 : Int32))), (0, .ref q_a0), (1, .long x1), (4, .int x4)]) hx hb dJ7_fill_d0a16_16 hl (k := 2) rfl rfl (by decide) rfl (fun ls hl => ?_)
    refine lv_goto (tgt := 6) hx hb dJ7_fill_d0a16_19 (by decide) ?_
    obtain rfl := Option.some.inj h
    exact hc _ rfl H locs ls hP hD hS (lv_sub hl [1, 2, 0, 3] rfl)
def x_J7_fill_d0a16 (N : Nat) (n_a0 : Nat) (f_a0 : (Nat → Int64)) (x1 : Int64) : Option ((Nat → Int64)) :=
  xl (Int32.ofNat n_a0) (fun y_1 => Option.bind (lpc (fun (z : Int32 × (Nat → Int64)) => x_J7_fill_d0a16_b6 N n_a0 z.2 x1 z.1 y_1) N ((0 : Int32), f_a0)) (fun v_4 => some v_4))
set_option maxHeartbeats 4000000 in
set_option maxRecDepth 100000 in
theorem t_J7_fill_d0a16 {p : Program} {l : Launch} {e : Env} {s : State} {m : MethodId} {args : Array Value} {below : List Frame} {meth : Method} {c : Code} {g : gG} {A : Nat → Prop} (E : En p s m args meth c g A cJ7_fill_d0a16 5 (.code yJ7_fill_d0a16 cJ7_fill_d0a16 5 none :: gW) RJ7 none) (q_a0 : Nat) (N : Nat) (n_a0 : Nat) (f_a0 : (Nat → Int64)) (x1 : Int64) (o : (Nat → Int64)) (h : x_J7_fill_d0a16 N n_a0 f_a0 x1 = some o) : WA p l e (rM 0 0) s m args below meth c g A (MQ below (QV g A [la g q_a0 n_a0 o]) args s 0 0 A) 5 0 [la g q_a0 n_a0 f_a0] [(0, .ref q_a0), (1, .long x1)] [] := by
  obtain ⟨⟨hx, hb, hml, hown, hts⟩, hr, hK, hA, hlk⟩ := id E
  intro H locs ls hP hD hS hl
  refine lv_iconst (v := (0 : Int32)) hx hb dJ7_fill_d0a16_0 (by decide) ?_
  refine lv_istore_n (lv' := [(3, .int (0 : Int32)), (0, .ref q_a0), (1, .long x1)]) hx hb dJ7_fill_d0a16_1 rfl hl (by decide) rfl (fun ls hl => ?_)
  refine lv_aload_n hx hb dJ7_fill_d0a16_2 rfl (lv_at hl 1 rfl) ?_
  refine va_alen hx hb hK.1 hP 0 1 rfl rfl (v := (Int32.ofNat n_a0)) rfl dJ7_fill_d0a16_3 ?_
  refine lv_topi (fun y_1 ey_1 => ?_)
  have h := xl_at ey_1 h
  refine lv_istore (lv' := [(4, .int y_1), (3, .int (0 : Int32)), (0, .ref q_a0), (1, .long x1)]) hx hb dJ7_fill_d0a16_4 hl (by decide) rfl (fun ls hl => ?_)
  obtain ⟨v_4, hv_4, h⟩ := ox_bind h
  refine lpc_W (Wh := fun (z : Int32 × (Nat → Int64)) => WA p l e (rM 0 0) s m args below meth c g A (MQ below (QV g A [la g q_a0 n_a0 o]) args s 0 0 A) 5 6 [la g q_a0 n_a0 z.2] [(0, .ref q_a0), (1, .long x1), (3, .int z.1), (4, .int y_1)] []) (We := fun (v : (Nat → Int64)) => WA p l e (rM 0 0) s m args below meth c g A (MQ below (QV g A [la g q_a0 n_a0 o]) args s 0 0 A) 5 22 [la g q_a0 n_a0 v] [] []) (fun z r hb hc he => t_J7_fill_d0a16_b6 E q_a0 N n_a0 z.2 x1 z.1 y_1 r hb hc he) N ((0 : Int32), f_a0) v_4 hv_4 ?_ H locs ls hP hD hS (lv_sub hl [2, 3, 1, 0] rfl)
  intro H locs ls hP hD hS hl
  obtain rfl := Option.some.inj h
  exact k_vret hx hb hr hlk hP hD hS dJ7_fill_d0a16_22
set_option maxRecDepth 100000 in
theorem c_J7_fill_d0a16 (l : Launch) (g : gG) (q_a0 : Nat) (N : Nat) (n_a0 : Nat) (f_a0 : (Nat → Int64)) (x1 : Int64) (o : (Nat → Int64)) (h : x_J7_fill_d0a16 N n_a0 f_a0 x1 = some o) (sz : Nat) : MetV l yJ7_fill_d0a16 (.code yJ7_fill_d0a16 cJ7_fill_d0a16 5 none :: gW) 0 0 [.ref q_a0, .long x1] g [la g q_a0 n_a0 f_a0] [la g q_a0 n_a0 o] sz :=
  mkV (av := [.ref q_a0, .long x1]) (by decide +kernel) rfl (fun p e s m below meth c A E H locs ls hP hD hS hl => t_J7_fill_d0a16 E q_a0 N n_a0 f_a0 x1 o h H locs ls hP hD hS hl) sz
def x_X9_has (x0 : Int32) (x1 : Int32) : Option (Int32) :=
  if ((x0 >>> (x1 &&& 31)) &&& (1 : Int32)) = (1 : Int32) then (some (1 : Int32)) else (some (0 : Int32))
set_option maxHeartbeats 4000000 in
set_option maxRecDepth 100000 in
theorem t_X9_has {p : Program} {l : Launch} {e : Env} {s : State} {m : MethodId} {args : Array Value} {below : List Frame} {meth : Method} {c : Code} {g : gG} {A : Nat → Prop} (E : En p s m args meth c g A cX9_has 2 (.code yX9_has cX9_has 2 (some .boolean) :: gW) RX9 (some .boolean)) (x0 : Int32) (x1 : Int32) (o : Int32) (h : x_X9_has x0 x1 = some o) : WA p l e (rM 0 0) s m args below meth c g A (MQ below (QI g A o []) args s 0 0 A) 2 0 [] [(0, .int x0), (1, .int x1)] [] := by
  obtain ⟨⟨hx, hb, hml, hown, hts⟩, hr, hK, hA, hlk⟩ := id E
  intro H locs ls hP hD hS hl
  refine lv_iload_n hx hb dX9_has_0 rfl (lv_at hl 0 rfl) ?_
  refine lv_iload_n hx hb dX9_has_1 rfl (lv_at hl 1 rfl) ?_
  refine lv_ishr hx hb dX9_has_2 ?_
  refine lv_iconst (v := (1 : Int32)) hx hb dX9_has_3 (by decide) ?_
  refine lv_iand hx hb dX9_has_4 ?_
  refine lv_iconst (v := (1 : Int32)) hx hb dX9_has_5 (by decide) ?_
  refine lv_icmp_ne (tgt := 13) hx hb dX9_has_6 (by decide) (fun c_1 => ?_) (fun c_1 => ?_)
  · have h := ox_f c_1 h
    refine lv_iconst (v := (0 : Int32)) hx hb dX9_has_13 (by decide) ?_
    obtain rfl := Option.some.inj h
    exact k_zret hx hb hr hlk (.inl rfl) hP hD hS dX9_has_14
  · have h := ox_t c_1 h
    refine lv_iconst (v := (1 : Int32)) hx hb dX9_has_9 (by decide) ?_
    refine lv_goto (tgt := 14) hx hb dX9_has_10 (by decide) ?_
    obtain rfl := Option.some.inj h
    exact k_zret hx hb hr hlk (.inr rfl) hP hD hS dX9_has_14
set_option maxRecDepth 100000 in
theorem c_X9_has (l : Launch) (g : gG)  (x0 : Int32) (x1 : Int32) (o : Int32) (h : x_X9_has x0 x1 = some o) (sz : Nat) : MetI l yX9_has (.code yX9_has cX9_has 2 (some .boolean) :: gW) 0 0 [.int x0, .int x1] o g [] [] sz :=
  mkI (av := [.int x0, .int x1]) (by decide +kernel) rfl (fun p e s m below meth c A E H locs ls hP hD hS hl => t_X9_has E  x0 x1 o h H locs ls hP hD hS hl) sz
def x_X9_isSaying (x0 : Int32) : Option (Int32) :=
  if x0 < 0 then (some (0 : Int32)) else (if (8 : Int32) ≤ x0 then (some (0 : Int32)) else (some (1 : Int32)))
set_option maxHeartbeats 4000000 in
set_option maxRecDepth 100000 in
theorem t_X9_isSaying {p : Program} {l : Launch} {e : Env} {s : State} {m : MethodId} {args : Array Value} {below : List Frame} {meth : Method} {c : Code} {g : gG} {A : Nat → Prop} (E : En p s m args meth c g A cX9_isSaying 1 (.code yX9_isSaying cX9_isSaying 1 (some .boolean) :: gW) RX9 (some .boolean)) (x0 : Int32) (o : Int32) (h : x_X9_isSaying x0 = some o) : WA p l e (rM 0 0) s m args below meth c g A (MQ below (QI g A o []) args s 0 0 A) 1 0 [] [(0, .int x0)] [] := by
  obtain ⟨⟨hx, hb, hml, hown, hts⟩, hr, hK, hA, hlk⟩ := id E
  intro H locs ls hP hD hS hl
  refine lv_iload_n hx hb dX9_isSaying_0 rfl (lv_at hl 0 rfl) ?_
  refine lv_if_lt (tgt := 14) hx hb dX9_isSaying_1 (by decide) (fun c_1 => ?_) (fun c_1 => ?_)
  · have h := ox_t c_1 h
    refine lv_iconst (v := (0 : Int32)) hx hb dX9_isSaying_14 (by decide) ?_
    obtain rfl := Option.some.inj h
    exact k_zret hx hb hr hlk (.inl rfl) hP hD hS dX9_isSaying_15
  · have h := ox_f c_1 h
    refine lv_iload_n hx hb dX9_isSaying_4 rfl (lv_at hl 0 rfl) ?_
    refine lv_bipush (v := (8 : Int32)) hx hb dX9_isSaying_5 (by decide) ?_
    refine lv_icmp_ge (tgt := 14) hx hb dX9_isSaying_7 (by decide) (fun c_2 => ?_) (fun c_2 => ?_)
    · have h := ox_t c_2 h
      refine lv_iconst (v := (0 : Int32)) hx hb dX9_isSaying_14 (by decide) ?_
      obtain rfl := Option.some.inj h
      exact k_zret hx hb hr hlk (.inl rfl) hP hD hS dX9_isSaying_15
    · have h := ox_f c_2 h
      refine lv_iconst (v := (1 : Int32)) hx hb dX9_isSaying_10 (by decide) ?_
      refine lv_goto (tgt := 15) hx hb dX9_isSaying_11 (by decide) ?_
      obtain rfl := Option.some.inj h
      exact k_zret hx hb hr hlk (.inr rfl) hP hD hS dX9_isSaying_15
set_option maxRecDepth 100000 in
theorem c_X9_isSaying (l : Launch) (g : gG)  (x0 : Int32) (o : Int32) (h : x_X9_isSaying x0 = some o) (sz : Nat) : MetI l yX9_isSaying (.code yX9_isSaying cX9_isSaying 1 (some .boolean) :: gW) 0 0 [.int x0] o g [] [] sz :=
  mkI (av := [.int x0]) (by decide +kernel) rfl (fun p e s m below meth c A E H locs ls hP hD hS hl => t_X9_isSaying E  x0 o h H locs ls hP hD hS hl) sz
