theorem pF_succ {g : gG} {k : Nat} {RQ : Nat → Ad} {F : Nat → St} : pF g (k + 1) RQ F = pF g k RQ F ++ wX0 g (RQ k 7) (RQ k) (F k) := by
  unfold pF
  rw [List.range_succ, List.flatMap_append]
  simp
theorem pF_congr {g : gG} {k : Nat} {RQ RQ' : Nat → Ad} {F F' : Nat → St} (h : ∀ j, j < k → RQ j = RQ' j ∧ F j = F' j) : pF g k RQ F = pF g k RQ' F' := by
  induction k with
  | zero => rfl
  | succ k ih => rw [pF_succ, pF_succ, ih (fun j hj => h j (by omega)), (h k (by omega)).1, (h k (by omega)).2]
set_option maxHeartbeats 4000000 in
set_option maxRecDepth 100000 in
theorem X3_loop {p : Program} {l : Launch} {e : Env} {s : State} {m : MethodId} {below : List Frame} {meth : Method} {c : Code} {g : gG} {A : Nat → Prop} (q : Nat) (E : En p s m [Value.ref q].toArray meth c g A cX3_init 2 (.code yX3_init cX3_init 2 none :: gW) RX3 none) (N : Nat) (vc vf : Nat → Int32) (hvc : x_J7_fill_53178 N 10 (fun _ => 0) (-1 : Int32) = some vc) (hvf : x_J7_fill_53178 N 64 (fun _ => 0) (-1 : Int32) = some vf) (Qo : Ad) :
    ∀ (n k : Nat), k + n = 20 → ∀ (rg : Nat → Option Nat) (RQ : Nat → Ad), (∀ j, j < k → rg j = some (RQ j 7)) → ∀ (H : Heap) (locs : List Loc) (ls : Array Slot), va_P g.1 vwCl (([oX3 q Qo 0 0] ++ [raF g (Qo 2) 20 rg]) ++ pF g k RQ (fun _ => Fi vc vf)) H → va_D A (([oX3 q Qo 0 0] ++ [raF g (Qo 2) 20 rg]) ++ pF g k RQ (fun _ => Fi vc vf)) → va_S A s.heap H locs → lv_has ls 2 [(1, .int (nI k)), (0, .ref q)] → W p l e (rC 2 121 3600 43) s m [Value.ref q].toArray below meth c H locs (1 + 6 * k) (20 + 179 * k) (MQ below (QC g A (fun u => [oX3 q (u 0) 0 0] ++ [raF g (u 0 2) 20 (fun i => some (u (1 + i) 7))] ++ pF g 20 (fun i => u (1 + i)) (fun _ => (Fi vc vf)))) [Value.ref q].toArray s 121 3600 A) (F0 m 25 ls []) := by
  obtain ⟨⟨hx, hb, hml, hown, hts⟩, hr, hK, hA, hlk⟩ := id E
  intro n
  induction n with
  | zero =>
    intro k hk rg RQ hrg H locs ls hP hD hS hl
    have hk : k = 20 := by omega
    subst hk
    refine lv_iload_n hx hb dX3_init_25 rfl (lv_at hl 0 rfl) ?_
    refine lv_aload_n hx hb dX3_init_26 rfl (lv_at hl 1 rfl) ?_
    refine va_get (ci := 3) (v := .ref (Qo 2)) (C := RX3) (T := TX3) (N := 3) hx hb hts (fun w h => .tail _ (u_inX3 w h)) hown hK.1 hP 0 rfl rfl 2 (by decide) (hts _ (.tail _ u_fl_X3_20)) (fun _ h9 => h9) rfl dX3_init_27 ?_
    refine va_alen hx hb hK.1 hP 1 3 rfl rfl (v := (20 : Int32)) rfl dX3_init_30 ?_
    refine lv_icmp_ge (tgt := 53) hx hb dX3_init_31 (by decide) (fun cc => ?_) (fun cc => absurd (by decide) cc)
    obtain ⟨U, hU⟩ : ∃ U : Nat → Ad, U = fun i => if i = 0 then Qo else RQ (i - 1) := ⟨_, rfl⟩
    have hUr : (fun i => U (1 + i)) = RQ := by
      funext i
      rw [hU]
      simp only [Nat.add_sub_cancel_left]
      exact if_neg (by omega)
    have hP := P_rq (f' := fun i => some (U (1 + i) 7)) hP 1 rfl (fun j hj => by rw [hrg j hj, show U (1 + j) = RQ j from congrFun hUr j])
    have hD := hD.set (p := 1) (e := .inl (g.2.2.2.2.1, 20, .inr (.inr (.inr (.inr (fun i => some (U (1 + i) 7)))))) ) rfl
    have kP : ∀ RQ', RQ' = RQ → va_P g.1 vwCl ([oX3 q (U 0) 0 0] ++ [raF g (U 0 2) 20 (fun i => some (U (1 + i) 7))] ++ pF g 20 RQ' (fun _ => Fi vc vf)) H := by
      intro RQ' h; subst h
      have e0 : U 0 = Qo := by rw [hU]; rfl
      rw [e0]
      exact hP
    have kD : ∀ RQ', RQ' = RQ → va_D A ([oX3 q (U 0) 0 0] ++ [raF g (U 0 2) 20 (fun i => some (U (1 + i) 7))] ++ pF g 20 RQ' (fun _ => Fi vc vf)) := by
      intro RQ' h; subst h
      have e0 : U 0 = Qo := by rw [hU]; rfl
      rw [e0]
      exact hD
    refine W.widen (k := 121) (n := 3600) (by omega) (by omega) ?_
    exact k_cret (w1 := fun u => [oX3 q (u 0) 0 0] ++ [raF g (u 0 2) 20 (fun i => some (u (1 + i) 7))] ++ pF g 20 (fun i => u (1 + i)) (fun _ => (Fi vc vf))) U hx hb hr hlk (kP _ hUr) (kD _ hUr) hS dX3_init_53
  | succ n ih =>
    intro k hk rg RQ hrg H locs ls hP hD hS hl
    refine lv_iload_n hx hb dX3_init_25 rfl (lv_at hl 0 rfl) ?_
    refine lv_aload_n hx hb dX3_init_26 rfl (lv_at hl 1 rfl) ?_
    refine va_get (ci := 3) (v := .ref (Qo 2)) (C := RX3) (T := TX3) (N := 3) hx hb hts (fun w h => .tail _ (u_inX3 w h)) hown hK.1 hP 0 rfl rfl 2 (by decide) (hts _ (.tail _ u_fl_X3_20)) (fun _ h9 => h9) rfl dX3_init_27 ?_
    refine va_alen hx hb hK.1 hP 1 3 rfl rfl (v := (20 : Int32)) rfl dX3_init_30 ?_
    refine lv_icmp_ge (tgt := 53) hx hb dX3_init_31 (by decide) (fun cc => absurd cc (nI_ge (a := k) (b := 20) (by omega) (by decide))) (fun cc => ?_)
    refine lv_aload_n hx hb dX3_init_34 rfl (lv_at hl 1 rfl) ?_
    refine va_get (ci := 3) (v := .ref (Qo 2)) (C := RX3) (T := TX3) (N := 3) hx hb hts (fun w h => .tail _ (u_inX3 w h)) hown hK.1 hP 0 rfl rfl 2 (by decide) (hts _ (.tail _ u_fl_X3_20)) (fun _ h9 => h9) rfl dX3_init_35 ?_
    refine lv_iload_n hx hb dX3_init_38 rfl (lv_at hl 0 rfl) ?_
    refine va_new (ci := 0) (fs := [.int 0, .int 0, .null, .null, .null, .null, .null]) (C := RX0) (T := TX0) (N := 7) hx hb hts (fun w h => .tail _ (u_inX0 w h)) tyX0 tyX0_ok hown (hts _ (.tail _ u_cl_X3_18)) (hts _ (.tail _ u_ins_X0)) (hts _ (.tail _ u_ini_X0)) hK.1 hP hD hS hA rfl (fun j hj => by rcases (show j = 0 ∨ j = 1 ∨ j = 2 ∨ j = 3 ∨ j = 4 ∨ j = 5 ∨ j = 6 by omega) with rfl | rfl | rfl | rfl | rfl | rfl | rfl <;> rfl) (by show 1 + 6 * k + 1 ≤ 121; omega) (by show 20 + 179 * k + 7 ≤ 3600; omega) dX3_init_39 (fun q2 H hP hD hS => ?_)
    refine lv_dup hx hb dX3_init_42 rfl ?_
    refine kIc (rest := [.ref q2, .int (nI k), .ref (Qo 2)]) ⟨hx, hb, hml, hown, hts⟩ (c_X0_init l g q2 N vc vf hvc hvf H.size) u_co_X0_init u_ml_X3_24 u_im_X0_init u_ini_X0 rfl hd_X0_init.2 ⟨rfl, rfl⟩ ⟨Nat.ble_eq_true_of_le (by omega), Nat.ble_eq_true_of_le (by omega)⟩ hK hP hD hS hA hl.1 rfl rfl dX3_init_43 (fun u H locs hP hD hS => ?_)
    refine va_astq hx hb hK.1 hP hD hS 1 3 ((([oX3 q Qo 0 0] ++ [raF g (Qo 2) 20 rg]) ++ pF g k RQ (fun _ => Fi vc vf)).length) 0 rfl rfl (by rw [List.getElem?_append_right (Nat.le_refl _), Nat.sub_self]; rfl) rfl (vp_in_nI (show k < 20 by omega) (by omega)) dX3_init_46 (fun H locs hP hD hS => ?_)
    rw [nI_clamp (show k < 2 ^ 31 by omega)] at hP hD
    obtain ⟨RQ', hR⟩ : ∃ RQ' : Nat → Ad, RQ' = va_up RQ k (va_up (u 0) 7 q2) := ⟨_, rfl⟩
    have e1 : pF g (k + 1) RQ' (fun _ => Fi vc vf) = pF g k RQ (fun _ => Fi vc vf) ++ wX0 g q2 (u 0) (Fi vc vf) := by
      rw [pF_succ, pF_congr (RQ := RQ') (RQ' := RQ) (F' := fun _ => Fi vc vf) (fun j hj => ⟨by rw [hR]; exact if_neg (by omega), rfl⟩)]
      have e2 : RQ' k = va_up (u 0) 7 q2 := by rw [hR]; exact if_pos rfl
      rw [e2]
      rfl
    have hP : va_P g.1 vwCl (([oX3 q Qo 0 0] ++ [raF g (Qo 2) 20 (va_up rg k (some q2))]) ++ pF g (k + 1) RQ' (fun _ => Fi vc vf)) H := by
      rw [e1, ← List.append_assoc]
      exact hP
    have hD : va_D A (([oX3 q Qo 0 0] ++ [raF g (Qo 2) 20 (va_up rg k (some q2))]) ++ pF g (k + 1) RQ' (fun _ => Fi vc vf)) := by
      rw [e1, ← List.append_assoc]
      exact hD
    refine lv_iinc (v := nI (k + 1)) (lv' := [(1, .int (nI (k + 1))), (0, .ref q)]) hx hb dX3_init_47 hl (k := 0) rfl (nI_1 k) (by decide) rfl (fun ls hl => ?_)
    refine lv_goto (tgt := 25) hx hb dX3_init_50 (by decide) ?_
    refine W.widen (k := 1 + 6 * (k + 1)) (n := 20 + 179 * (k + 1)) (by omega) (by omega) ?_
    exact ih (k + 1) (by omega) (va_up rg k (some q2)) RQ' (fun j hj => by
      by_cases h : j = k
      · subst h
        rw [hR]
        simp [va_up]
      · rw [hR]
        have : j < k := by omega
        simp [va_up, h, hrg j this]) H locs ls hP hD hS hl
set_option maxHeartbeats 4000000 in
set_option maxRecDepth 100000 in
theorem c_X3_init (l : Launch) (g : gG) (q : Nat) (N : Nat) (vc vf : Nat → Int32) (hvc : x_J7_fill_53178 N 10 (fun _ => 0) (-1 : Int32) = some vc) (hvf : x_J7_fill_53178 N 64 (fun _ => 0) (-1 : Int32) = some vf) (sz : Nat) : MetC l yX3_init cX3_init 2 2 43 121 3600 q g [(q, .inr (3, [.int 0, .int 0, .null]))] (fun u => [oX3 q (u 0) 0 0] ++ [raF g (u 0 2) 20 (fun i => some (u (1 + i) 7))] ++ pF g 20 (fun i => u (1 + i)) (fun _ => (Fi vc vf))) sz := by
  refine mkC (by decide +kernel) rfl rfl ?_ sz
  intro p e s m below meth c A ls E hin hP hD hS hl
  obtain ⟨⟨hx, hb, hml, hown, hts⟩, hr, hK, hA, hlk⟩ := id E
  have hown : s.vm.findClass RX3 = some m.cls := hown
  obtain ⟨H, hH⟩ : ∃ H, H = s.heap := ⟨_, rfl⟩
  have hS : va_S A s.heap H [] := by rw [hH]; exact hS
  have hP : va_P g.1 vwCl [(q, .inr (3, [.int 0, .int 0, .null]))] H := by rw [hH]; exact hP
  suffices hgo : W p l e (rC 2 121 3600 43) s m [Value.ref q].toArray below meth c H [] 0 0 (MQ below (QC g A (fun u => [oX3 q (u 0) 0 0] ++ [raF g (u 0 2) 20 (fun i => some (u (1 + i) 7))] ++ pF g 20 (fun i => u (1 + i)) (fun _ => (Fi vc vf)))) [Value.ref q].toArray s 121 3600 A) (F0 m 0 ls []) by rw [hH] at hgo; exact hgo
  clear hH
  refine lv_aload_n hx hb dX3_init_0 rfl (lv_at hl 0 rfl) ?_
  refine W.objInit hx hb hown (hts _ (.tail _ u_ml_X3_3)) (hts _ (.tail _ u_im_obj)) (hts _ (.tail _ u_co_obj)) rfl (by rw [hml]; exact hl.1) rfl dX3_init_1 (Nat.le_of_ble_eq_true rfl) (Nat.le_of_ble_eq_true rfl) ?_
  refine W.eq (g2 := F0 m 4 ls []) rfl ?_
  refine lv_aload_n hx hb dX3_init_4 rfl (lv_at hl 0 rfl) ?_
  refine lv_iconst (v := (0 : Int32)) hx hb dX3_init_5 (by decide) ?_
  refine va_put (ci := 3) (v := .int (0 : Int32)) (ty := .int) (C := RX3) (T := TX3) (N := 3) hx hb hts (fun w h => .tail _ (u_inX3 w h)) tyX3 tyX3_ok nmX3 hown hK.1 hP hD hS 0 rfl rfl 0 (by decide) (hts _ (.tail _ u_fl_X3_9)) (fun _ h9 => h9) rfl (tyX3_ok 0 (by decide)) rfl rfl (Nat.le_of_ble_eq_true rfl) dX3_init_6 (fun H locs hP hD hS => ?_)
  have hP : va_P g.1 vwCl ([(q, .inr (3, [.int (0 : Int32), .int 0, .null]))]) H := hP
  have hD : va_D A ([(q, .inr (3, [.int (0 : Int32), .int 0, .null]))]) := hD
  refine lv_aload_n hx hb dX3_init_9 rfl (lv_at hl 0 rfl) ?_
  refine lv_iconst (v := (0 : Int32)) hx hb dX3_init_10 (by decide) ?_
  refine va_put (ci := 3) (v := .int (0 : Int32)) (ty := .int) (C := RX3) (T := TX3) (N := 3) hx hb hts (fun w h => .tail _ (u_inX3 w h)) tyX3 tyX3_ok nmX3 hown hK.1 hP hD hS 0 rfl rfl 1 (by decide) (hts _ (.tail _ u_fl_X3_15)) (fun _ h9 => h9) rfl (tyX3_ok 1 (by decide)) rfl rfl (Nat.le_of_ble_eq_true rfl) dX3_init_11 (fun H locs hP hD hS => ?_)
  have hP : va_P g.1 vwCl ([(q, .inr (3, [.int (0 : Int32), .int (0 : Int32), .null]))]) H := hP
  have hD : va_D A ([(q, .inr (3, [.int (0 : Int32), .int (0 : Int32), .null]))]) := hD
  refine lv_aload_n hx hb dX3_init_14 rfl (lv_at hl 0 rfl) ?_
  refine lv_bipush (v := (20 : Int32)) hx hb dX3_init_15 (by decide) ?_
  refine k_newF hx hb hts hown u_cl_X3_18 hK hP hD hS hA (N' := 20) (by decide) (by decide) (by decide) (Nat.le_of_ble_eq_true rfl) (Nat.le_of_ble_eq_true rfl) dX3_init_17 (fun q1 H hP hD hS => ?_)
  have hP : va_P g.1 vwCl ([(q, .inr (3, [.int (0 : Int32), .int (0 : Int32), .null]))] ++ [raF g q1 20 (fun _ => none)]) H := hP
  have hD : va_D A ([(q, .inr (3, [.int (0 : Int32), .int (0 : Int32), .null]))] ++ [raF g q1 20 (fun _ => none)]) := hD
  refine va_putF (ci := 3) (v := .ref q1) (ty := (.array (.object "GossipArches$Flow"))) (C := RX3) (T := TX3) (N := 3) hx hb hts (fun w h => .tail _ (u_inX3 w h)) tyX3 tyX3_ok nmX3 hown hK.1 hP hD hS 0 rfl rfl 2 (by decide) (hts _ (.tail _ u_fl_X3_20)) (fun _ h9 => h9) rfl hin rfl (tyX3_ok 2 (by decide)) rfl rfl (Nat.le_of_ble_eq_true rfl) dX3_init_20 (fun H locs hP hD hS => ?_)
  have hP : va_P g.1 vwCl ([(q, .inr (3, [.int (0 : Int32), .int (0 : Int32), .ref q1]))] ++ [raF g q1 20 (fun _ => none)]) H := hP
  have hD : va_D A ([(q, .inr (3, [.int (0 : Int32), .int (0 : Int32), .ref q1]))] ++ [raF g q1 20 (fun _ => none)]) := hD
  refine lv_iconst (v := (0 : Int32)) hx hb dX3_init_23 (by decide) ?_
  refine lv_istore_n (lv' := [(1, .int (0 : Int32)), (0, .ref q)]) hx hb dX3_init_24 rfl hl (by decide) rfl (fun ls hl => ?_)
  refine X3_loop q E N vc vf hvc hvf (va_up (fun _ => 0) 2 q1) 20 0 rfl (fun _ => none) (fun _ _ => 0) (fun j hj => absurd hj (Nat.not_lt_zero j)) H locs ls ?_ ?_ hS hl
  · exact hP
  · exact hD
