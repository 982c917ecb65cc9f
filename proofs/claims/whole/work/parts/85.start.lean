theorem gK_start {s : State} {args : Array Value} (hts : ∀ w ∈ lw_tbl, w.before args s = true) : ∃ g : gG, gK g s := by
  obtain ⟨c0, i0, k0⟩ := u_known (C := RX0) (T := TX0) (N := 7) (n := 7) hts (fun w h => gW_tbl w (u_inX0 w h)) (hts _ (gW_tbl _ u_ins_X0))
  obtain ⟨c1, i1, k1⟩ := u_known (C := RX1) (T := TX1) (N := 3) (n := 3) hts (fun w h => gW_tbl w (u_inX1 w h)) (hts _ (gW_tbl _ u_ins_X1))
  obtain ⟨c2, i2, k2⟩ := u_known (C := RX2) (T := TX2) (N := 7) (n := 7) hts (fun w h => gW_tbl w (u_inX2 w h)) (hts _ (gW_tbl _ u_ins_X2))
  obtain ⟨c3, i3, k3⟩ := u_known (C := RX3) (T := TX3) (N := 3) (n := 3) hts (fun w h => gW_tbl w (u_inX3 w h)) (hts _ (gW_tbl _ u_ins_X3))
  obtain ⟨c4, i4, k4⟩ := u_known (C := RX4) (T := TX4) (N := 9) (n := 9) hts (fun w h => gW_tbl w (u_inX4 w h)) (hts _ (gW_tbl _ u_ins_X4))
  obtain ⟨c5, i5, k5⟩ := u_known (C := RX5) (T := TX5) (N := 6) (n := 6) hts (fun w h => gW_tbl w (u_inX5 w h)) (hts _ (gW_tbl _ u_ins_X5))
  obtain ⟨c6, i6, k6⟩ := u_known (C := RX6) (T := TX6) (N := 2) (n := 2) hts (fun w h => gW_tbl w (u_inX6 w h)) (hts _ (gW_tbl _ u_ins_X6))
  obtain ⟨c7, i7, k7⟩ := u_known (C := RX7) (T := TX7) (N := 4) (n := 4) hts (fun w h => gW_tbl w (u_inX7 w h)) (hts _ (gW_tbl _ u_ins_X7))
  obtain ⟨c8, i8, k8⟩ := u_known (C := RX8) (T := TX8) (N := 2) (n := 2) hts (fun w h => gW_tbl w (u_inX8 w h)) (hts _ (gW_tbl _ u_ins_X8))
  obtain ⟨c9, i9, k9⟩ := u_known (C := RX9) (T := TX9) (N := 11) (n := 11) hts (fun w h => gW_tbl w (u_inX9 w h)) (hts _ (gW_tbl _ u_ins_X9))
  obtain ⟨c10, i10, k10⟩ := u_known (C := RX10) (T := TX10) (N := 38) (n := 38) hts (fun w h => gW_tbl w (u_inX10 w h)) (hts _ (gW_tbl _ u_ins_X10))
  obtain ⟨aI, bI, dI, eI, fI, gI⟩ := Cond.arrayClass_spec (hts _ (gW_tbl _ u_ac_int))
  obtain ⟨aJ, bJ, dJ, eJ, fJ, gJ⟩ := Cond.arrayClass_spec (hts _ (gW_tbl _ u_ac_long))
  obtain ⟨aZ, bZ, dZ, eZ, fZ, gZ⟩ := Cond.arrayClass_spec (hts _ (gW_tbl _ u_ac_boolean))
  obtain ⟨dF, aF, bF, hF, jF, fF, gF, eF⟩ := Cond.arrayOver_spec (hts _ u_ao_X0)
  obtain ⟨dG, aG, bG, hG, jG, fG, gG, eG⟩ := Cond.arrayOver_spec (hts _ u_ao_X1)
  refine ⟨((fun k => if k = 0 then c0 else if k = 1 then c1 else if k = 2 then c2 else if k = 3 then c3 else if k = 4 then c4 else if k = 5 then c5 else if k = 6 then c6 else if k = 7 then c7 else if k = 8 then c8 else if k = 9 then c9 else c10, fun k => if k = 0 then i0 else if k = 1 then i1 else if k = 2 then i2 else if k = 3 then i3 else if k = 4 then i4 else if k = 5 then i5 else if k = 6 then i6 else if k = 7 then i7 else if k = 8 then i8 else if k = 9 then i9 else i10), (aI, aJ, aZ, aF, aG)), ⟨?_, ?_⟩, ?_, va_AO.of (hts _ u_ao_X0), va_AO.of (hts _ u_ao_X1)⟩
  · intro k q hq
    match k, hq with
    | 0, hq => cases hq; exact k0
    | 1, hq => cases hq; exact k1
    | 2, hq => cases hq; exact k2
    | 3, hq => cases hq; exact k3
    | 4, hq => cases hq; exact k4
    | 5, hq => cases hq; exact k5
    | 6, hq => cases hq; exact k6
    | 7, hq => cases hq; exact k7
    | 8, hq => cases hq; exact k8
    | 9, hq => cases hq; exact k9
    | 10, hq => cases hq; exact k10
    | k + 11, hq => simp [vwCl] at hq
  · intro k q hq
    match k, hq with
    | 0, hq => cases hq; exact ⟨fun N z => ⟨(fun k h => by cases h), bI, fI, dI, gI⟩, eI⟩
    | 1, hq => cases hq; exact ⟨fun N z => ⟨(fun k h => by cases h), bJ, fJ, dJ, gJ⟩, eJ⟩
    | 2, hq => cases hq; exact ⟨fun N z => ⟨(fun k h => by cases h), bZ, fZ, dZ, gZ⟩, eZ⟩
    | 3, hq => cases hq; exact ⟨fun N z => ⟨(fun k h => by cases h), bF, fF, dF, gF⟩, bF, dF, fF, gF, hF, eF⟩
    | 4, hq => cases hq; exact ⟨fun N z => ⟨(fun k h => by cases h), bG, fG, dG, gG⟩, bG, dG, fG, gG, hG, eG⟩
    | k + 5, hq => simp [gT] at hq
  · exact List.forall_mem_cons.mpr ⟨va_Nw.of rfl (hts _ u_nl_X9_11), List.forall_mem_cons.mpr ⟨va_Nw.of rfl (hts _ u_nl_X9_18), List.forall_mem_cons.mpr ⟨va_Nw.of rfl (hts _ u_nl_X9_51), List.forall_mem_cons.mpr ⟨va_Nw.of rfl (hts _ u_nl_X9_58), List.forall_mem_cons.mpr ⟨va_Nw.of rfl (hts _ u_nl_X9_65), List.forall_mem_cons.mpr ⟨va_Nw.of rfl (hts _ u_nl_X9_74), List.forall_mem_cons.mpr ⟨va_Nw.of rfl (hts _ u_nl_X0_81), List.forall_mem_cons.mpr ⟨va_Nw.of rfl (hts _ u_nl_X6_39), List.forall_mem_cons.mpr ⟨va_Nw.of rfl (hts _ u_nl_X7_100), List.forall_mem_cons.mpr ⟨va_Nw.of rfl (hts _ u_nl_X7_11), List.forall_mem_cons.mpr ⟨va_Nw.of rfl (hts _ u_nl_X8_40), fun _ h => absurd h List.not_mem_nil⟩⟩⟩⟩⟩⟩⟩⟩⟩⟩⟩
set_option maxHeartbeats 8000000 in
set_option maxRecDepth 100000 in
theorem whole_start {p : Program} {e : Env} {s : State} {m : MethodId} {below : List Frame} {meth : Method} {c : Code} (l : Launch) {b L : Nat} {xs : Nat → Int32} (hL : L ≤ 256) (C0' : lw_At p s m meth c b L xs) : W p l e room_1 s m #[Value.ref b] below meth c s.heap [] 0 0 (lw_Z below #[Value.ref b] s) (entryFrame m ([Value.ref b] : List Value).toArray 4) := by
  obtain ⟨hx, hb, hr, hml, hown, hts0, hX, hbl, hlk, hgv⟩ := C0'
  obtain ⟨g, hK⟩ := gK_start hts0
  have hts : ∀ w ∈ ((.initialized RX9 : Cond) :: gW), w.before #[Value.ref b] s = true := fun w hw => by
    rcases List.mem_cons.mp hw with rfl | h
    · exact hts0 _ (gW_tbl _ u_ini_X9)
    · exact hts0 _ (gW_tbl _ h)
  have hown : s.vm.findClass RL = some m.cls := hown
  have hb : c.code = cL_law := hb
  have hA : ∀ q : Nat, s.heap.size ≤ q → (fun q : Nat => s.heap.size ≤ q) q := fun _ h => h
  have hbA : ¬ (fun q : Nat => s.heap.size ≤ q) b := Nat.not_le.mpr hbl
  have E : EL p s m meth c b L xs g (fun q : Nat => s.heap.size ≤ q) := ⟨⟨hx, hb, hml, hown, hts⟩, hr, hK, hA, hlk, hX, hbl, hbA, hL⟩
  obtain ⟨N, hN⟩ : ∃ N : Nat, N = 5000 := ⟨_, rfl⟩
  obtain ⟨vc, vf, vd, vo, hvc, hvf, hvd, hvo, hR⟩ := P_init (N := N) (by omega)
  have hS : va_S (fun q : Nat => s.heap.size ≤ q) s.heap s.heap [] := va_S.rf
  have hP : va_P g.1 vwCl [] s.heap := fun k q h => by simp at h
  have hD : va_D (fun q : Nat => s.heap.size ≤ q) [] := ⟨fun i j p q h => by simp at h, fun k q h => by simp at h⟩
  have hl := lv_entry ([.ref b]) (n := 4) (Nat.le_of_ble_eq_true rfl)
  rw [lg_entry_eq]
  generalize (lg_sl ([.ref b]) ++ List.replicate (4 - (lg_sl ([.ref b])).length) Slot.unset).toArray = ls at hl ⊢
  have hl : lv_has ls 4 [(0, .ref b)] := hl
  suffices go : ∀ H : Heap, H = s.heap → va_P g.1 vwCl [] H → va_S (fun q : Nat => s.heap.size ≤ q) s.heap H [] → W p l e (rC 9 600000 7302250 320) s m #[Value.ref b] below meth c H [] 0 0 (lw_Z below #[Value.ref b] s) (F0 m 0 ls []) from go s.heap rfl hP hS
  clear hP hS
  intro H hH hP hS
  clear hH
  refine va_new (ci := 9) (fs := [.null, .null, .null, .null, .null, .null, .null, .null, .null, .null, .int 0]) (C := RX9) (T := TX9) (N := 11) hx hb hts (fun w h => .tail _ (u_inX9 w h)) tyX9 tyX9_ok hown (hts _ (.tail _ u_cl_L_7)) (hts _ (.tail _ u_ins_X9)) (hts _ (.tail _ u_ini_X9)) hK.1 hP hD hS hA rfl (fun j hj => by rcases (show j = 0 ∨ j = 1 ∨ j = 2 ∨ j = 3 ∨ j = 4 ∨ j = 5 ∨ j = 6 ∨ j = 7 ∨ j = 8 ∨ j = 9 ∨ j = 10 by omega) with rfl | rfl | rfl | rfl | rfl | rfl | rfl | rfl | rfl | rfl | rfl <;> rfl) (Nat.le_of_ble_eq_true rfl) (Nat.le_of_ble_eq_true rfl) dL_law_0 (fun q H hP hD hS => ?_)
  refine lv_dup hx hb dL_law_3 rfl ?_
  refine kIc (ws := []) (rest := [.ref q]) ⟨hx, hb, hml, hown, hts⟩ (c_X9_init l g q N vc vf hvc hvf H.size) u_co_X9_init u_ml_L_9 u_im_X9_init u_ini_X9 rfl hd_X9_init.2 ⟨rfl, rfl⟩ ⟨rfl, rfl⟩ hK hP hD hS hA hl.1 rfl rfl dL_law_4 (fun u H locs hP hD hS => ?_)
  have hP : va_P g.1 vwCl (fGA g q u (fun i => u (20 + i)) (C0 vc vf) (fun _ => zL) ++ pF g 20 (fun i => u (20 + i)) (fun _ => (Fi vc vf))) H := hP
  have hD : va_D (fun q : Nat => s.heap.size ≤ q) (fGA g q u (fun i => u (20 + i)) (C0 vc vf) (fun _ => zL) ++ pF g 20 (fun i => u (20 + i)) (fun _ => (Fi vc vf))) := hD
  refine lv_astore_n (lv' := [(1, .ref q), (0, .ref b)]) hx hb dL_law_7 rfl hl (by decide) rfl (fun ls hl => ?_)
  refine va_new (ci := 10) (fs := [.int 0, .null, .int 0, .int 0, .int 0, .int 0, .int 0, .int 0, .int 0, .int 0, .int 0, .int 0, .int 0, .null, .null, .int 0, .int 0, .int 0, .null, .null, .null, .null, .null, .int 0, .null, .null, .null, .int 0, .int 0, .null, .int 0, .null, .null, .null, .null, .null, .null, .null]) (C := RX10) (T := TX10) (N := 38) hx hb hts (fun w h => .tail _ (u_inX10 w h)) tyX10 tyX10_ok hown (hts _ (.tail _ u_cl_L_10)) (hts _ (.tail _ u_ins_X10)) (hts _ (.tail _ u_ini_X10)) hK.1 hP hD hS hA rfl (fun j hj => by rcases (show j = 0 ∨ j = 1 ∨ j = 2 ∨ j = 3 ∨ j = 4 ∨ j = 5 ∨ j = 6 ∨ j = 7 ∨ j = 8 ∨ j = 9 ∨ j = 10 ∨ j = 11 ∨ j = 12 ∨ j = 13 ∨ j = 14 ∨ j = 15 ∨ j = 16 ∨ j = 17 ∨ j = 18 ∨ j = 19 ∨ j = 20 ∨ j = 21 ∨ j = 22 ∨ j = 23 ∨ j = 24 ∨ j = 25 ∨ j = 26 ∨ j = 27 ∨ j = 28 ∨ j = 29 ∨ j = 30 ∨ j = 31 ∨ j = 32 ∨ j = 33 ∨ j = 34 ∨ j = 35 ∨ j = 36 ∨ j = 37 by omega) with rfl | rfl | rfl | rfl | rfl | rfl | rfl | rfl | rfl | rfl | rfl | rfl | rfl | rfl | rfl | rfl | rfl | rfl | rfl | rfl | rfl | rfl | rfl | rfl | rfl | rfl | rfl | rfl | rfl | rfl | rfl | rfl | rfl | rfl | rfl | rfl | rfl | rfl <;> rfl) (Nat.le_of_ble_eq_true rfl) (Nat.le_of_ble_eq_true rfl) dL_law_8 (fun qm H hP hD hS => ?_)
  refine lv_dup hx hb dL_law_11 rfl ?_
  refine kIc (rest := [.ref qm]) ⟨hx, hb, hml, hown, hts⟩ (c_X10_init l g qm N vd vo hvd hvo H.size) u_co_X10_init u_ml_L_12 u_im_X10_init u_ini_X10 rfl hd_X10_init.2 ⟨rfl, rfl⟩ ⟨rfl, rfl⟩ hK hP hD hS hA hl.1 rfl rfl dL_law_12 (fun um H locs hP hD hS => ?_)
  refine lv_astore_n (lv' := [(2, .ref qm), (1, .ref q), (0, .ref b)]) hx hb dL_law_15 rfl hl (by decide) rfl (fun ls hl => ?_)
  refine lv_iconst (v := 0) hx hb dL_law_16 (by decide) ?_
  refine lv_istore_n (lv' := [(3, .int 0), (2, .ref qm), (1, .ref q), (0, .ref b)]) hx hb dL_law_17 rfl hl (by decide) rfl (fun ls hl => ?_)
  have pm : ∀ (x y z : va_W), ((x ++ y) ++ z).Perm (x ++ (z ++ y)) := fun x y z => by
    rw [List.append_assoc]
    exact List.Perm.append_left _ List.perm_append_comm
  have hP := P_perm (pm _ _ _) hP
  have hD := D_perm (pm _ _ _) hD
  have hP : va_P g.1 vwCl (lW g q u (fun i => u (20 + i)) (C0 vc vf) (fun _ => zL) (fun _ => Fi vc vf) qm (um 0) (va_up (va_up z0 7 (fun _ => -1)) 20 vo) zL) H := hP
  have hD : va_D (fun q : Nat => s.heap.size ≤ q) (lW g q u (fun i => u (20 + i)) (C0 vc vf) (fun _ => zL) (fun _ => Fi vc vf) qm (um 0) (va_up (va_up z0 7 (fun _ => -1)) 20 vo) zL) := hD
  exact law_loop E ⟨Nat.le_of_ble_eq_true rfl, Nat.le_of_ble_eq_true rfl⟩ (N := N) (by omega) q qm (um 0) (L + 1) 0 (by omega) u (fun i => u (20 + i)) (C0 vc vf) (fun _ => zL) (fun _ => Fi vc vf) _ zL hR H locs ls hP hD hS (lv_sub hl [3, 2, 1, 0] rfl)
