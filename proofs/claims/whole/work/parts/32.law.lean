set_option maxHeartbeats 8000000 in
set_option maxRecDepth 100000 in
theorem L_empty {p : Program} {l : Launch} {e : Env} {s : State} {m : MethodId} {below : List Frame} {meth : Method} {c : Code} {g : gG} {A : Nat → Prop} {Q : State → Prop} {cells slots b L : Nat} {xs : Nat → Int32} (E : EL p s m meth c b L xs g A) (hcs : cells ≤ 600000 ∧ slots ≤ 7302250) (N q qm : Nat) (x3 : Int32) (u RQ : Nat → Ad) (C : Nat → St) (CL : Nat → SL) (RF : Nat → St) (Qm : Ad) (M : St) (ML : SL) (kk : Nat) (hkk : kk < 20) (v : Int32 × (Nat → Int32) × (Nat → Int32) × (Nat → Int32) × (Nat → Int32) × Int32 × Int32 × Int32 × Int32 × (Nat → Int32) × (Nat → Int32) × (Nat → Int32) × (Nat → Int32) × (Nat → Int32)) (w : Int32 × (Nat → Int32) × (Nat → Int32) × Int32) (hv : x_X9_empty N (RQ kk 7) (C 0) (C 4) (C 6) (fun i => some (RQ i 7)) (RF kk) = some v) (hw : x_X10_empty N M = some w) (heq : v.1 = w.1) (kn : WL p l e s m below meth c g A Q cells slots 1082 b q qm x3 u RQ (va_up (va_up C 4 (va_up (va_up (va_up (va_up (C 4) 2 v.2.1) 4 v.2.2.1) 5 v.2.2.2.1) 6 v.2.2.2.2.1)) 6 (va_up (va_up (C 6) 0 (fun _ => v.2.2.2.2.2.1)) 1 (fun _ => v.2.2.2.2.2.2.1))) CL (va_up RF kk (va_up (va_up (va_up (va_up (va_up (va_up (va_up (RF kk) 0 (fun _ => v.2.2.2.2.2.2.2.1)) 1 (fun _ => v.2.2.2.2.2.2.2.2.1)) 2 v.2.2.2.2.2.2.2.2.2.1) 3 v.2.2.2.2.2.2.2.2.2.2.1) 4 v.2.2.2.2.2.2.2.2.2.2.2.1) 5 v.2.2.2.2.2.2.2.2.2.2.2.2.1) 6 v.2.2.2.2.2.2.2.2.2.2.2.2.2)) Qm (va_up (va_up (va_up M 20 w.2.1) 22 w.2.2.1) 23 (fun _ => w.2.2.2)) ML) : WL p l e s m below meth c g A Q cells slots 506 b q qm x3 u RQ C CL RF Qm M ML := by
  obtain ⟨⟨hx, hb, hml, hown, hts⟩, hr, hK, hA, hlk, hX, hbl, hbA, hL⟩ := id E
  intro H locs ls hP hD hS hl
  refine lv_aload_n hx hb dL_law_506 rfl (lv_at hl 1 rfl) ?_
  have hP := P_perm (perm_out hkk _ _ _ _) hP
  have hD := D_perm (perm_out hkk _ _ _ _) hD
  refine kLi (X := wX10 g qm Qm M ML ++ pX g kk RQ RF) (ws := fC g q u RQ C CL ++ wX0 g (RQ kk 7) (RQ kk) (RF kk)) ⟨hx, hb, hml, hown, hts⟩ (c_X9_empty l g q (u 0) (u 4) (u 6) (RQ kk) N (RQ kk 7) (C 0) (C 4) (C 6) (fun i => some (RQ i 7)) (RF kk) v hv H.size) (gV u_ml_L_65 u_im_X9_empty u_se_X9_empty u_ini_X9 u_co_X9_empty) hd_X9_empty ⟨rfl, rfl⟩ hcs hK hP hD hS hA 0 9 rfl rfl [0, 17, 18, 19, 20, 21, 22, 29, 30, 64, 65, 66, 67, 68, 69] [0, 16, 17, 18, 19, 20, 21, 22, 23, 24, 25, 26, 27, 28, 29, 30, 31, 1, 2, 3, 4, 5, 6, 38, 39, 40, 41, 42, 43, 7, 8, 46, 47, 48, 49, 50, 51, 52, 53, 54, 55, 56, 57, 58, 59, 60, 61, 62, 63, 64, 65, 66, 67, 68, 69, 70, 71, 72, 73, 74, 75, 76, 77, 78, 9, 10, 11, 12, 13, 14] rfl rfl 15 rfl (w2 := fC g q u RQ (va_up (va_up C 4 (va_up (va_up (va_up (va_up (C 4) 2 v.2.1) 4 v.2.2.1) 5 v.2.2.2.1) 6 v.2.2.2.2.1)) 6 (va_up (va_up (C 6) 0 (fun _ => v.2.2.2.2.2.1)) 1 (fun _ => v.2.2.2.2.2.2.1))) CL ++ wX0 g (RQ kk 7) (RQ kk) (va_up (va_up (va_up (va_up (va_up (va_up (va_up (RF kk) 0 (fun _ => v.2.2.2.2.2.2.2.1)) 1 (fun _ => v.2.2.2.2.2.2.2.2.1)) 2 v.2.2.2.2.2.2.2.2.2.1) 3 v.2.2.2.2.2.2.2.2.2.2.1) 4 v.2.2.2.2.2.2.2.2.2.2.2.1) 5 v.2.2.2.2.2.2.2.2.2.2.2.2.1) 6 v.2.2.2.2.2.2.2.2.2.2.2.2.2)) rfl rfl (As := []) (rest := []) rfl hl.1 rfl rfl dL_law_507 (fun H locs hP hD hS => ?_)
  have hP := P_perm (perm_back hkk _ _ _ _ _) hP
  have hD := D_perm (perm_back hkk _ _ _ _ _) hD
  have hP := P_perm (List.perm_append_comm_assoc _ _ _) hP
  have hD := D_perm (List.perm_append_comm_assoc _ _ _) hD
  refine lv_aload_n hx hb dL_law_510 rfl (lv_at hl 2 rfl) ?_
  refine kLi (X := fC g q u RQ (va_up (va_up C 4 (va_up (va_up (va_up (va_up (C 4) 2 v.2.1) 4 v.2.2.1) 5 v.2.2.2.1) 6 v.2.2.2.2.1)) 6 (va_up (va_up (C 6) 0 (fun _ => v.2.2.2.2.2.1)) 1 (fun _ => v.2.2.2.2.2.2.1))) CL ++ pF g 20 RQ (va_up RF kk (va_up (va_up (va_up (va_up (va_up (va_up (va_up (RF kk) 0 (fun _ => v.2.2.2.2.2.2.2.1)) 1 (fun _ => v.2.2.2.2.2.2.2.2.1)) 2 v.2.2.2.2.2.2.2.2.2.1) 3 v.2.2.2.2.2.2.2.2.2.2.1) 4 v.2.2.2.2.2.2.2.2.2.2.2.1) 5 v.2.2.2.2.2.2.2.2.2.2.2.2.1) 6 v.2.2.2.2.2.2.2.2.2.2.2.2.2))) (ws := wX10 g qm Qm M ML) ⟨hx, hb, hml, hown, hts⟩ (c_X10_empty l g qm Qm N M w hw H.size) (gV u_ml_L_68 u_im_X10_empty u_se_X10_empty u_ini_X10 u_co_X10_empty) hd_X10_empty ⟨rfl, rfl⟩ hcs hK hP hD hS hA 0 10 rfl rfl [0, 6, 8] [0, 4, 5, 6, 7, 8, 1, 10, 2, 12, 13, 14, 15, 16, 17, 18, 19, 20, 21, 22] rfl rfl 3 rfl (w2 := wX10 g qm Qm (va_up (va_up (va_up M 20 w.2.1) 22 w.2.2.1) 23 (fun _ => w.2.2.2)) ML) rfl rfl (As := []) (rest := [.int v.1]) rfl hl.1 rfl rfl dL_law_511 (fun H locs hP hD hS => ?_)
  have hP := P_perm (List.perm_append_comm_assoc _ _ _) hP
  have hD := D_perm (List.perm_append_comm_assoc _ _ _) hD
  refine lv_icmp_eq (tgt := 1082) hx hb dL_law_514 (by decide) (fun _ => ?_) (fun c9 => absurd heq c9)
  exact kn H locs ls hP hD hS hl
set_option maxHeartbeats 8000000 in
set_option maxRecDepth 100000 in
theorem L_drift {p : Program} {l : Launch} {e : Env} {s : State} {m : MethodId} {below : List Frame} {meth : Method} {c : Code} {g : gG} {A : Nat → Prop} {Q : State → Prop} {cells slots b L : Nat} {xs : Nat → Int32} (E : EL p s m meth c b L xs g A) (hcs : cells ≤ 600000 ∧ slots ≤ 7302250) (N q qm : Nat) (x3 : Int32) (u RQ : Nat → Ad) (C : Nat → St) (CL : Nat → SL) (RF : Nat → St) (Qm : Ad) (M : St) (ML : SL) (h1 : vp_in (x3 + 1) L) (kk : Nat) (hkk : kk < 20) (v : Int32 × Int32 × Int32 × (Nat → Int32) × (Nat → Int32) × (Nat → Int32) × (Nat → Int32) × Int32 × Int32 × Int32 × Int32 × (Nat → Int32) × (Nat → Int32) × (Nat → Int32) × (Nat → Int32) × (Nat → Int32)) (w : Int32 × (Nat → Int32) × (Nat → Int32) × Int32 × Int32) (hv : x_X9_drift N (RQ kk 7) (C 0) (C 4) (C 6) (fun i => some (RQ i 7)) (RF kk) (C 2) (xs (x3 + 1).toNatClampNeg) = some v) (hw : x_X10_drift N M (xs (x3 + 1).toNatClampNeg) = some w) (heq : v.1 = w.1) (kn : WL p l e s m below meth c g A Q cells slots 1082 b q qm x3 u RQ (va_up (va_up (va_up C 0 (va_up (C 0) 10 (fun _ => v.2.1))) 4 (va_up (va_up (va_up (va_up (va_up (C 4) 0 (fun _ => v.2.2.1)) 2 v.2.2.2.1) 4 v.2.2.2.2.1) 5 v.2.2.2.2.2.1) 6 v.2.2.2.2.2.2.1)) 6 (va_up (va_up (C 6) 0 (fun _ => v.2.2.2.2.2.2.2.1)) 1 (fun _ => v.2.2.2.2.2.2.2.2.1))) CL (va_up RF kk (va_up (va_up (va_up (va_up (va_up (va_up (va_up (RF kk) 0 (fun _ => v.2.2.2.2.2.2.2.2.2.1)) 1 (fun _ => v.2.2.2.2.2.2.2.2.2.2.1)) 2 v.2.2.2.2.2.2.2.2.2.2.2.1) 3 v.2.2.2.2.2.2.2.2.2.2.2.2.1) 4 v.2.2.2.2.2.2.2.2.2.2.2.2.2.1) 5 v.2.2.2.2.2.2.2.2.2.2.2.2.2.2.1) 6 v.2.2.2.2.2.2.2.2.2.2.2.2.2.2.2)) Qm (va_up (va_up (va_up (va_up M 20 w.2.1) 22 w.2.2.1) 23 (fun _ => w.2.2.2.1)) 27 (fun _ => w.2.2.2.2)) ML) : WL p l e s m below meth c g A Q cells slots 519 b q qm x3 u RQ C CL RF Qm M ML := by
  obtain ⟨⟨hx, hb, hml, hown, hts⟩, hr, hK, hA, hlk, hX, hbl, hbA, hL⟩ := id E
  intro H locs ls hP hD hS hl
  refine lv_aload_n hx hb dL_law_519 rfl (lv_at hl 1 rfl) ?_
  refine lv_aload_n hx hb dL_law_520 rfl (lv_at hl 0 rfl) ?_
  refine lv_iload_n hx hb dL_law_521 rfl (lv_at hl 3 rfl) ?_
  refine lv_iconst (v := (1 : Int32)) hx hb dL_law_522 (by decide) ?_
  refine lv_iadd hx hb dL_law_523 ?_
  refine va_sld hx hb hX hbl hbA hS h1 dL_law_524 ?_
  have hP := P_perm (perm_out hkk _ _ _ _) hP
  have hD := D_perm (perm_out hkk _ _ _ _) hD
  refine kLi (X := wX10 g qm Qm M ML ++ pX g kk RQ RF) (ws := fC g q u RQ C CL ++ wX0 g (RQ kk 7) (RQ kk) (RF kk)) ⟨hx, hb, hml, hown, hts⟩ (c_X9_drift l g q (u 0) (u 4) (u 6) (RQ kk) (u 2) N (RQ kk 7) (C 0) (C 4) (C 6) (fun i => some (RQ i 7)) (RF kk) (C 2) (xs (x3 + 1).toNatClampNeg) v hv H.size) (gV u_ml_L_69 u_im_X9_drift u_se_X9_drift u_ini_X9 u_co_X9_drift) hd_X9_drift ⟨rfl, rfl⟩ hcs hK hP hD hS hA 0 9 rfl rfl [0, 17, 18, 19, 20, 21, 22, 29, 30, 64, 65, 66, 67, 68, 69, 3, 4, 6, 7, 8] [0, 21, 22, 15, 16, 25, 17, 18, 19, 29, 30, 31, 32, 33, 34, 35, 36, 1, 2, 3, 4, 5, 6, 43, 44, 45, 46, 47, 48, 7, 8, 51, 52, 53, 54, 55, 56, 57, 58, 59, 60, 61, 62, 63, 64, 65, 66, 67, 68, 69, 70, 71, 72, 73, 74, 75, 76, 77, 78, 79, 80, 81, 82, 83, 9, 10, 11, 12, 13, 14] rfl rfl 20 rfl (w2 := fC g q u RQ (va_up (va_up (va_up C 0 (va_up (C 0) 10 (fun _ => v.2.1))) 4 (va_up (va_up (va_up (va_up (va_up (C 4) 0 (fun _ => v.2.2.1)) 2 v.2.2.2.1) 4 v.2.2.2.2.1) 5 v.2.2.2.2.2.1) 6 v.2.2.2.2.2.2.1)) 6 (va_up (va_up (C 6) 0 (fun _ => v.2.2.2.2.2.2.2.1)) 1 (fun _ => v.2.2.2.2.2.2.2.2.1))) CL ++ wX0 g (RQ kk 7) (RQ kk) (va_up (va_up (va_up (va_up (va_up (va_up (va_up (RF kk) 0 (fun _ => v.2.2.2.2.2.2.2.2.2.1)) 1 (fun _ => v.2.2.2.2.2.2.2.2.2.2.1)) 2 v.2.2.2.2.2.2.2.2.2.2.2.1) 3 v.2.2.2.2.2.2.2.2.2.2.2.2.1) 4 v.2.2.2.2.2.2.2.2.2.2.2.2.2.1) 5 v.2.2.2.2.2.2.2.2.2.2.2.2.2.2.1) 6 v.2.2.2.2.2.2.2.2.2.2.2.2.2.2.2)) rfl rfl (As := [.int (xs (x3 + 1).toNatClampNeg)]) (rest := []) rfl hl.1 rfl rfl dL_law_525 (fun H locs hP hD hS => ?_)
  have hP := P_perm (perm_back hkk _ _ _ _ _) hP
  have hD := D_perm (perm_back hkk _ _ _ _ _) hD
  have hP := P_perm (List.perm_append_comm_assoc _ _ _) hP
  have hD := D_perm (List.perm_append_comm_assoc _ _ _) hD
  refine lv_aload_n hx hb dL_law_528 rfl (lv_at hl 2 rfl) ?_
  refine lv_aload_n hx hb dL_law_529 rfl (lv_at hl 0 rfl) ?_
  refine lv_iload_n hx hb dL_law_530 rfl (lv_at hl 3 rfl) ?_
  refine lv_iconst (v := (1 : Int32)) hx hb dL_law_531 (by decide) ?_
  refine lv_iadd hx hb dL_law_532 ?_
  refine va_sld hx hb hX hbl hbA hS h1 dL_law_533 ?_
  refine kLi (X := fC g q u RQ (va_up (va_up (va_up C 0 (va_up (C 0) 10 (fun _ => v.2.1))) 4 (va_up (va_up (va_up (va_up (va_up (C 4) 0 (fun _ => v.2.2.1)) 2 v.2.2.2.1) 4 v.2.2.2.2.1) 5 v.2.2.2.2.2.1) 6 v.2.2.2.2.2.2.1)) 6 (va_up (va_up (C 6) 0 (fun _ => v.2.2.2.2.2.2.2.1)) 1 (fun _ => v.2.2.2.2.2.2.2.2.1))) CL ++ pF g 20 RQ (va_up RF kk (va_up (va_up (va_up (va_up (va_up (va_up (va_up (RF kk) 0 (fun _ => v.2.2.2.2.2.2.2.2.2.1)) 1 (fun _ => v.2.2.2.2.2.2.2.2.2.2.1)) 2 v.2.2.2.2.2.2.2.2.2.2.2.1) 3 v.2.2.2.2.2.2.2.2.2.2.2.2.1) 4 v.2.2.2.2.2.2.2.2.2.2.2.2.2.1) 5 v.2.2.2.2.2.2.2.2.2.2.2.2.2.2.1) 6 v.2.2.2.2.2.2.2.2.2.2.2.2.2.2.2))) (ws := wX10 g qm Qm M ML) ⟨hx, hb, hml, hown, hts⟩ (c_X10_drift l g qm Qm N M (xs (x3 + 1).toNatClampNeg) w hw H.size) (gV u_ml_L_72 u_im_X10_drift u_se_X10_drift u_ini_X10 u_co_X10_drift) hd_X10_drift ⟨rfl, rfl⟩ hcs hK hP hD hS hA 0 10 rfl rfl [0, 4, 5, 6, 8] [0, 6, 7, 8, 1, 2, 3, 12, 4, 14, 15, 16, 17, 18, 19, 20, 21, 22, 23, 24] rfl rfl 5 rfl (w2 := wX10 g qm Qm (va_up (va_up (va_up (va_up M 20 w.2.1) 22 w.2.2.1) 23 (fun _ => w.2.2.2.1)) 27 (fun _ => w.2.2.2.2)) ML) rfl rfl (As := [.int (xs (x3 + 1).toNatClampNeg)]) (rest := [.int v.1]) rfl hl.1 rfl rfl dL_law_534 (fun H locs hP hD hS => ?_)
  have hP := P_perm (List.perm_append_comm_assoc _ _ _) hP
  have hD := D_perm (List.perm_append_comm_assoc _ _ _) hD
  refine lv_icmp_eq (tgt := 1082) hx hb dL_law_537 (by decide) (fun _ => ?_) (fun c9 => absurd heq c9)
  exact kn H locs ls hP hD hS hl
set_option maxHeartbeats 8000000 in
set_option maxRecDepth 100000 in
theorem L_undo {p : Program} {l : Launch} {e : Env} {s : State} {m : MethodId} {below : List Frame} {meth : Method} {c : Code} {g : gG} {A : Nat → Prop} {Q : State → Prop} {cells slots b L : Nat} {xs : Nat → Int32} (E : EL p s m meth c b L xs g A) (hcs : cells ≤ 600000 ∧ slots ≤ 7302250) (N q qm : Nat) (x3 : Int32) (u RQ : Nat → Ad) (C : Nat → St) (CL : Nat → SL) (RF : Nat → St) (Qm : Ad) (M : St) (ML : SL) (kk : Nat) (hkk : kk < 20) (v : Int32 × Int32 × Int32 × (Nat → Int32) × (Nat → Int32) × (Nat → Int32) × (Nat → Int32) × (Nat → Int32) × Int32 × Int32) (w : Int32 × (Nat → Int32) × Int32) (hv : x_X9_undo (RQ kk 7) (C 0) (C 4) (C 6) (fun i => some (RQ i 7)) (RF kk) = some v) (hw : x_X10_undo N M = some w) (heq : v.1 = w.1) (kn : WL p l e s m below meth c g A Q cells slots 1082 b q qm x3 u RQ (va_up (va_up C 4 (va_up (va_up (va_up (va_up (va_up (va_up (va_up (C 4) 0 (fun _ => v.2.1)) 1 (fun _ => v.2.2.1)) 2 v.2.2.2.1) 3 v.2.2.2.2.1) 4 v.2.2.2.2.2.1) 5 v.2.2.2.2.2.2.1) 6 v.2.2.2.2.2.2.2.1)) 6 (va_up (va_up (C 6) 0 (fun _ => v.2.2.2.2.2.2.2.2.1)) 1 (fun _ => v.2.2.2.2.2.2.2.2.2))) CL (va_up RF kk (RF kk)) Qm (va_up (va_up M 20 w.2.1) 23 (fun _ => w.2.2)) ML) : WL p l e s m below meth c g A Q cells slots 542 b q qm x3 u RQ C CL RF Qm M ML := by
  obtain ⟨⟨hx, hb, hml, hown, hts⟩, hr, hK, hA, hlk, hX, hbl, hbA, hL⟩ := id E
  intro H locs ls hP hD hS hl
  refine lv_aload_n hx hb dL_law_542 rfl (lv_at hl 1 rfl) ?_
  have hP := P_perm (perm_out hkk _ _ _ _) hP
  have hD := D_perm (perm_out hkk _ _ _ _) hD
  refine kLi (X := wX10 g qm Qm M ML ++ pX g kk RQ RF) (ws := fC g q u RQ C CL ++ wX0 g (RQ kk 7) (RQ kk) (RF kk)) ⟨hx, hb, hml, hown, hts⟩ (c_X9_undo l g q (u 0) (u 4) (u 6) (RQ kk) (RQ kk 7) (C 0) (C 4) (C 6) (fun i => some (RQ i 7)) (RF kk) v hv H.size) (gV u_ml_L_73 u_im_X9_undo u_se_X9_undo u_ini_X9 u_co_X9_undo) hd_X9_undo ⟨rfl, rfl⟩ hcs hK hP hD hS hA 0 9 rfl rfl [0, 17, 18, 19, 20, 21, 22, 29, 30, 64, 65, 66, 67, 68, 69] [0, 16, 17, 18, 19, 20, 21, 22, 23, 24, 25, 26, 27, 28, 29, 30, 31, 1, 2, 3, 4, 5, 6, 38, 39, 40, 41, 42, 43, 7, 8, 46, 47, 48, 49, 50, 51, 52, 53, 54, 55, 56, 57, 58, 59, 60, 61, 62, 63, 64, 65, 66, 67, 68, 69, 70, 71, 72, 73, 74, 75, 76, 77, 78, 9, 10, 11, 12, 13, 14] rfl rfl 15 rfl (w2 := fC g q u RQ (va_up (va_up C 4 (va_up (va_up (va_up (va_up (va_up (va_up (va_up (C 4) 0 (fun _ => v.2.1)) 1 (fun _ => v.2.2.1)) 2 v.2.2.2.1) 3 v.2.2.2.2.1) 4 v.2.2.2.2.2.1) 5 v.2.2.2.2.2.2.1) 6 v.2.2.2.2.2.2.2.1)) 6 (va_up (va_up (C 6) 0 (fun _ => v.2.2.2.2.2.2.2.2.1)) 1 (fun _ => v.2.2.2.2.2.2.2.2.2))) CL ++ wX0 g (RQ kk 7) (RQ kk) (RF kk)) rfl rfl (As := []) (rest := []) rfl hl.1 rfl rfl dL_law_543 (fun H locs hP hD hS => ?_)
  have hP := P_perm (perm_back hkk _ _ _ _ _) hP
  have hD := D_perm (perm_back hkk _ _ _ _ _) hD
  have hP := P_perm (List.perm_append_comm_assoc _ _ _) hP
  have hD := D_perm (List.perm_append_comm_assoc _ _ _) hD
  refine lv_aload_n hx hb dL_law_546 rfl (lv_at hl 2 rfl) ?_
  refine kLi (X := fC g q u RQ (va_up (va_up C 4 (va_up (va_up (va_up (va_up (va_up (va_up (va_up (C 4) 0 (fun _ => v.2.1)) 1 (fun _ => v.2.2.1)) 2 v.2.2.2.1) 3 v.2.2.2.2.1) 4 v.2.2.2.2.2.1) 5 v.2.2.2.2.2.2.1) 6 v.2.2.2.2.2.2.2.1)) 6 (va_up (va_up (C 6) 0 (fun _ => v.2.2.2.2.2.2.2.2.1)) 1 (fun _ => v.2.2.2.2.2.2.2.2.2))) CL ++ pF g 20 RQ (va_up RF kk (RF kk))) (ws := wX10 g qm Qm M ML) ⟨hx, hb, hml, hown, hts⟩ (c_X10_undo l g qm Qm N M w hw H.size) (gV u_ml_L_76 u_im_X10_undo u_se_X10_undo u_ini_X10 u_co_X10_undo) hd_X10_undo ⟨rfl, rfl⟩ hcs hK hP hD hS hA 0 10 rfl rfl [0, 6, 8] [0, 4, 5, 6, 7, 8, 1, 10, 2, 12, 13, 14, 15, 16, 17, 18, 19, 20, 21, 22] rfl rfl 3 rfl (w2 := wX10 g qm Qm (va_up (va_up M 20 w.2.1) 23 (fun _ => w.2.2)) ML) rfl rfl (As := []) (rest := [.int v.1]) rfl hl.1 rfl rfl dL_law_547 (fun H locs hP hD hS => ?_)
  have hP := P_perm (List.perm_append_comm_assoc _ _ _) hP
  have hD := D_perm (List.perm_append_comm_assoc _ _ _) hD
  refine lv_icmp_eq (tgt := 1082) hx hb dL_law_550 (by decide) (fun _ => ?_) (fun c9 => absurd heq c9)
  exact kn H locs ls hP hD hS hl
set_option maxHeartbeats 8000000 in
set_option maxRecDepth 100000 in
theorem L_hears {p : Program} {l : Launch} {e : Env} {s : State} {m : MethodId} {below : List Frame} {meth : Method} {c : Code} {g : gG} {A : Nat → Prop} {Q : State → Prop} {cells slots b L : Nat} {xs : Nat → Int32} (E : EL p s m meth c b L xs g A) (hcs : cells ≤ 600000 ∧ slots ≤ 7302250) (N q qm : Nat) (x3 : Int32) (u RQ : Nat → Ad) (C : Nat → St) (CL : Nat → SL) (RF : Nat → St) (Qm : Ad) (M : St) (ML : SL) (h1 : vp_in (x3 + 1) L) (h2 : vp_in (x3 + 2) L) (v : Int32 × Int32 × Int32 × (Nat → Int32) × (Nat → Int32) × (Nat → Int32) × (Nat → Int32) × (Nat → Int32)) (w : Int32 × (Nat → Int32)) (hv : x_X9_hears N (C 0) (C 4) (C 2) (C 5) (xs (x3 + 1).toNatClampNeg) (xs (x3 + 2).toNatClampNeg) = some v) (hw : x_X10_hears N M (xs (x3 + 1).toNatClampNeg) (xs (x3 + 2).toNatClampNeg) = some w) (heq : v.1 = w.1) (kn : WL p l e s m below meth c g A Q cells slots 1082 b q qm x3 u RQ (va_up C 5 (va_up (va_up (va_up (va_up (va_up (va_up (va_up (C 5) 0 (fun _ => v.2.1)) 1 (fun _ => v.2.2.1)) 2 v.2.2.2.1) 3 v.2.2.2.2.1) 4 v.2.2.2.2.2.1) 5 v.2.2.2.2.2.2.1) 6 v.2.2.2.2.2.2.2)) CL RF Qm (va_up M 21 w.2) ML) : WL p l e s m below meth c g A Q cells slots 555 b q qm x3 u RQ C CL RF Qm M ML := by
  obtain ⟨⟨hx, hb, hml, hown, hts⟩, hr, hK, hA, hlk, hX, hbl, hbA, hL⟩ := id E
  intro H locs ls hP hD hS hl
  refine lv_aload_n hx hb dL_law_555 rfl (lv_at hl 1 rfl) ?_
  refine lv_aload_n hx hb dL_law_556 rfl (lv_at hl 0 rfl) ?_
  refine lv_iload_n hx hb dL_law_557 rfl (lv_at hl 3 rfl) ?_
  refine lv_iconst (v := (1 : Int32)) hx hb dL_law_558 (by decide) ?_
  refine lv_iadd hx hb dL_law_559 ?_
  refine va_sld hx hb hX hbl hbA hS h1 dL_law_560 ?_
  refine lv_aload_n hx hb dL_law_561 rfl (lv_at hl 0 rfl) ?_
  refine lv_iload_n hx hb dL_law_562 rfl (lv_at hl 3 rfl) ?_
  refine lv_iconst (v := (2 : Int32)) hx hb dL_law_563 (by decide) ?_
  refine lv_iadd hx hb dL_law_564 ?_
  refine va_sld hx hb hX hbl hbA hS h2 dL_law_565 ?_
  refine kLi (X := wX10 g qm Qm M ML ++ pF g 20 RQ RF) (ws := fC g q u RQ C CL) ⟨hx, hb, hml, hown, hts⟩ (c_X9_hears l g q (u 0) (u 4) (u 2) (u 5) N (C 0) (C 4) (C 2) (C 5) (xs (x3 + 1).toNatClampNeg) (xs (x3 + 2).toNatClampNeg) v hv H.size) (gV u_ml_L_77 u_im_X9_hears u_se_X9_hears u_ini_X9 u_co_X9_hears) hd_X9_hears ⟨rfl, rfl⟩ hcs hK hP hD hS hA 0 9 rfl rfl [0, 17, 18, 19, 20, 21, 22, 3, 4, 6, 7, 8, 23, 24, 25, 26, 27, 28] [0, 19, 20, 7, 8, 23, 9, 10, 11, 27, 28, 29, 30, 31, 32, 33, 34, 1, 2, 3, 4, 5, 6, 12, 13, 14, 15, 16, 17, 47, 48, 49, 50, 51, 52, 53, 54, 55, 56, 57, 58, 59, 60, 61, 62, 63, 64, 65, 66, 67, 68, 69, 70, 71, 72, 73, 74, 75, 76, 77, 78, 79, 80, 81] rfl rfl 18 rfl (w2 := fC g q u RQ (va_up C 5 (va_up (va_up (va_up (va_up (va_up (va_up (va_up (C 5) 0 (fun _ => v.2.1)) 1 (fun _ => v.2.2.1)) 2 v.2.2.2.1) 3 v.2.2.2.2.1) 4 v.2.2.2.2.2.1) 5 v.2.2.2.2.2.2.1) 6 v.2.2.2.2.2.2.2)) CL) rfl rfl (As := [.int (xs (x3 + 1).toNatClampNeg), .int (xs (x3 + 2).toNatClampNeg)]) (rest := []) rfl hl.1 rfl rfl dL_law_566 (fun H locs hP hD hS => ?_)
  have hP := P_perm (List.perm_append_comm_assoc _ _ _) hP
  have hD := D_perm (List.perm_append_comm_assoc _ _ _) hD
  refine lv_aload_n hx hb dL_law_569 rfl (lv_at hl 2 rfl) ?_
  refine lv_aload_n hx hb dL_law_570 rfl (lv_at hl 0 rfl) ?_
  refine lv_iload_n hx hb dL_law_571 rfl (lv_at hl 3 rfl) ?_
  refine lv_iconst (v := (1 : Int32)) hx hb dL_law_572 (by decide) ?_
  refine lv_iadd hx hb dL_law_573 ?_
  refine va_sld hx hb hX hbl hbA hS h1 dL_law_574 ?_
  refine lv_aload_n hx hb dL_law_575 rfl (lv_at hl 0 rfl) ?_
  refine lv_iload_n hx hb dL_law_576 rfl (lv_at hl 3 rfl) ?_
  refine lv_iconst (v := (2 : Int32)) hx hb dL_law_577 (by decide) ?_
  refine lv_iadd hx hb dL_law_578 ?_
  refine va_sld hx hb hX hbl hbA hS h2 dL_law_579 ?_
  refine kLi (X := fC g q u RQ (va_up C 5 (va_up (va_up (va_up (va_up (va_up (va_up (va_up (C 5) 0 (fun _ => v.2.1)) 1 (fun _ => v.2.2.1)) 2 v.2.2.2.1) 3 v.2.2.2.2.1) 4 v.2.2.2.2.2.1) 5 v.2.2.2.2.2.2.1) 6 v.2.2.2.2.2.2.2)) CL ++ pF g 20 RQ RF) (ws := wX10 g qm Qm M ML) ⟨hx, hb, hml, hown, hts⟩ (c_X10_hears l g qm Qm N M (xs (x3 + 1).toNatClampNeg) (xs (x3 + 2).toNatClampNeg) w hw H.size) (gV u_ml_L_80 u_im_X10_hears u_se_X10_hears u_ini_X10 u_co_X10_hears) hd_X10_hears ⟨rfl, rfl⟩ hcs hK hP hD hS hA 0 10 rfl rfl [0, 4, 5, 6, 7] [0, 6, 7, 8, 1, 2, 3, 4, 13, 14, 15, 16, 17, 18, 19, 20, 21, 22, 23, 24] rfl rfl 5 rfl (w2 := wX10 g qm Qm (va_up M 21 w.2) ML) rfl rfl (As := [.int (xs (x3 + 1).toNatClampNeg), .int (xs (x3 + 2).toNatClampNeg)]) (rest := [.int v.1]) rfl hl.1 rfl rfl dL_law_580 (fun H locs hP hD hS => ?_)
  have hP := P_perm (List.perm_append_comm_assoc _ _ _) hP
  have hD := D_perm (List.perm_append_comm_assoc _ _ _) hD
  refine lv_icmp_eq (tgt := 1082) hx hb dL_law_583 (by decide) (fun _ => ?_) (fun c9 => absurd heq c9)
  exact kn H locs ls hP hD hS hl
set_option maxHeartbeats 8000000 in
set_option maxRecDepth 100000 in
theorem L_soonest {p : Program} {l : Launch} {e : Env} {s : State} {m : MethodId} {below : List Frame} {meth : Method} {c : Code} {g : gG} {A : Nat → Prop} {Q : State → Prop} {cells slots b L : Nat} {xs : Nat → Int32} (E : EL p s m meth c b L xs g A) (hcs : cells ≤ 600000 ∧ slots ≤ 7302250) (N q qm : Nat) (x3 : Int32) (u RQ : Nat → Ad) (C : Nat → St) (CL : Nat → SL) (RF : Nat → St) (Qm : Ad) (M : St) (ML : SL) (h1 : vp_in (x3 + 1) L) (h2 : vp_in (x3 + 2) L) (v : Int32 × Int32 × Int32 × (Nat → Int32) × (Nat → Int32) × (Nat → Int32) × (Nat → Int32) × (Nat → Int32)) (w : Int32 × (Nat → Int32)) (hv : x_X9_soonest N (C 0) (C 4) (C 2) (C 5) (xs (x3 + 1).toNatClampNeg) (xs (x3 + 2).toNatClampNeg) = some v) (hw : x_X10_soonest N M (xs (x3 + 1).toNatClampNeg) (xs (x3 + 2).toNatClampNeg) = some w) (heq : v.1 = w.1) (kn : WL p l e s m below meth c g A Q cells slots 1082 b q qm x3 u RQ (va_up C 5 (va_up (va_up (va_up (va_up (va_up (va_up (va_up (C 5) 0 (fun _ => v.2.1)) 1 (fun _ => v.2.2.1)) 2 v.2.2.2.1) 3 v.2.2.2.2.1) 4 v.2.2.2.2.2.1) 5 v.2.2.2.2.2.2.1) 6 v.2.2.2.2.2.2.2)) CL RF Qm (va_up M 21 w.2) ML) : WL p l e s m below meth c g A Q cells slots 588 b q qm x3 u RQ C CL RF Qm M ML := by
  obtain ⟨⟨hx, hb, hml, hown, hts⟩, hr, hK, hA, hlk, hX, hbl, hbA, hL⟩ := id E
  intro H locs ls hP hD hS hl
  refine lv_aload_n hx hb dL_law_588 rfl (lv_at hl 1 rfl) ?_
  refine lv_aload_n hx hb dL_law_589 rfl (lv_at hl 0 rfl) ?_
  refine lv_iload_n hx hb dL_law_590 rfl (lv_at hl 3 rfl) ?_
  refine lv_iconst (v := (1 : Int32)) hx hb dL_law_591 (by decide) ?_
  refine lv_iadd hx hb dL_law_592 ?_
  refine va_sld hx hb hX hbl hbA hS h1 dL_law_593 ?_
  refine lv_aload_n hx hb dL_law_594 rfl (lv_at hl 0 rfl) ?_
  refine lv_iload_n hx hb dL_law_595 rfl (lv_at hl 3 rfl) ?_
  refine lv_iconst (v := (2 : Int32)) hx hb dL_law_596 (by decide) ?_
  refine lv_iadd hx hb dL_law_597 ?_
  refine va_sld hx hb hX hbl hbA hS h2 dL_law_598 ?_
  refine kLi (X := wX10 g qm Qm M ML ++ pF g 20 RQ RF) (ws := fC g q u RQ C CL) ⟨hx, hb, hml, hown, hts⟩ (c_X9_soonest l g q (u 0) (u 4) (u 2) (u 5) N (C 0) (C 4) (C 2) (C 5) (xs (x3 + 1).toNatClampNeg) (xs (x3 + 2).toNatClampNeg) v hv H.size) (gV u_ml_L_81 u_im_X9_soonest u_se_X9_soonest u_ini_X9 u_co_X9_soonest) hd_X9_soonest ⟨rfl, rfl⟩ hcs hK hP hD hS hA 0 9 rfl rfl [0, 17, 18, 19, 20, 21, 22, 3, 4, 6, 7, 8, 23, 24, 25, 26, 27, 28] [0, 19, 20, 7, 8, 23, 9, 10, 11, 27, 28, 29, 30, 31, 32, 33, 34, 1, 2, 3, 4, 5, 6, 12, 13, 14, 15, 16, 17, 47, 48, 49, 50, 51, 52, 53, 54, 55, 56, 57, 58, 59, 60, 61, 62, 63, 64, 65, 66, 67, 68, 69, 70, 71, 72, 73, 74, 75, 76, 77, 78, 79, 80, 81] rfl rfl 18 rfl (w2 := fC g q u RQ (va_up C 5 (va_up (va_up (va_up (va_up (va_up (va_up (va_up (C 5) 0 (fun _ => v.2.1)) 1 (fun _ => v.2.2.1)) 2 v.2.2.2.1) 3 v.2.2.2.2.1) 4 v.2.2.2.2.2.1) 5 v.2.2.2.2.2.2.1) 6 v.2.2.2.2.2.2.2)) CL) rfl rfl (As := [.int (xs (x3 + 1).toNatClampNeg), .int (xs (x3 + 2).toNatClampNeg)]) (rest := []) rfl hl.1 rfl rfl dL_law_599 (fun H locs hP hD hS => ?_)
  have hP := P_perm (List.perm_append_comm_assoc _ _ _) hP
  have hD := D_perm (List.perm_append_comm_assoc _ _ _) hD
  refine lv_aload_n hx hb dL_law_602 rfl (lv_at hl 2 rfl) ?_
  refine lv_aload_n hx hb dL_law_603 rfl (lv_at hl 0 rfl) ?_
  refine lv_iload_n hx hb dL_law_604 rfl (lv_at hl 3 rfl) ?_
  refine lv_iconst (v := (1 : Int32)) hx hb dL_law_605 (by decide) ?_
  refine lv_iadd hx hb dL_law_606 ?_
  refine va_sld hx hb hX hbl hbA hS h1 dL_law_607 ?_
  refine lv_aload_n hx hb dL_law_608 rfl (lv_at hl 0 rfl) ?_
  refine lv_iload_n hx hb dL_law_609 rfl (lv_at hl 3 rfl) ?_
  refine lv_iconst (v := (2 : Int32)) hx hb dL_law_610 (by decide) ?_
  refine lv_iadd hx hb dL_law_611 ?_
  refine va_sld hx hb hX hbl hbA hS h2 dL_law_612 ?_
  refine kLi (X := fC g q u RQ (va_up C 5 (va_up (va_up (va_up (va_up (va_up (va_up (va_up (C 5) 0 (fun _ => v.2.1)) 1 (fun _ => v.2.2.1)) 2 v.2.2.2.1) 3 v.2.2.2.2.1) 4 v.2.2.2.2.2.1) 5 v.2.2.2.2.2.2.1) 6 v.2.2.2.2.2.2.2)) CL ++ pF g 20 RQ RF) (ws := wX10 g qm Qm M ML) ⟨hx, hb, hml, hown, hts⟩ (c_X10_soonest l g qm Qm N M (xs (x3 + 1).toNatClampNeg) (xs (x3 + 2).toNatClampNeg) w hw H.size) (gV u_ml_L_84 u_im_X10_soonest u_se_X10_soonest u_ini_X10 u_co_X10_soonest) hd_X10_soonest ⟨rfl, rfl⟩ hcs hK hP hD hS hA 0 10 rfl rfl [0, 4, 5, 6, 7] [0, 6, 7, 8, 1, 2, 3, 4, 13, 14, 15, 16, 17, 18, 19, 20, 21, 22, 23, 24] rfl rfl 5 rfl (w2 := wX10 g qm Qm (va_up M 21 w.2) ML) rfl rfl (As := [.int (xs (x3 + 1).toNatClampNeg), .int (xs (x3 + 2).toNatClampNeg)]) (rest := [.int v.1]) rfl hl.1 rfl rfl dL_law_613 (fun H locs hP hD hS => ?_)
  have hP := P_perm (List.perm_append_comm_assoc _ _ _) hP
  have hD := D_perm (List.perm_append_comm_assoc _ _ _) hD
  refine lv_icmp_eq (tgt := 1082) hx hb dL_law_616 (by decide) (fun _ => ?_) (fun c9 => absurd heq c9)
  exact kn H locs ls hP hD hS hl
set_option maxHeartbeats 8000000 in
set_option maxRecDepth 100000 in
theorem L_gates {p : Program} {l : Launch} {e : Env} {s : State} {m : MethodId} {below : List Frame} {meth : Method} {c : Code} {g : gG} {A : Nat → Prop} {Q : State → Prop} {cells slots b L : Nat} {xs : Nat → Int32} (E : EL p s m meth c b L xs g A) (hcs : cells ≤ 600000 ∧ slots ≤ 7302250) (N q qm : Nat) (x3 : Int32) (u RQ : Nat → Ad) (C : Nat → St) (CL : Nat → SL) (RF : Nat → St) (Qm : Ad) (M : St) (ML : SL) (h1 : vp_in (x3 + 1) L) (h2 : vp_in (x3 + 2) L) (h3 : vp_in (x3 + 3) L) (v : Int32 × (Nat → Int64) × (Nat → Int64)) (w : Int32 × (Nat → Int32) × (Nat → Int32)) (hv : x_X9_gates N (C 0) (C 4) (C 2) (CL 9) (xs (x3 + 1).toNatClampNeg) (xs (x3 + 2).toNatClampNeg) (xs (x3 + 3).toNatClampNeg) = some v) (hw : x_X10_gates N M (xs (x3 + 1).toNatClampNeg) (xs (x3 + 2).toNatClampNeg) (xs (x3 + 3).toNatClampNeg) = some w) (heq : v.1 = w.1) (kn : WL p l e s m below meth c g A Q cells slots 1082 b q qm x3 u RQ C (va_up CL 9 (va_up (va_up (CL 9) 0 v.2.1) 1 v.2.2)) RF Qm (va_up (va_up M 32 w.2.1) 33 w.2.2) ML) : WL p l e s m below meth c g A Q cells slots 621 b q qm x3 u RQ C CL RF Qm M ML := by
  obtain ⟨⟨hx, hb, hml, hown, hts⟩, hr, hK, hA, hlk, hX, hbl, hbA, hL⟩ := id E
  intro H locs ls hP hD hS hl
  refine lv_aload_n hx hb dL_law_621 rfl (lv_at hl 1 rfl) ?_
  refine lv_aload_n hx hb dL_law_622 rfl (lv_at hl 0 rfl) ?_
  refine lv_iload_n hx hb dL_law_623 rfl (lv_at hl 3 rfl) ?_
  refine lv_iconst (v := (1 : Int32)) hx hb dL_law_624 (by decide) ?_
  refine lv_iadd hx hb dL_law_625 ?_
  refine va_sld hx hb hX hbl hbA hS h1 dL_law_626 ?_
  refine lv_aload_n hx hb dL_law_627 rfl (lv_at hl 0 rfl) ?_
  refine lv_iload_n hx hb dL_law_628 rfl (lv_at hl 3 rfl) ?_
  refine lv_iconst (v := (2 : Int32)) hx hb dL_law_629 (by decide) ?_
  refine lv_iadd hx hb dL_law_630 ?_
  refine va_sld hx hb hX hbl hbA hS h2 dL_law_631 ?_
  refine lv_aload_n hx hb dL_law_632 rfl (lv_at hl 0 rfl) ?_
  refine lv_iload_n hx hb dL_law_633 rfl (lv_at hl 3 rfl) ?_
  refine lv_iconst (v := (3 : Int32)) hx hb dL_law_634 (by decide) ?_
  refine lv_iadd hx hb dL_law_635 ?_
  refine va_sld hx hb hX hbl hbA hS h3 dL_law_636 ?_
  refine kLi (X := wX10 g qm Qm M ML ++ pF g 20 RQ RF) (ws := fC g q u RQ C CL) ⟨hx, hb, hml, hown, hts⟩ (c_X9_gates l g q (u 0) (u 4) (u 2) (u 8) (u 9) N (C 0) (C 4) (C 2) (CL 9) (xs (x3 + 1).toNatClampNeg) (xs (x3 + 2).toNatClampNeg) (xs (x3 + 3).toNatClampNeg) v hv H.size) (gV u_ml_L_85 u_im_X9_gates u_se_X9_gates u_ini_X9 u_co_X9_gates) hd_X9_gates ⟨rfl, rfl⟩ hcs hK hP hD hS hA 0 9 rfl rfl [0, 17, 19, 3, 4, 6, 7, 8, 9, 38, 39, 40, 41] [0, 14, 15, 3, 4, 18, 5, 6, 7, 8, 23, 24, 25, 26, 27, 28, 29, 1, 31, 2, 33, 34, 35, 36, 37, 38, 39, 40, 41, 42, 43, 44, 45, 46, 47, 48, 49, 50, 9, 10, 11, 12, 55, 56, 57, 58, 59, 60, 61, 62, 63, 64, 65, 66, 67, 68, 69, 70, 71, 72, 73, 74, 75, 76] rfl rfl 13 rfl (w2 := fC g q u RQ C (va_up CL 9 (va_up (va_up (CL 9) 0 v.2.1) 1 v.2.2))) rfl rfl (As := [.int (xs (x3 + 1).toNatClampNeg), .int (xs (x3 + 2).toNatClampNeg), .int (xs (x3 + 3).toNatClampNeg)]) (rest := []) rfl hl.1 rfl rfl dL_law_637 (fun H locs hP hD hS => ?_)
  have hP := P_perm (List.perm_append_comm_assoc _ _ _) hP
  have hD := D_perm (List.perm_append_comm_assoc _ _ _) hD
  refine lv_aload_n hx hb dL_law_640 rfl (lv_at hl 2 rfl) ?_
  refine lv_aload_n hx hb dL_law_641 rfl (lv_at hl 0 rfl) ?_
  refine lv_iload_n hx hb dL_law_642 rfl (lv_at hl 3 rfl) ?_
  refine lv_iconst (v := (1 : Int32)) hx hb dL_law_643 (by decide) ?_
  refine lv_iadd hx hb dL_law_644 ?_
  refine va_sld hx hb hX hbl hbA hS h1 dL_law_645 ?_
  refine lv_aload_n hx hb dL_law_646 rfl (lv_at hl 0 rfl) ?_
  refine lv_iload_n hx hb dL_law_647 rfl (lv_at hl 3 rfl) ?_
  refine lv_iconst (v := (2 : Int32)) hx hb dL_law_648 (by decide) ?_
  refine lv_iadd hx hb dL_law_649 ?_
  refine va_sld hx hb hX hbl hbA hS h2 dL_law_650 ?_
  refine lv_aload_n hx hb dL_law_651 rfl (lv_at hl 0 rfl) ?_
  refine lv_iload_n hx hb dL_law_652 rfl (lv_at hl 3 rfl) ?_
  refine lv_iconst (v := (3 : Int32)) hx hb dL_law_653 (by decide) ?_
  refine lv_iadd hx hb dL_law_654 ?_
  refine va_sld hx hb hX hbl hbA hS h3 dL_law_655 ?_
  refine kLi (X := fC g q u RQ C (va_up CL 9 (va_up (va_up (CL 9) 0 v.2.1) 1 v.2.2)) ++ pF g 20 RQ RF) (ws := wX10 g qm Qm M ML) ⟨hx, hb, hml, hown, hts⟩ (c_X10_gates l g qm Qm N M (xs (x3 + 1).toNatClampNeg) (xs (x3 + 2).toNatClampNeg) (xs (x3 + 3).toNatClampNeg) w hw H.size) (gV u_ml_L_89 u_im_X10_gates u_se_X10_gates u_ini_X10 u_co_X10_gates) hd_X10_gates ⟨rfl, rfl⟩ hcs hK hP hD hS hA 0 10 rfl rfl [0, 4, 5, 6, 14, 15] [0, 7, 8, 9, 1, 2, 3, 13, 14, 15, 16, 17, 18, 19, 4, 5, 22, 23, 24, 25] rfl rfl 6 rfl (w2 := wX10 g qm Qm (va_up (va_up M 32 w.2.1) 33 w.2.2) ML) rfl rfl (As := [.int (xs (x3 + 1).toNatClampNeg), .int (xs (x3 + 2).toNatClampNeg), .int (xs (x3 + 3).toNatClampNeg)]) (rest := [.int v.1]) rfl hl.1 rfl rfl dL_law_656 (fun H locs hP hD hS => ?_)
  have hP := P_perm (List.perm_append_comm_assoc _ _ _) hP
  have hD := D_perm (List.perm_append_comm_assoc _ _ _) hD
  refine lv_icmp_eq (tgt := 1082) hx hb dL_law_659 (by decide) (fun _ => ?_) (fun c9 => absurd heq c9)
  exact kn H locs ls hP hD hS hl
set_option maxHeartbeats 8000000 in
set_option maxRecDepth 100000 in
theorem L_cut {p : Program} {l : Launch} {e : Env} {s : State} {m : MethodId} {below : List Frame} {meth : Method} {c : Code} {g : gG} {A : Nat → Prop} {Q : State → Prop} {cells slots b L : Nat} {xs : Nat → Int32} (E : EL p s m meth c b L xs g A) (hcs : cells ≤ 600000 ∧ slots ≤ 7302250) (N q qm : Nat) (x3 : Int32) (u RQ : Nat → Ad) (C : Nat → St) (CL : Nat → SL) (RF : Nat → St) (Qm : Ad) (M : St) (ML : SL) (h1 : vp_in (x3 + 1) L) (h2 : vp_in (x3 + 2) L) (h3 : vp_in (x3 + 3) L) (v : Int32 × (Nat → Int64) × (Nat → Int64)) (w : Int32 × (Nat → Int32) × (Nat → Int32)) (hv : x_X9_cut N (C 0) (C 4) (C 2) (CL 9) (xs (x3 + 1).toNatClampNeg) (xs (x3 + 2).toNatClampNeg) (xs (x3 + 3).toNatClampNeg) = some v) (hw : x_X10_cut N M (xs (x3 + 1).toNatClampNeg) (xs (x3 + 2).toNatClampNeg) (xs (x3 + 3).toNatClampNeg) = some w) (heq : v.1 = w.1) (kn : WL p l e s m below meth c g A Q cells slots 1082 b q qm x3 u RQ C (va_up CL 9 (va_up (va_up (CL 9) 0 v.2.1) 1 v.2.2)) RF Qm (va_up (va_up M 32 w.2.1) 33 w.2.2) ML) : WL p l e s m below meth c g A Q cells slots 664 b q qm x3 u RQ C CL RF Qm M ML := by
  obtain ⟨⟨hx, hb, hml, hown, hts⟩, hr, hK, hA, hlk, hX, hbl, hbA, hL⟩ := id E
  intro H locs ls hP hD hS hl
  refine lv_aload_n hx hb dL_law_664 rfl (lv_at hl 1 rfl) ?_
  refine lv_aload_n hx hb dL_law_665 rfl (lv_at hl 0 rfl) ?_
  refine lv_iload_n hx hb dL_law_666 rfl (lv_at hl 3 rfl) ?_
  refine lv_iconst (v := (1 : Int32)) hx hb dL_law_667 (by decide) ?_
  refine lv_iadd hx hb dL_law_668 ?_
  refine va_sld hx hb hX hbl hbA hS h1 dL_law_669 ?_
  refine lv_aload_n hx hb dL_law_670 rfl (lv_at hl 0 rfl) ?_
  refine lv_iload_n hx hb dL_law_671 rfl (lv_at hl 3 rfl) ?_
  refine lv_iconst (v := (2 : Int32)) hx hb dL_law_672 (by decide) ?_
  refine lv_iadd hx hb dL_law_673 ?_
  refine va_sld hx hb hX hbl hbA hS h2 dL_law_674 ?_
  refine lv_aload_n hx hb dL_law_675 rfl (lv_at hl 0 rfl) ?_
  refine lv_iload_n hx hb dL_law_676 rfl (lv_at hl 3 rfl) ?_
  refine lv_iconst (v := (3 : Int32)) hx hb dL_law_677 (by decide) ?_
  refine lv_iadd hx hb dL_law_678 ?_
  refine va_sld hx hb hX hbl hbA hS h3 dL_law_679 ?_
  refine kLi (X := wX10 g qm Qm M ML ++ pF g 20 RQ RF) (ws := fC g q u RQ C CL) ⟨hx, hb, hml, hown, hts⟩ (c_X9_cut l g q (u 0) (u 4) (u 2) (u 8) (u 9) N (C 0) (C 4) (C 2) (CL 9) (xs (x3 + 1).toNatClampNeg) (xs (x3 + 2).toNatClampNeg) (xs (x3 + 3).toNatClampNeg) v hv H.size) (gV u_ml_L_90 u_im_X9_cut u_se_X9_cut u_ini_X9 u_co_X9_cut) hd_X9_cut ⟨rfl, rfl⟩ hcs hK hP hD hS hA 0 9 rfl rfl [0, 17, 19, 3, 4, 6, 7, 8, 9, 38, 39, 40, 41] [0, 14, 15, 3, 4, 18, 5, 6, 7, 8, 23, 24, 25, 26, 27, 28, 29, 1, 31, 2, 33, 34, 35, 36, 37, 38, 39, 40, 41, 42, 43, 44, 45, 46, 47, 48, 49, 50, 9, 10, 11, 12, 55, 56, 57, 58, 59, 60, 61, 62, 63, 64, 65, 66, 67, 68, 69, 70, 71, 72, 73, 74, 75, 76] rfl rfl 13 rfl (w2 := fC g q u RQ C (va_up CL 9 (va_up (va_up (CL 9) 0 v.2.1) 1 v.2.2))) rfl rfl (As := [.int (xs (x3 + 1).toNatClampNeg), .int (xs (x3 + 2).toNatClampNeg), .int (xs (x3 + 3).toNatClampNeg)]) (rest := []) rfl hl.1 rfl rfl dL_law_680 (fun H locs hP hD hS => ?_)
  have hP := P_perm (List.perm_append_comm_assoc _ _ _) hP
  have hD := D_perm (List.perm_append_comm_assoc _ _ _) hD
  refine lv_aload_n hx hb dL_law_683 rfl (lv_at hl 2 rfl) ?_
  refine lv_aload_n hx hb dL_law_684 rfl (lv_at hl 0 rfl) ?_
  refine lv_iload_n hx hb dL_law_685 rfl (lv_at hl 3 rfl) ?_
  refine lv_iconst (v := (1 : Int32)) hx hb dL_law_686 (by decide) ?_
  refine lv_iadd hx hb dL_law_687 ?_
  refine va_sld hx hb hX hbl hbA hS h1 dL_law_688 ?_
  refine lv_aload_n hx hb dL_law_689 rfl (lv_at hl 0 rfl) ?_
  refine lv_iload_n hx hb dL_law_690 rfl (lv_at hl 3 rfl) ?_
  refine lv_iconst (v := (2 : Int32)) hx hb dL_law_691 (by decide) ?_
  refine lv_iadd hx hb dL_law_692 ?_
  refine va_sld hx hb hX hbl hbA hS h2 dL_law_693 ?_
  refine lv_aload_n hx hb dL_law_694 rfl (lv_at hl 0 rfl) ?_
  refine lv_iload_n hx hb dL_law_695 rfl (lv_at hl 3 rfl) ?_
  refine lv_iconst (v := (3 : Int32)) hx hb dL_law_696 (by decide) ?_
  refine lv_iadd hx hb dL_law_697 ?_
  refine va_sld hx hb hX hbl hbA hS h3 dL_law_698 ?_
  refine kLi (X := fC g q u RQ C (va_up CL 9 (va_up (va_up (CL 9) 0 v.2.1) 1 v.2.2)) ++ pF g 20 RQ RF) (ws := wX10 g qm Qm M ML) ⟨hx, hb, hml, hown, hts⟩ (c_X10_cut l g qm Qm N M (xs (x3 + 1).toNatClampNeg) (xs (x3 + 2).toNatClampNeg) (xs (x3 + 3).toNatClampNeg) w hw H.size) (gV u_ml_L_93 u_im_X10_cut u_se_X10_cut u_ini_X10 u_co_X10_cut) hd_X10_cut ⟨rfl, rfl⟩ hcs hK hP hD hS hA 0 10 rfl rfl [0, 4, 5, 6, 14, 15] [0, 7, 8, 9, 1, 2, 3, 13, 14, 15, 16, 17, 18, 19, 4, 5, 22, 23, 24, 25] rfl rfl 6 rfl (w2 := wX10 g qm Qm (va_up (va_up M 32 w.2.1) 33 w.2.2) ML) rfl rfl (As := [.int (xs (x3 + 1).toNatClampNeg), .int (xs (x3 + 2).toNatClampNeg), .int (xs (x3 + 3).toNatClampNeg)]) (rest := [.int v.1]) rfl hl.1 rfl rfl dL_law_699 (fun H locs hP hD hS => ?_)
  have hP := P_perm (List.perm_append_comm_assoc _ _ _) hP
  have hD := D_perm (List.perm_append_comm_assoc _ _ _) hD
  refine lv_icmp_eq (tgt := 1082) hx hb dL_law_702 (by decide) (fun _ => ?_) (fun c9 => absurd heq c9)
  exact kn H locs ls hP hD hS hl
set_option maxHeartbeats 8000000 in
set_option maxRecDepth 100000 in
theorem L_meet {p : Program} {l : Launch} {e : Env} {s : State} {m : MethodId} {below : List Frame} {meth : Method} {c : Code} {g : gG} {A : Nat → Prop} {Q : State → Prop} {cells slots b L : Nat} {xs : Nat → Int32} (E : EL p s m meth c b L xs g A) (hcs : cells ≤ 600000 ∧ slots ≤ 7302250) (N q qm : Nat) (x3 : Int32) (u RQ : Nat → Ad) (C : Nat → St) (CL : Nat → SL) (RF : Nat → St) (Qm : Ad) (M : St) (ML : SL) (h1 : vp_in (x3 + 1) L) (h2 : vp_in (x3 + 2) L) (h3 : vp_in (x3 + 3) L) (v : Int32 × (Nat → Int64) × (Nat → Int64) × (Nat → Int64) × (Nat → Int64)) (w : Int32 × (Nat → Int64) × (Nat → Int64)) (hv : x_X9_meet N (C 0) (C 4) (C 2) (CL 9) (CL 10) (xs (x3 + 1).toNatClampNeg) (xs (x3 + 2).toNatClampNeg) (xs (x3 + 3).toNatClampNeg) = some v) (hw : x_X10_meet N M ML (xs (x3 + 1).toNatClampNeg) (xs (x3 + 2).toNatClampNeg) (xs (x3 + 3).toNatClampNeg) = some w) (heq : v.1 = w.1) (kn : WL p l e s m below meth c g A Q cells slots 1082 b q qm x3 u RQ C (va_up (va_up CL 10 (va_up (va_up (CL 10) 0 v.2.2.2.1) 1 v.2.2.2.2)) 9 (va_up (va_up (CL 9) 0 v.2.1) 1 v.2.2.1)) RF Qm M (va_up (va_up ML 34 w.2.1) 35 w.2.2)) : WL p l e s m below meth c g A Q cells slots 707 b q qm x3 u RQ C CL RF Qm M ML := by
  obtain ⟨⟨hx, hb, hml, hown, hts⟩, hr, hK, hA, hlk, hX, hbl, hbA, hL⟩ := id E
  intro H locs ls hP hD hS hl
  refine lv_aload_n hx hb dL_law_707 rfl (lv_at hl 1 rfl) ?_
  refine lv_aload_n hx hb dL_law_708 rfl (lv_at hl 0 rfl) ?_
  refine lv_iload_n hx hb dL_law_709 rfl (lv_at hl 3 rfl) ?_
  refine lv_iconst (v := (1 : Int32)) hx hb dL_law_710 (by decide) ?_
  refine lv_iadd hx hb dL_law_711 ?_
  refine va_sld hx hb hX hbl hbA hS h1 dL_law_712 ?_
  refine lv_aload_n hx hb dL_law_713 rfl (lv_at hl 0 rfl) ?_
  refine lv_iload_n hx hb dL_law_714 rfl (lv_at hl 3 rfl) ?_
  refine lv_iconst (v := (2 : Int32)) hx hb dL_law_715 (by decide) ?_
  refine lv_iadd hx hb dL_law_716 ?_
  refine va_sld hx hb hX hbl hbA hS h2 dL_law_717 ?_
  refine lv_aload_n hx hb dL_law_718 rfl (lv_at hl 0 rfl) ?_
  refine lv_iload_n hx hb dL_law_719 rfl (lv_at hl 3 rfl) ?_
  refine lv_iconst (v := (3 : Int32)) hx hb dL_law_720 (by decide) ?_
  refine lv_iadd hx hb dL_law_721 ?_
  refine va_sld hx hb hX hbl hbA hS h3 dL_law_722 ?_
  refine kLi (X := wX10 g qm Qm M ML ++ pF g 20 RQ RF) (ws := fC g q u RQ C CL) ⟨hx, hb, hml, hown, hts⟩ (c_X9_meet l g q (u 0) (u 4) (u 2) (u 8) (u 9) (u 10) N (C 0) (C 4) (C 2) (CL 9) (CL 10) (xs (x3 + 1).toNatClampNeg) (xs (x3 + 2).toNatClampNeg) (xs (x3 + 3).toNatClampNeg) v hv H.size) (gV u_ml_L_94 u_im_X9_meet u_se_X9_meet u_ini_X9 u_co_X9_meet) hd_X9_meet ⟨rfl, rfl⟩ hcs hK hP hD hS hA 0 9 rfl rfl [0, 17, 19, 3, 4, 6, 7, 8, 9, 38, 39, 40, 41, 42, 43, 44] [0, 17, 18, 3, 4, 21, 5, 6, 7, 8, 26, 27, 28, 29, 30, 31, 32, 1, 34, 2, 36, 37, 38, 39, 40, 41, 42, 43, 44, 45, 46, 47, 48, 49, 50, 51, 52, 53, 9, 10, 11, 12, 13, 14, 15, 61, 62, 63, 64, 65, 66, 67, 68, 69, 70, 71, 72, 73, 74, 75, 76, 77, 78, 79] rfl rfl 16 rfl (w2 := fC g q u RQ C (va_up (va_up CL 10 (va_up (va_up (CL 10) 0 v.2.2.2.1) 1 v.2.2.2.2)) 9 (va_up (va_up (CL 9) 0 v.2.1) 1 v.2.2.1))) rfl rfl (As := [.int (xs (x3 + 1).toNatClampNeg), .int (xs (x3 + 2).toNatClampNeg), .int (xs (x3 + 3).toNatClampNeg)]) (rest := []) rfl hl.1 rfl rfl dL_law_723 (fun H locs hP hD hS => ?_)
  have hP := P_perm (List.perm_append_comm_assoc _ _ _) hP
  have hD := D_perm (List.perm_append_comm_assoc _ _ _) hD
  refine lv_aload_n hx hb dL_law_726 rfl (lv_at hl 2 rfl) ?_
  refine lv_aload_n hx hb dL_law_727 rfl (lv_at hl 0 rfl) ?_
  refine lv_iload_n hx hb dL_law_728 rfl (lv_at hl 3 rfl) ?_
  refine lv_iconst (v := (1 : Int32)) hx hb dL_law_729 (by decide) ?_
  refine lv_iadd hx hb dL_law_730 ?_
  refine va_sld hx hb hX hbl hbA hS h1 dL_law_731 ?_
  refine lv_aload_n hx hb dL_law_732 rfl (lv_at hl 0 rfl) ?_
  refine lv_iload_n hx hb dL_law_733 rfl (lv_at hl 3 rfl) ?_
  refine lv_iconst (v := (2 : Int32)) hx hb dL_law_734 (by decide) ?_
  refine lv_iadd hx hb dL_law_735 ?_
  refine va_sld hx hb hX hbl hbA hS h2 dL_law_736 ?_
  refine lv_aload_n hx hb dL_law_737 rfl (lv_at hl 0 rfl) ?_
  refine lv_iload_n hx hb dL_law_738 rfl (lv_at hl 3 rfl) ?_
  refine lv_iconst (v := (3 : Int32)) hx hb dL_law_739 (by decide) ?_
  refine lv_iadd hx hb dL_law_740 ?_
  refine va_sld hx hb hX hbl hbA hS h3 dL_law_741 ?_
  refine kLi (X := fC g q u RQ C (va_up (va_up CL 10 (va_up (va_up (CL 10) 0 v.2.2.2.1) 1 v.2.2.2.2)) 9 (va_up (va_up (CL 9) 0 v.2.1) 1 v.2.2.1)) ++ pF g 20 RQ RF) (ws := wX10 g qm Qm M ML) ⟨hx, hb, hml, hown, hts⟩ (c_X10_meet l g qm Qm N M ML (xs (x3 + 1).toNatClampNeg) (xs (x3 + 2).toNatClampNeg) (xs (x3 + 3).toNatClampNeg) w hw H.size) (gV u_ml_L_97 u_im_X10_meet u_se_X10_meet u_ini_X10 u_co_X10_meet) hd_X10_meet ⟨rfl, rfl⟩ hcs hK hP hD hS hA 0 10 rfl rfl [0, 4, 5, 6, 16, 17] [0, 7, 8, 9, 1, 2, 3, 13, 14, 15, 16, 17, 18, 19, 20, 21, 4, 5, 24, 25] rfl rfl 6 rfl (w2 := wX10 g qm Qm M (va_up (va_up ML 34 w.2.1) 35 w.2.2)) rfl rfl (As := [.int (xs (x3 + 1).toNatClampNeg), .int (xs (x3 + 2).toNatClampNeg), .int (xs (x3 + 3).toNatClampNeg)]) (rest := [.int v.1]) rfl hl.1 rfl rfl dL_law_742 (fun H locs hP hD hS => ?_)
  have hP := P_perm (List.perm_append_comm_assoc _ _ _) hP
  have hD := D_perm (List.perm_append_comm_assoc _ _ _) hD
  refine lv_icmp_eq (tgt := 1082) hx hb dL_law_745 (by decide) (fun _ => ?_) (fun c9 => absurd heq c9)
  exact kn H locs ls hP hD hS hl
set_option maxHeartbeats 8000000 in
set_option maxRecDepth 100000 in
theorem L_longest {p : Program} {l : Launch} {e : Env} {s : State} {m : MethodId} {below : List Frame} {meth : Method} {c : Code} {g : gG} {A : Nat → Prop} {Q : State → Prop} {cells slots b L : Nat} {xs : Nat → Int32} (E : EL p s m meth c b L xs g A) (hcs : cells ≤ 600000 ∧ slots ≤ 7302250) (N q qm : Nat) (x3 : Int32) (u RQ : Nat → Ad) (C : Nat → St) (CL : Nat → SL) (RF : Nat → St) (Qm : Ad) (M : St) (ML : SL) (h1 : vp_in (x3 + 1) L) (v : Int32 × (Nat → Int32) × (Nat → Int32)) (w : Int32 × (Nat → Int32) × (Nat → Int32) × (Nat → Int32)) (hv : x_X9_longest N (C 0) (C 4) (C 2) (C 11) (xs (x3 + 1).toNatClampNeg) = some v) (hw : x_X10_longest N M (xs (x3 + 1).toNatClampNeg) = some w) (heq : v.1 = w.1) (kn : WL p l e s m below meth c g A Q cells slots 1082 b q qm x3 u RQ (va_up C 11 (va_up (va_up (C 11) 0 v.2.1) 1 v.2.2)) CL RF Qm (va_up (va_up (va_up M 32 w.2.1) 33 w.2.2.1) 37 w.2.2.2) ML) : WL p l e s m below meth c g A Q cells slots 750 b q qm x3 u RQ C CL RF Qm M ML := by
  obtain ⟨⟨hx, hb, hml, hown, hts⟩, hr, hK, hA, hlk, hX, hbl, hbA, hL⟩ := id E
  intro H locs ls hP hD hS hl
  refine lv_aload_n hx hb dL_law_750 rfl (lv_at hl 1 rfl) ?_
  refine lv_aload_n hx hb dL_law_751 rfl (lv_at hl 0 rfl) ?_
  refine lv_iload_n hx hb dL_law_752 rfl (lv_at hl 3 rfl) ?_
  refine lv_iconst (v := (1 : Int32)) hx hb dL_law_753 (by decide) ?_
  refine lv_iadd hx hb dL_law_754 ?_
  refine va_sld hx hb hX hbl hbA hS h1 dL_law_755 ?_
  refine kLi (X := wX10 g qm Qm M ML ++ pF g 20 RQ RF) (ws := fC g q u RQ C CL) ⟨hx, hb, hml, hown, hts⟩ (c_X9_longest l g q (u 0) (u 4) (u 2) (u 11) N (C 0) (C 4) (C 2) (C 11) (xs (x3 + 1).toNatClampNeg) v hv H.size) (gV u_ml_L_98 u_im_X9_longest u_se_X9_longest u_ini_X9 u_co_X9_longest) hd_X9_longest ⟨rfl, rfl⟩ hcs hK hP hD hS hA 0 9 rfl rfl [0, 17, 3, 6, 7, 8, 9, 47, 48, 49] [0, 11, 12, 2, 14, 15, 3, 4, 5, 6, 20, 21, 22, 23, 24, 25, 26, 1, 28, 29, 30, 31, 32, 33, 34, 35, 36, 37, 38, 39, 40, 41, 42, 43, 44, 45, 46, 47, 48, 49, 50, 51, 52, 53, 54, 55, 56, 7, 8, 9, 60, 61, 62, 63, 64, 65, 66, 67, 68, 69, 70, 71, 72, 73] rfl rfl 10 rfl (w2 := fC g q u RQ (va_up C 11 (va_up (va_up (C 11) 0 v.2.1) 1 v.2.2)) CL) rfl rfl (As := [.int (xs (x3 + 1).toNatClampNeg)]) (rest := []) rfl hl.1 rfl rfl dL_law_756 (fun H locs hP hD hS => ?_)
  have hP := P_perm (List.perm_append_comm_assoc _ _ _) hP
  have hD := D_perm (List.perm_append_comm_assoc _ _ _) hD
  refine lv_aload_n hx hb dL_law_759 rfl (lv_at hl 2 rfl) ?_
  refine lv_aload_n hx hb dL_law_760 rfl (lv_at hl 0 rfl) ?_
  refine lv_iload_n hx hb dL_law_761 rfl (lv_at hl 3 rfl) ?_
  refine lv_iconst (v := (1 : Int32)) hx hb dL_law_762 (by decide) ?_
  refine lv_iadd hx hb dL_law_763 ?_
  refine va_sld hx hb hX hbl hbA hS h1 dL_law_764 ?_
  refine kLi (X := fC g q u RQ (va_up C 11 (va_up (va_up (C 11) 0 v.2.1) 1 v.2.2)) CL ++ pF g 20 RQ RF) (ws := wX10 g qm Qm M ML) ⟨hx, hb, hml, hown, hts⟩ (c_X10_longest l g qm Qm N M (xs (x3 + 1).toNatClampNeg) w hw H.size) (gV u_ml_L_101 u_im_X10_longest u_se_X10_longest u_ini_X10 u_co_X10_longest) hd_X10_longest ⟨rfl, rfl⟩ hcs hK hP hD hS hA 0 10 rfl rfl [0, 4, 5, 6, 14, 15, 19] [0, 8, 9, 10, 1, 2, 3, 14, 15, 16, 17, 18, 19, 20, 4, 5, 23, 24, 25, 6] rfl rfl 7 rfl (w2 := wX10 g qm Qm (va_up (va_up (va_up M 32 w.2.1) 33 w.2.2.1) 37 w.2.2.2) ML) rfl rfl (As := [.int (xs (x3 + 1).toNatClampNeg)]) (rest := [.int v.1]) rfl hl.1 rfl rfl dL_law_765 (fun H locs hP hD hS => ?_)
  have hP := P_perm (List.perm_append_comm_assoc _ _ _) hP
  have hD := D_perm (List.perm_append_comm_assoc _ _ _) hD
  refine lv_icmp_eq (tgt := 1082) hx hb dL_law_768 (by decide) (fun _ => ?_) (fun c9 => absurd heq c9)
  exact kn H locs ls hP hD hS hl
set_option maxHeartbeats 8000000 in
set_option maxRecDepth 100000 in
theorem L_ways {p : Program} {l : Launch} {e : Env} {s : State} {m : MethodId} {below : List Frame} {meth : Method} {c : Code} {g : gG} {A : Nat → Prop} {Q : State → Prop} {cells slots b L : Nat} {xs : Nat → Int32} (E : EL p s m meth c b L xs g A) (hcs : cells ≤ 600000 ∧ slots ≤ 7302250) (N q qm : Nat) (x3 : Int32) (u RQ : Nat → Ad) (C : Nat → St) (CL : Nat → SL) (RF : Nat → St) (Qm : Ad) (M : St) (ML : SL) (h1 : vp_in (x3 + 1) L) (v : Int32 × (Nat → Int32) × (Nat → Int32)) (w : Int32 × (Nat → Int32) × (Nat → Int32) × (Nat → Int32)) (hv : x_X9_ways N (C 0) (C 4) (C 2) (C 11) (xs (x3 + 1).toNatClampNeg) = some v) (hw : x_X10_ways N M (xs (x3 + 1).toNatClampNeg) = some w) (heq : v.1 = w.1) (kn : WL p l e s m below meth c g A Q cells slots 1082 b q qm x3 u RQ (va_up C 11 (va_up (va_up (C 11) 0 v.2.1) 1 v.2.2)) CL RF Qm (va_up (va_up (va_up M 32 w.2.1) 33 w.2.2.1) 37 w.2.2.2) ML) : WL p l e s m below meth c g A Q cells slots 773 b q qm x3 u RQ C CL RF Qm M ML := by
  obtain ⟨⟨hx, hb, hml, hown, hts⟩, hr, hK, hA, hlk, hX, hbl, hbA, hL⟩ := id E
  intro H locs ls hP hD hS hl
  refine lv_aload_n hx hb dL_law_773 rfl (lv_at hl 1 rfl) ?_
  refine lv_aload_n hx hb dL_law_774 rfl (lv_at hl 0 rfl) ?_
  refine lv_iload_n hx hb dL_law_775 rfl (lv_at hl 3 rfl) ?_
  refine lv_iconst (v := (1 : Int32)) hx hb dL_law_776 (by decide) ?_
  refine lv_iadd hx hb dL_law_777 ?_
  refine va_sld hx hb hX hbl hbA hS h1 dL_law_778 ?_
  refine kLi (X := wX10 g qm Qm M ML ++ pF g 20 RQ RF) (ws := fC g q u RQ C CL) ⟨hx, hb, hml, hown, hts⟩ (c_X9_ways l g q (u 0) (u 4) (u 2) (u 11) N (C 0) (C 4) (C 2) (C 11) (xs (x3 + 1).toNatClampNeg) v hv H.size) (gV u_ml_L_102 u_im_X9_ways u_se_X9_ways u_ini_X9 u_co_X9_ways) hd_X9_ways ⟨rfl, rfl⟩ hcs hK hP hD hS hA 0 9 rfl rfl [0, 17, 3, 6, 7, 8, 9, 47, 48, 49] [0, 11, 12, 2, 14, 15, 3, 4, 5, 6, 20, 21, 22, 23, 24, 25, 26, 1, 28, 29, 30, 31, 32, 33, 34, 35, 36, 37, 38, 39, 40, 41, 42, 43, 44, 45, 46, 47, 48, 49, 50, 51, 52, 53, 54, 55, 56, 7, 8, 9, 60, 61, 62, 63, 64, 65, 66, 67, 68, 69, 70, 71, 72, 73] rfl rfl 10 rfl (w2 := fC g q u RQ (va_up C 11 (va_up (va_up (C 11) 0 v.2.1) 1 v.2.2)) CL) rfl rfl (As := [.int (xs (x3 + 1).toNatClampNeg)]) (rest := []) rfl hl.1 rfl rfl dL_law_779 (fun H locs hP hD hS => ?_)
  have hP := P_perm (List.perm_append_comm_assoc _ _ _) hP
  have hD := D_perm (List.perm_append_comm_assoc _ _ _) hD
  refine lv_aload_n hx hb dL_law_782 rfl (lv_at hl 2 rfl) ?_
  refine lv_aload_n hx hb dL_law_783 rfl (lv_at hl 0 rfl) ?_
  refine lv_iload_n hx hb dL_law_784 rfl (lv_at hl 3 rfl) ?_
  refine lv_iconst (v := (1 : Int32)) hx hb dL_law_785 (by decide) ?_
  refine lv_iadd hx hb dL_law_786 ?_
  refine va_sld hx hb hX hbl hbA hS h1 dL_law_787 ?_
  refine kLi (X := fC g q u RQ (va_up C 11 (va_up (va_up (C 11) 0 v.2.1) 1 v.2.2)) CL ++ pF g 20 RQ RF) (ws := wX10 g qm Qm M ML) ⟨hx, hb, hml, hown, hts⟩ (c_X10_ways l g qm Qm N M (xs (x3 + 1).toNatClampNeg) w hw H.size) (gV u_ml_L_105 u_im_X10_ways u_se_X10_ways u_ini_X10 u_co_X10_ways) hd_X10_ways ⟨rfl, rfl⟩ hcs hK hP hD hS hA 0 10 rfl rfl [0, 4, 5, 6, 14, 15, 19] [0, 8, 9, 10, 1, 2, 3, 14, 15, 16, 17, 18, 19, 20, 4, 5, 23, 24, 25, 6] rfl rfl 7 rfl (w2 := wX10 g qm Qm (va_up (va_up (va_up M 32 w.2.1) 33 w.2.2.1) 37 w.2.2.2) ML) rfl rfl (As := [.int (xs (x3 + 1).toNatClampNeg)]) (rest := [.int v.1]) rfl hl.1 rfl rfl dL_law_788 (fun H locs hP hD hS => ?_)
  have hP := P_perm (List.perm_append_comm_assoc _ _ _) hP
  have hD := D_perm (List.perm_append_comm_assoc _ _ _) hD
  refine lv_icmp_eq (tgt := 1082) hx hb dL_law_791 (by decide) (fun _ => ?_) (fun c9 => absurd heq c9)
  exact kn H locs ls hP hD hS hl
set_option maxHeartbeats 8000000 in
set_option maxRecDepth 100000 in
theorem L_firstBlocked {p : Program} {l : Launch} {e : Env} {s : State} {m : MethodId} {below : List Frame} {meth : Method} {c : Code} {g : gG} {A : Nat → Prop} {Q : State → Prop} {cells slots b L : Nat} {xs : Nat → Int32} (E : EL p s m meth c b L xs g A) (hcs : cells ≤ 600000 ∧ slots ≤ 7302250) (N q qm : Nat) (x3 : Int32) (u RQ : Nat → Ad) (C : Nat → St) (CL : Nat → SL) (RF : Nat → St) (Qm : Ad) (M : St) (ML : SL) (v : Int32 × Int32 × Int32 × (Nat → Int32) × (Nat → Int32) × (Nat → Int32) × (Nat → Int32) × (Nat → Int32)) (w : Int32 × (Nat → Int32)) (hv : x_X9_firstBlocked N (C 0) (C 4) (C 2) (C 5) = some v) (hw : x_X10_firstBlocked N M = some w) (heq : v.1 = w.1) (kn : WL p l e s m below meth c g A Q cells slots 1082 b q qm x3 u RQ (va_up C 5 (va_up (va_up (va_up (va_up (va_up (va_up (va_up (C 5) 0 (fun _ => v.2.1)) 1 (fun _ => v.2.2.1)) 2 v.2.2.2.1) 3 v.2.2.2.2.1) 4 v.2.2.2.2.2.1) 5 v.2.2.2.2.2.2.1) 6 v.2.2.2.2.2.2.2)) CL RF Qm (va_up M 21 w.2) ML) : WL p l e s m below meth c g A Q cells slots 796 b q qm x3 u RQ C CL RF Qm M ML := by
  obtain ⟨⟨hx, hb, hml, hown, hts⟩, hr, hK, hA, hlk, hX, hbl, hbA, hL⟩ := id E
  intro H locs ls hP hD hS hl
  refine lv_aload_n hx hb dL_law_796 rfl (lv_at hl 1 rfl) ?_
  refine kLi (X := wX10 g qm Qm M ML ++ pF g 20 RQ RF) (ws := fC g q u RQ C CL) ⟨hx, hb, hml, hown, hts⟩ (c_X9_firstBlocked l g q (u 0) (u 4) (u 2) (u 5) N (C 0) (C 4) (C 2) (C 5) v hv H.size) (gV u_ml_L_106 u_im_X9_firstBlocked u_se_X9_firstBlocked u_ini_X9 u_co_X9_firstBlocked) hd_X9_firstBlocked ⟨rfl, rfl⟩ hcs hK hP hD hS hA 0 9 rfl rfl [0, 17, 18, 19, 20, 21, 22, 3, 4, 6, 7, 8, 23, 24, 25, 26, 27, 28] [0, 19, 20, 7, 8, 23, 9, 10, 11, 27, 28, 29, 30, 31, 32, 33, 34, 1, 2, 3, 4, 5, 6, 12, 13, 14, 15, 16, 17, 47, 48, 49, 50, 51, 52, 53, 54, 55, 56, 57, 58, 59, 60, 61, 62, 63, 64, 65, 66, 67, 68, 69, 70, 71, 72, 73, 74, 75, 76, 77, 78, 79, 80, 81] rfl rfl 18 rfl (w2 := fC g q u RQ (va_up C 5 (va_up (va_up (va_up (va_up (va_up (va_up (va_up (C 5) 0 (fun _ => v.2.1)) 1 (fun _ => v.2.2.1)) 2 v.2.2.2.1) 3 v.2.2.2.2.1) 4 v.2.2.2.2.2.1) 5 v.2.2.2.2.2.2.1) 6 v.2.2.2.2.2.2.2)) CL) rfl rfl (As := []) (rest := []) rfl hl.1 rfl rfl dL_law_797 (fun H locs hP hD hS => ?_)
  have hP := P_perm (List.perm_append_comm_assoc _ _ _) hP
  have hD := D_perm (List.perm_append_comm_assoc _ _ _) hD
  refine lv_aload_n hx hb dL_law_800 rfl (lv_at hl 2 rfl) ?_
  refine kLi (X := fC g q u RQ (va_up C 5 (va_up (va_up (va_up (va_up (va_up (va_up (va_up (C 5) 0 (fun _ => v.2.1)) 1 (fun _ => v.2.2.1)) 2 v.2.2.2.1) 3 v.2.2.2.2.1) 4 v.2.2.2.2.2.1) 5 v.2.2.2.2.2.2.1) 6 v.2.2.2.2.2.2.2)) CL ++ pF g 20 RQ RF) (ws := wX10 g qm Qm M ML) ⟨hx, hb, hml, hown, hts⟩ (c_X10_firstBlocked l g qm Qm N M w hw H.size) (gV u_ml_L_109 u_im_X10_firstBlocked u_se_X10_firstBlocked u_ini_X10 u_co_X10_firstBlocked) hd_X10_firstBlocked ⟨rfl, rfl⟩ hcs hK hP hD hS hA 0 10 rfl rfl [0, 4, 5, 6, 7] [0, 6, 7, 8, 1, 2, 3, 4, 13, 14, 15, 16, 17, 18, 19, 20, 21, 22, 23, 24] rfl rfl 5 rfl (w2 := wX10 g qm Qm (va_up M 21 w.2) ML) rfl rfl (As := []) (rest := [.int v.1]) rfl hl.1 rfl rfl dL_law_801 (fun H locs hP hD hS => ?_)
  have hP := P_perm (List.perm_append_comm_assoc _ _ _) hP
  have hD := D_perm (List.perm_append_comm_assoc _ _ _) hD
  refine lv_icmp_eq (tgt := 1082) hx hb dL_law_804 (by decide) (fun _ => ?_) (fun c9 => absurd heq c9)
  exact kn H locs ls hP hD hS hl
set_option maxHeartbeats 8000000 in
set_option maxRecDepth 100000 in
theorem L_share {p : Program} {l : Launch} {e : Env} {s : State} {m : MethodId} {below : List Frame} {meth : Method} {c : Code} {g : gG} {A : Nat → Prop} {Q : State → Prop} {cells slots b L : Nat} {xs : Nat → Int32} (E : EL p s m meth c b L xs g A) (hcs : cells ≤ 600000 ∧ slots ≤ 7302250) (N q qm : Nat) (x3 : Int32) (u RQ : Nat → Ad) (C : Nat → St) (CL : Nat → SL) (RF : Nat → St) (Qm : Ad) (M : St) (ML : SL) (h1 : vp_in (x3 + 1) L) (v : Int32) (w : Int32) (hv : x_X9_share N (C 0) (C 4) (C 2) (xs (x3 + 1).toNatClampNeg) = some v) (hw : x_X10_share N M (xs (x3 + 1).toNatClampNeg) = some w) (heq : v = w) (kn : WL p l e s m below meth c g A Q cells slots 1082 b q qm x3 u RQ C CL RF Qm M ML) : WL p l e s m below meth c g A Q cells slots 809 b q qm x3 u RQ C CL RF Qm M ML := by
  obtain ⟨⟨hx, hb, hml, hown, hts⟩, hr, hK, hA, hlk, hX, hbl, hbA, hL⟩ := id E
  intro H locs ls hP hD hS hl
  refine lv_aload_n hx hb dL_law_809 rfl (lv_at hl 1 rfl) ?_
  refine lv_aload_n hx hb dL_law_810 rfl (lv_at hl 0 rfl) ?_
  refine lv_iload_n hx hb dL_law_811 rfl (lv_at hl 3 rfl) ?_
  refine lv_iconst (v := (1 : Int32)) hx hb dL_law_812 (by decide) ?_
  refine lv_iadd hx hb dL_law_813 ?_
  refine va_sld hx hb hX hbl hbA hS h1 dL_law_814 ?_
  refine kLi (X := wX10 g qm Qm M ML ++ pF g 20 RQ RF) (ws := fC g q u RQ C CL) ⟨hx, hb, hml, hown, hts⟩ (c_X9_share l g q (u 0) (u 4) (u 2) N (C 0) (C 4) (C 2) (xs (x3 + 1).toNatClampNeg) v hv H.size) (gV u_ml_L_110 u_im_X9_share u_se_X9_share u_ini_X9 u_co_X9_share) hd_X9_share ⟨rfl, rfl⟩ hcs hK hP hD hS hA 0 9 rfl rfl [0, 17, 20, 3] [0, 5, 6, 3, 8, 9, 10, 11, 12, 13, 14, 15, 16, 17, 18, 19, 20, 1, 22, 23, 2, 25, 26, 27, 28, 29, 30, 31, 32, 33, 34, 35, 36, 37, 38, 39, 40, 41, 42, 43, 44, 45, 46, 47, 48, 49, 50, 51, 52, 53, 54, 55, 56, 57, 58, 59, 60, 61, 62, 63, 64, 65, 66, 67] rfl rfl 4 rfl (w2 := fC g q u RQ C CL) rfl rfl (As := [.int (xs (x3 + 1).toNatClampNeg)]) (rest := []) rfl hl.1 rfl rfl dL_law_815 (fun H locs hP hD hS => ?_)
  have hP := P_perm (List.perm_append_comm_assoc _ _ _) hP
  have hD := D_perm (List.perm_append_comm_assoc _ _ _) hD
  refine lv_aload_n hx hb dL_law_818 rfl (lv_at hl 2 rfl) ?_
  refine lv_aload_n hx hb dL_law_819 rfl (lv_at hl 0 rfl) ?_
  refine lv_iload_n hx hb dL_law_820 rfl (lv_at hl 3 rfl) ?_
  refine lv_iconst (v := (1 : Int32)) hx hb dL_law_821 (by decide) ?_
  refine lv_iadd hx hb dL_law_822 ?_
  refine va_sld hx hb hX hbl hbA hS h1 dL_law_823 ?_
  refine kLi (X := fC g q u RQ C CL ++ pF g 20 RQ RF) (ws := wX10 g qm Qm M ML) ⟨hx, hb, hml, hown, hts⟩ (c_X10_share l g qm Qm N M (xs (x3 + 1).toNatClampNeg) w hw H.size) (gV u_ml_L_113 u_im_X10_share u_se_X10_share u_ini_X10 u_co_X10_share) hd_X10_share ⟨rfl, rfl⟩ hcs hK hP hD hS hA 0 10 rfl rfl [0, 6] [0, 3, 4, 5, 6, 7, 1, 9, 10, 11, 12, 13, 14, 15, 16, 17, 18, 19, 20, 21] rfl rfl 2 rfl (w2 := wX10 g qm Qm M ML) rfl rfl (As := [.int (xs (x3 + 1).toNatClampNeg)]) (rest := [.int v]) rfl hl.1 rfl rfl dL_law_824 (fun H locs hP hD hS => ?_)
  have hP := P_perm (List.perm_append_comm_assoc _ _ _) hP
  have hD := D_perm (List.perm_append_comm_assoc _ _ _) hD
  refine lv_icmp_eq (tgt := 1082) hx hb dL_law_827 (by decide) (fun _ => ?_) (fun c9 => absurd heq c9)
  exact kn H locs ls hP hD hS hl
