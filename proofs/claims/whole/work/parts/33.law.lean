set_option maxHeartbeats 8000000 in
set_option maxRecDepth 100000 in
theorem L_frost {p : Program} {l : Launch} {e : Env} {s : State} {m : MethodId} {below : List Frame} {meth : Method} {c : Code} {g : gG} {A : Nat → Prop} {Q : State → Prop} {cells slots b L : Nat} {xs : Nat → Int32} (E : EL p s m meth c b L xs g A) (hcs : cells ≤ 600000 ∧ slots ≤ 7302250) (N q qm : Nat) (x3 : Int32) (u RQ : Nat → Ad) (C : Nat → St) (CL : Nat → SL) (RF : Nat → St) (Qm : Ad) (M : St) (ML : SL) (h1 : vp_in (x3 + 1) L) (h2 : vp_in (x3 + 2) L) (v : Int32) (w : Int32) (hv : x_X9_frost N (xs (x3 + 1).toNatClampNeg) (xs (x3 + 2).toNatClampNeg) = some v) (hw : x_X10_frost N (xs (x3 + 1).toNatClampNeg) (xs (x3 + 2).toNatClampNeg) = some w) (heq : v = w) (kn : WL p l e s m below meth c g A Q cells slots 1082 b q qm x3 u RQ C CL RF Qm M ML) : WL p l e s m below meth c g A Q cells slots 832 b q qm x3 u RQ C CL RF Qm M ML := by
  obtain ⟨⟨hx, hb, hml, hown, hts⟩, hr, hK, hA, hlk, hX, hbl, hbA, hL⟩ := id E
  intro H locs ls hP hD hS hl
  refine lv_aload_n hx hb dL_law_832 rfl (lv_at hl 1 rfl) ?_
  refine lv_aload_n hx hb dL_law_833 rfl (lv_at hl 0 rfl) ?_
  refine lv_iload_n hx hb dL_law_834 rfl (lv_at hl 3 rfl) ?_
  refine lv_iconst (v := (1 : Int32)) hx hb dL_law_835 (by decide) ?_
  refine lv_iadd hx hb dL_law_836 ?_
  refine va_sld hx hb hX hbl hbA hS h1 dL_law_837 ?_
  refine lv_aload_n hx hb dL_law_838 rfl (lv_at hl 0 rfl) ?_
  refine lv_iload_n hx hb dL_law_839 rfl (lv_at hl 3 rfl) ?_
  refine lv_iconst (v := (2 : Int32)) hx hb dL_law_840 (by decide) ?_
  refine lv_iadd hx hb dL_law_841 ?_
  refine va_sld hx hb hX hbl hbA hS h2 dL_law_842 ?_
  refine kLi (X := wX10 g qm Qm M ML ++ pF g 20 RQ RF) (ws := fC g q u RQ C CL) ⟨hx, hb, hml, hown, hts⟩ (c_X9_frost l g q N (xs (x3 + 1).toNatClampNeg) (xs (x3 + 2).toNatClampNeg) v hv H.size) (gV u_ml_L_114 u_im_X9_frost u_se_X9_frost u_ini_X9 u_co_X9_frost) hd_X9_frost ⟨rfl, rfl⟩ hcs hK hP hD hS hA 0 9 rfl rfl [] [0, 1, 2, 3, 4, 5, 6, 7, 8, 9, 10, 11, 12, 13, 14, 15, 16, 17, 18, 19, 20, 21, 22, 23, 24, 25, 26, 27, 28, 29, 30, 31, 32, 33, 34, 35, 36, 37, 38, 39, 40, 41, 42, 43, 44, 45, 46, 47, 48, 49, 50, 51, 52, 53, 54, 55, 56, 57, 58, 59, 60, 61, 62, 63] rfl rfl 0 rfl (w2 := fC g q u RQ C CL) rfl rfl (As := [.int (xs (x3 + 1).toNatClampNeg), .int (xs (x3 + 2).toNatClampNeg)]) (rest := []) rfl hl.1 rfl rfl dL_law_843 (fun H locs hP hD hS => ?_)
  have hP := P_perm (List.perm_append_comm_assoc _ _ _) hP
  have hD := D_perm (List.perm_append_comm_assoc _ _ _) hD
  refine lv_aload_n hx hb dL_law_846 rfl (lv_at hl 2 rfl) ?_
  refine lv_aload_n hx hb dL_law_847 rfl (lv_at hl 0 rfl) ?_
  refine lv_iload_n hx hb dL_law_848 rfl (lv_at hl 3 rfl) ?_
  refine lv_iconst (v := (1 : Int32)) hx hb dL_law_849 (by decide) ?_
  refine lv_iadd hx hb dL_law_850 ?_
  refine va_sld hx hb hX hbl hbA hS h1 dL_law_851 ?_
  refine lv_aload_n hx hb dL_law_852 rfl (lv_at hl 0 rfl) ?_
  refine lv_iload_n hx hb dL_law_853 rfl (lv_at hl 3 rfl) ?_
  refine lv_iconst (v := (2 : Int32)) hx hb dL_law_854 (by decide) ?_
  refine lv_iadd hx hb dL_law_855 ?_
  refine va_sld hx hb hX hbl hbA hS h2 dL_law_856 ?_
  refine kLi (X := fC g q u RQ C CL ++ pF g 20 RQ RF) (ws := wX10 g qm Qm M ML) ⟨hx, hb, hml, hown, hts⟩ (c_X10_frost l g qm N (xs (x3 + 1).toNatClampNeg) (xs (x3 + 2).toNatClampNeg) w hw H.size) (gV u_ml_L_117 u_im_X10_frost u_se_X10_frost u_ini_X10 u_co_X10_frost) hd_X10_frost ⟨rfl, rfl⟩ hcs hK hP hD hS hA 0 10 rfl rfl [] [0, 1, 2, 3, 4, 5, 6, 7, 8, 9, 10, 11, 12, 13, 14, 15, 16, 17, 18, 19] rfl rfl 0 rfl (w2 := wX10 g qm Qm M ML) rfl rfl (As := [.int (xs (x3 + 1).toNatClampNeg), .int (xs (x3 + 2).toNatClampNeg)]) (rest := [.int v]) rfl hl.1 rfl rfl dL_law_857 (fun H locs hP hD hS => ?_)
  have hP := P_perm (List.perm_append_comm_assoc _ _ _) hP
  have hD := D_perm (List.perm_append_comm_assoc _ _ _) hD
  refine lv_icmp_eq (tgt := 1082) hx hb dL_law_860 (by decide) (fun _ => ?_) (fun c9 => absurd heq c9)
  exact kn H locs ls hP hD hS hl
set_option maxHeartbeats 8000000 in
set_option maxRecDepth 100000 in
theorem L_drip {p : Program} {l : Launch} {e : Env} {s : State} {m : MethodId} {below : List Frame} {meth : Method} {c : Code} {g : gG} {A : Nat → Prop} {Q : State → Prop} {cells slots b L : Nat} {xs : Nat → Int32} (E : EL p s m meth c b L xs g A) (hcs : cells ≤ 600000 ∧ slots ≤ 7302250) (N q qm : Nat) (x3 : Int32) (u RQ : Nat → Ad) (C : Nat → St) (CL : Nat → SL) (RF : Nat → St) (Qm : Ad) (M : St) (ML : SL) (h1 : vp_in (x3 + 1) L) (h2 : vp_in (x3 + 2) L) (h3 : vp_in (x3 + 3) L) (v : Int32 × Int32 × (Nat → Int32) × (Nat → Int32) × (Nat → Int32)) (w : Int32 × Int32 × (Nat → Int32)) (hv : x_X9_drip (C 0) (C 7) (C 2) (xs (x3 + 1).toNatClampNeg) (xs (x3 + 2).toNatClampNeg) (xs (x3 + 3).toNatClampNeg) = some v) (hw : x_X10_drip M (xs (x3 + 1).toNatClampNeg) (xs (x3 + 2).toNatClampNeg) (xs (x3 + 3).toNatClampNeg) = some w) (heq : v.1 = w.1) (kn : WL p l e s m below meth c g A Q cells slots 1082 b q qm x3 u RQ (va_up C 7 (va_up (va_up (va_up (va_up (C 7) 0 (fun _ => v.2.1)) 2 v.2.2.1) 3 v.2.2.2.1) 4 v.2.2.2.2)) CL RF Qm (va_up (va_up M 28 (fun _ => w.2.1)) 29 w.2.2) ML) : WL p l e s m below meth c g A Q cells slots 865 b q qm x3 u RQ C CL RF Qm M ML := by
  obtain ⟨⟨hx, hb, hml, hown, hts⟩, hr, hK, hA, hlk, hX, hbl, hbA, hL⟩ := id E
  intro H locs ls hP hD hS hl
  refine lv_aload_n hx hb dL_law_865 rfl (lv_at hl 1 rfl) ?_
  refine lv_aload_n hx hb dL_law_866 rfl (lv_at hl 0 rfl) ?_
  refine lv_iload_n hx hb dL_law_867 rfl (lv_at hl 3 rfl) ?_
  refine lv_iconst (v := (1 : Int32)) hx hb dL_law_868 (by decide) ?_
  refine lv_iadd hx hb dL_law_869 ?_
  refine va_sld hx hb hX hbl hbA hS h1 dL_law_870 ?_
  refine lv_aload_n hx hb dL_law_871 rfl (lv_at hl 0 rfl) ?_
  refine lv_iload_n hx hb dL_law_872 rfl (lv_at hl 3 rfl) ?_
  refine lv_iconst (v := (2 : Int32)) hx hb dL_law_873 (by decide) ?_
  refine lv_iadd hx hb dL_law_874 ?_
  refine va_sld hx hb hX hbl hbA hS h2 dL_law_875 ?_
  refine lv_aload_n hx hb dL_law_876 rfl (lv_at hl 0 rfl) ?_
  refine lv_iload_n hx hb dL_law_877 rfl (lv_at hl 3 rfl) ?_
  refine lv_iconst (v := (3 : Int32)) hx hb dL_law_878 (by decide) ?_
  refine lv_iadd hx hb dL_law_879 ?_
  refine va_sld hx hb hX hbl hbA hS h3 dL_law_880 ?_
  refine kLi (X := wX10 g qm Qm M ML ++ pF g 20 RQ RF) (ws := fC g q u RQ C CL) ⟨hx, hb, hml, hown, hts⟩ (c_X9_drip l g q (u 0) (u 7) (u 2) (C 0) (C 7) (C 2) (xs (x3 + 1).toNatClampNeg) (xs (x3 + 2).toNatClampNeg) (xs (x3 + 3).toNatClampNeg) v hv H.size) (gV u_ml_L_118 u_im_X9_drip u_se_X9_drip u_ini_X9 u_co_X9_drip) hd_X9_drip ⟨rfl, rfl⟩ hcs hK hP hD hS hA 0 9 rfl rfl [0, 32, 33, 34, 35, 3] [0, 7, 8, 5, 10, 11, 12, 13, 14, 15, 16, 17, 18, 19, 20, 21, 22, 23, 24, 25, 26, 27, 28, 29, 30, 31, 32, 33, 34, 35, 36, 37, 1, 2, 3, 4, 42, 43, 44, 45, 46, 47, 48, 49, 50, 51, 52, 53, 54, 55, 56, 57, 58, 59, 60, 61, 62, 63, 64, 65, 66, 67, 68, 69] rfl rfl 6 rfl (w2 := fC g q u RQ (va_up C 7 (va_up (va_up (va_up (va_up (C 7) 0 (fun _ => v.2.1)) 2 v.2.2.1) 3 v.2.2.2.1) 4 v.2.2.2.2)) CL) rfl rfl (As := [.int (xs (x3 + 1).toNatClampNeg), .int (xs (x3 + 2).toNatClampNeg), .int (xs (x3 + 3).toNatClampNeg)]) (rest := []) rfl hl.1 rfl rfl dL_law_881 (fun H locs hP hD hS => ?_)
  have hP := P_perm (List.perm_append_comm_assoc _ _ _) hP
  have hD := D_perm (List.perm_append_comm_assoc _ _ _) hD
  refine lv_aload_n hx hb dL_law_884 rfl (lv_at hl 2 rfl) ?_
  refine lv_aload_n hx hb dL_law_885 rfl (lv_at hl 0 rfl) ?_
  refine lv_iload_n hx hb dL_law_886 rfl (lv_at hl 3 rfl) ?_
  refine lv_iconst (v := (1 : Int32)) hx hb dL_law_887 (by decide) ?_
  refine lv_iadd hx hb dL_law_888 ?_
  refine va_sld hx hb hX hbl hbA hS h1 dL_law_889 ?_
  refine lv_aload_n hx hb dL_law_890 rfl (lv_at hl 0 rfl) ?_
  refine lv_iload_n hx hb dL_law_891 rfl (lv_at hl 3 rfl) ?_
  refine lv_iconst (v := (2 : Int32)) hx hb dL_law_892 (by decide) ?_
  refine lv_iadd hx hb dL_law_893 ?_
  refine va_sld hx hb hX hbl hbA hS h2 dL_law_894 ?_
  refine lv_aload_n hx hb dL_law_895 rfl (lv_at hl 0 rfl) ?_
  refine lv_iload_n hx hb dL_law_896 rfl (lv_at hl 3 rfl) ?_
  refine lv_iconst (v := (3 : Int32)) hx hb dL_law_897 (by decide) ?_
  refine lv_iadd hx hb dL_law_898 ?_
  refine va_sld hx hb hX hbl hbA hS h3 dL_law_899 ?_
  refine kLi (X := fC g q u RQ (va_up C 7 (va_up (va_up (va_up (va_up (C 7) 0 (fun _ => v.2.1)) 2 v.2.2.1) 3 v.2.2.2.1) 4 v.2.2.2.2)) CL ++ pF g 20 RQ RF) (ws := wX10 g qm Qm M ML) ⟨hx, hb, hml, hown, hts⟩ (c_X10_drip l g qm Qm M (xs (x3 + 1).toNatClampNeg) (xs (x3 + 2).toNatClampNeg) (xs (x3 + 3).toNatClampNeg) w hw H.size) (gV u_ml_L_121 u_im_X10_drip u_se_X10_drip u_ini_X10 u_co_X10_drip) hd_X10_drip ⟨rfl, rfl⟩ hcs hK hP hD hS hA 0 10 rfl rfl [0, 12] [0, 3, 4, 5, 6, 7, 8, 9, 10, 11, 12, 13, 1, 15, 16, 17, 18, 19, 20, 21] rfl rfl 2 rfl (w2 := wX10 g qm Qm (va_up (va_up M 28 (fun _ => w.2.1)) 29 w.2.2) ML) rfl rfl (As := [.int (xs (x3 + 1).toNatClampNeg), .int (xs (x3 + 2).toNatClampNeg), .int (xs (x3 + 3).toNatClampNeg)]) (rest := [.int v.1]) rfl hl.1 rfl rfl dL_law_900 (fun H locs hP hD hS => ?_)
  have hP := P_perm (List.perm_append_comm_assoc _ _ _) hP
  have hD := D_perm (List.perm_append_comm_assoc _ _ _) hD
  refine lv_icmp_eq (tgt := 1082) hx hb dL_law_903 (by decide) (fun _ => ?_) (fun c9 => absurd heq c9)
  exact kn H locs ls hP hD hS hl
set_option maxHeartbeats 8000000 in
set_option maxRecDepth 100000 in
theorem L_cracked {p : Program} {l : Launch} {e : Env} {s : State} {m : MethodId} {below : List Frame} {meth : Method} {c : Code} {g : gG} {A : Nat → Prop} {Q : State → Prop} {cells slots b L : Nat} {xs : Nat → Int32} (E : EL p s m meth c b L xs g A) (hcs : cells ≤ 600000 ∧ slots ≤ 7302250) (N q qm : Nat) (x3 : Int32) (u RQ : Nat → Ad) (C : Nat → St) (CL : Nat → SL) (RF : Nat → St) (Qm : Ad) (M : St) (ML : SL) (h1 : vp_in (x3 + 1) L) (v : Int32 × (Nat → Int32) × (Nat → Int64) × (Nat → Int64)) (w : Int32 × (Nat → Int32) × (Nat → Int32)) (hv : x_X9_cracked N (C 0) (C 4) (C 7) (C 2) (C 8) (CL 9) (xs (x3 + 1).toNatClampNeg) = some v) (hw : x_X10_cracked N M (xs (x3 + 1).toNatClampNeg) = some w) (heq : v.1 = w.1) (kn : WL p l e s m below meth c g A Q cells slots 1082 b q qm x3 u RQ (va_up C 8 (va_up (C 8) 2 v.2.1)) (va_up CL 9 (va_up (va_up (CL 9) 0 v.2.2.1) 1 v.2.2.2)) RF Qm (va_up (va_up M 32 w.2.1) 33 w.2.2) ML) : WL p l e s m below meth c g A Q cells slots 908 b q qm x3 u RQ C CL RF Qm M ML := by
  obtain ⟨⟨hx, hb, hml, hown, hts⟩, hr, hK, hA, hlk, hX, hbl, hbA, hL⟩ := id E
  intro H locs ls hP hD hS hl
  refine lv_aload_n hx hb dL_law_908 rfl (lv_at hl 1 rfl) ?_
  refine lv_aload_n hx hb dL_law_909 rfl (lv_at hl 0 rfl) ?_
  refine lv_iload_n hx hb dL_law_910 rfl (lv_at hl 3 rfl) ?_
  refine lv_iconst (v := (1 : Int32)) hx hb dL_law_911 (by decide) ?_
  refine lv_iadd hx hb dL_law_912 ?_
  refine va_sld hx hb hX hbl hbA hS h1 dL_law_913 ?_
  refine kLi (X := wX10 g qm Qm M ML ++ pF g 20 RQ RF) (ws := fC g q u RQ C CL) ⟨hx, hb, hml, hown, hts⟩ (c_X9_cracked l g q (u 0) (u 4) (u 7) (u 2) (u 8) (u 9) N (C 0) (C 4) (C 7) (C 2) (C 8) (CL 9) (xs (x3 + 1).toNatClampNeg) v hv H.size) (gV u_ml_L_122 u_im_X9_cracked u_se_X9_cracked u_ini_X9 u_co_X9_cracked) hd_X9_cracked ⟨rfl, rfl⟩ hcs hK hP hD hS hA 0 9 rfl rfl [0, 17, 32, 33, 34, 35, 3, 4, 6, 7, 8, 9, 38, 45, 39, 40, 41] [0, 18, 19, 6, 7, 22, 8, 9, 10, 11, 27, 28, 29, 30, 31, 32, 33, 1, 35, 36, 37, 38, 39, 40, 41, 42, 43, 44, 45, 46, 47, 48, 2, 3, 4, 5, 53, 54, 12, 14, 15, 16, 59, 60, 61, 13, 63, 64, 65, 66, 67, 68, 69, 70, 71, 72, 73, 74, 75, 76, 77, 78, 79, 80] rfl rfl 17 rfl (w2 := fC g q u RQ (va_up C 8 (va_up (C 8) 2 v.2.1)) (va_up CL 9 (va_up (va_up (CL 9) 0 v.2.2.1) 1 v.2.2.2))) rfl rfl (As := [.int (xs (x3 + 1).toNatClampNeg)]) (rest := []) rfl hl.1 rfl rfl dL_law_914 (fun H locs hP hD hS => ?_)
  have hP := P_perm (List.perm_append_comm_assoc _ _ _) hP
  have hD := D_perm (List.perm_append_comm_assoc _ _ _) hD
  refine lv_aload_n hx hb dL_law_917 rfl (lv_at hl 2 rfl) ?_
  refine lv_aload_n hx hb dL_law_918 rfl (lv_at hl 0 rfl) ?_
  refine lv_iload_n hx hb dL_law_919 rfl (lv_at hl 3 rfl) ?_
  refine lv_iconst (v := (1 : Int32)) hx hb dL_law_920 (by decide) ?_
  refine lv_iadd hx hb dL_law_921 ?_
  refine va_sld hx hb hX hbl hbA hS h1 dL_law_922 ?_
  refine kLi (X := fC g q u RQ (va_up C 8 (va_up (C 8) 2 v.2.1)) (va_up CL 9 (va_up (va_up (CL 9) 0 v.2.2.1) 1 v.2.2.2)) ++ pF g 20 RQ RF) (ws := wX10 g qm Qm M ML) ⟨hx, hb, hml, hown, hts⟩ (c_X10_cracked l g qm Qm N M (xs (x3 + 1).toNatClampNeg) w hw H.size) (gV u_ml_L_125 u_im_X10_cracked u_se_X10_cracked u_ini_X10 u_co_X10_cracked) hd_X10_cracked ⟨rfl, rfl⟩ hcs hK hP hD hS hA 0 10 rfl rfl [0, 4, 5, 6, 12, 14, 15] [0, 8, 9, 10, 1, 2, 3, 14, 15, 16, 17, 18, 4, 20, 5, 6, 23, 24, 25, 26] rfl rfl 7 rfl (w2 := wX10 g qm Qm (va_up (va_up M 32 w.2.1) 33 w.2.2) ML) rfl rfl (As := [.int (xs (x3 + 1).toNatClampNeg)]) (rest := [.int v.1]) rfl hl.1 rfl rfl dL_law_923 (fun H locs hP hD hS => ?_)
  have hP := P_perm (List.perm_append_comm_assoc _ _ _) hP
  have hD := D_perm (List.perm_append_comm_assoc _ _ _) hD
  refine lv_icmp_eq (tgt := 1082) hx hb dL_law_926 (by decide) (fun _ => ?_) (fun c9 => absurd heq c9)
  exact kn H locs ls hP hD hS hl
set_option maxHeartbeats 8000000 in
set_option maxRecDepth 100000 in
theorem L_listen {p : Program} {l : Launch} {e : Env} {s : State} {m : MethodId} {below : List Frame} {meth : Method} {c : Code} {g : gG} {A : Nat → Prop} {Q : State → Prop} {cells slots b L : Nat} {xs : Nat → Int32} (E : EL p s m meth c b L xs g A) (hcs : cells ≤ 600000 ∧ slots ≤ 7302250) (N q qm : Nat) (x3 : Int32) (u RQ : Nat → Ad) (C : Nat → St) (CL : Nat → SL) (RF : Nat → St) (Qm : Ad) (M : St) (ML : SL) (h1 : vp_in (x3 + 1) L) (v : Int32 × (Nat → Int32) × (Nat → Int32) × (Nat → Int64) × (Nat → Int64)) (w : Int32 × (Nat → Int32) × (Nat → Int32) × (Nat → Int32)) (hv : x_X9_listen N (C 0) (C 4) (C 7) (C 2) (C 8) (CL 9) (xs (x3 + 1).toNatClampNeg) = some v) (hw : x_X10_listen N M (xs (x3 + 1).toNatClampNeg) = some w) (heq : v.1 = w.1) (kn : WL p l e s m below meth c g A Q cells slots 1082 b q qm x3 u RQ (va_up C 8 (va_up (va_up (C 8) 2 v.2.1) 3 v.2.2.1)) (va_up CL 9 (va_up (va_up (CL 9) 0 v.2.2.2.1) 1 v.2.2.2.2)) RF Qm (va_up (va_up (va_up M 32 w.2.1) 33 w.2.2.1) 36 w.2.2.2) ML) : WL p l e s m below meth c g A Q cells slots 931 b q qm x3 u RQ C CL RF Qm M ML := by
  obtain ⟨⟨hx, hb, hml, hown, hts⟩, hr, hK, hA, hlk, hX, hbl, hbA, hL⟩ := id E
  intro H locs ls hP hD hS hl
  refine lv_aload_n hx hb dL_law_931 rfl (lv_at hl 1 rfl) ?_
  refine lv_aload_n hx hb dL_law_932 rfl (lv_at hl 0 rfl) ?_
  refine lv_iload_n hx hb dL_law_933 rfl (lv_at hl 3 rfl) ?_
  refine lv_iconst (v := (1 : Int32)) hx hb dL_law_934 (by decide) ?_
  refine lv_iadd hx hb dL_law_935 ?_
  refine va_sld hx hb hX hbl hbA hS h1 dL_law_936 ?_
  refine kLi (X := wX10 g qm Qm M ML ++ pF g 20 RQ RF) (ws := fC g q u RQ C CL) ⟨hx, hb, hml, hown, hts⟩ (c_X9_listen l g q (u 0) (u 4) (u 7) (u 2) (u 8) (u 9) N (C 0) (C 4) (C 7) (C 2) (C 8) (CL 9) (xs (x3 + 1).toNatClampNeg) v hv H.size) (gV u_ml_L_126 u_im_X9_listen u_se_X9_listen u_ini_X9 u_co_X9_listen) hd_X9_listen ⟨rfl, rfl⟩ hcs hK hP hD hS hA 0 9 rfl rfl [0, 17, 32, 33, 34, 35, 3, 4, 6, 7, 8, 9, 38, 45, 46, 39, 40, 41] [0, 19, 20, 6, 7, 23, 8, 9, 10, 11, 28, 29, 30, 31, 32, 33, 34, 1, 36, 37, 38, 39, 40, 41, 42, 43, 44, 45, 46, 47, 48, 49, 2, 3, 4, 5, 54, 55, 12, 15, 16, 17, 60, 61, 62, 13, 14, 65, 66, 67, 68, 69, 70, 71, 72, 73, 74, 75, 76, 77, 78, 79, 80, 81] rfl rfl 18 rfl (w2 := fC g q u RQ (va_up C 8 (va_up (va_up (C 8) 2 v.2.1) 3 v.2.2.1)) (va_up CL 9 (va_up (va_up (CL 9) 0 v.2.2.2.1) 1 v.2.2.2.2))) rfl rfl (As := [.int (xs (x3 + 1).toNatClampNeg)]) (rest := []) rfl hl.1 rfl rfl dL_law_937 (fun H locs hP hD hS => ?_)
  have hP := P_perm (List.perm_append_comm_assoc _ _ _) hP
  have hD := D_perm (List.perm_append_comm_assoc _ _ _) hD
  refine lv_aload_n hx hb dL_law_940 rfl (lv_at hl 2 rfl) ?_
  refine lv_aload_n hx hb dL_law_941 rfl (lv_at hl 0 rfl) ?_
  refine lv_iload_n hx hb dL_law_942 rfl (lv_at hl 3 rfl) ?_
  refine lv_iconst (v := (1 : Int32)) hx hb dL_law_943 (by decide) ?_
  refine lv_iadd hx hb dL_law_944 ?_
  refine va_sld hx hb hX hbl hbA hS h1 dL_law_945 ?_
  refine kLi (X := fC g q u RQ (va_up C 8 (va_up (va_up (C 8) 2 v.2.1) 3 v.2.2.1)) (va_up CL 9 (va_up (va_up (CL 9) 0 v.2.2.2.1) 1 v.2.2.2.2)) ++ pF g 20 RQ RF) (ws := wX10 g qm Qm M ML) ⟨hx, hb, hml, hown, hts⟩ (c_X10_listen l g qm Qm N M (xs (x3 + 1).toNatClampNeg) w hw H.size) (gV u_ml_L_129 u_im_X10_listen u_se_X10_listen u_ini_X10 u_co_X10_listen) hd_X10_listen ⟨rfl, rfl⟩ hcs hK hP hD hS hA 0 10 rfl rfl [0, 4, 5, 6, 12, 14, 15, 18] [0, 9, 10, 11, 1, 2, 3, 15, 16, 17, 18, 19, 4, 21, 5, 6, 24, 25, 7, 27] rfl rfl 8 rfl (w2 := wX10 g qm Qm (va_up (va_up (va_up M 32 w.2.1) 33 w.2.2.1) 36 w.2.2.2) ML) rfl rfl (As := [.int (xs (x3 + 1).toNatClampNeg)]) (rest := [.int v.1]) rfl hl.1 rfl rfl dL_law_946 (fun H locs hP hD hS => ?_)
  have hP := P_perm (List.perm_append_comm_assoc _ _ _) hP
  have hD := D_perm (List.perm_append_comm_assoc _ _ _) hD
  refine lv_icmp_eq (tgt := 1082) hx hb dL_law_949 (by decide) (fun _ => ?_) (fun c9 => absurd heq c9)
  exact kn H locs ls hP hD hS hl
set_option maxHeartbeats 8000000 in
set_option maxRecDepth 100000 in
theorem L_write {p : Program} {l : Launch} {e : Env} {s : State} {m : MethodId} {below : List Frame} {meth : Method} {c : Code} {g : gG} {A : Nat → Prop} {Q : State → Prop} {cells slots b L : Nat} {xs : Nat → Int32} (E : EL p s m meth c b L xs g A) (hcs : cells ≤ 600000 ∧ slots ≤ 7302250) (N q qm : Nat) (x3 : Int32) (u RQ : Nat → Ad) (C : Nat → St) (CL : Nat → SL) (RF : Nat → St) (Qm : Ad) (M : St) (ML : SL) (h1 : vp_in (x3 + 1) L) (h2 : vp_in (x3 + 2) L) (v : Int32 × Int32 × (Nat → Int32) × (Nat → Int32)) (w : Int32 × Int32 × (Nat → Int32)) (hv : x_X9_write (C 0) (C 7) (C 2) (xs (x3 + 1).toNatClampNeg) (xs (x3 + 2).toNatClampNeg) = some v) (hw : x_X10_write M (xs (x3 + 1).toNatClampNeg) (xs (x3 + 2).toNatClampNeg) = some w) (heq : v.1 = w.1) (kn : WL p l e s m below meth c g A Q cells slots 1082 b q qm x3 u RQ (va_up C 7 (va_up (va_up (va_up (C 7) 1 (fun _ => v.2.1)) 5 v.2.2.1) 6 v.2.2.2)) CL RF Qm (va_up (va_up M 30 (fun _ => w.2.1)) 31 w.2.2) ML) : WL p l e s m below meth c g A Q cells slots 954 b q qm x3 u RQ C CL RF Qm M ML := by
  obtain ⟨⟨hx, hb, hml, hown, hts⟩, hr, hK, hA, hlk, hX, hbl, hbA, hL⟩ := id E
  intro H locs ls hP hD hS hl
  refine lv_aload_n hx hb dL_law_954 rfl (lv_at hl 1 rfl) ?_
  refine lv_aload_n hx hb dL_law_955 rfl (lv_at hl 0 rfl) ?_
  refine lv_iload_n hx hb dL_law_956 rfl (lv_at hl 3 rfl) ?_
  refine lv_iconst (v := (1 : Int32)) hx hb dL_law_957 (by decide) ?_
  refine lv_iadd hx hb dL_law_958 ?_
  refine va_sld hx hb hX hbl hbA hS h1 dL_law_959 ?_
  refine lv_aload_n hx hb dL_law_960 rfl (lv_at hl 0 rfl) ?_
  refine lv_iload_n hx hb dL_law_961 rfl (lv_at hl 3 rfl) ?_
  refine lv_iconst (v := (2 : Int32)) hx hb dL_law_962 (by decide) ?_
  refine lv_iadd hx hb dL_law_963 ?_
  refine va_sld hx hb hX hbl hbA hS h2 dL_law_964 ?_
  refine kLi (X := wX10 g qm Qm M ML ++ pF g 20 RQ RF) (ws := fC g q u RQ C CL) ⟨hx, hb, hml, hown, hts⟩ (c_X9_write l g q (u 0) (u 7) (u 2) (C 0) (C 7) (C 2) (xs (x3 + 1).toNatClampNeg) (xs (x3 + 2).toNatClampNeg) v hv H.size) (gV u_ml_L_130 u_im_X9_write u_se_X9_write u_ini_X9 u_co_X9_write) hd_X9_write ⟨rfl, rfl⟩ hcs hK hP hD hS hA 0 9 rfl rfl [0, 32, 36, 37, 3] [0, 6, 7, 4, 9, 10, 11, 12, 13, 14, 15, 16, 17, 18, 19, 20, 21, 22, 23, 24, 25, 26, 27, 28, 29, 30, 31, 32, 33, 34, 35, 36, 1, 38, 39, 40, 2, 3, 43, 44, 45, 46, 47, 48, 49, 50, 51, 52, 53, 54, 55, 56, 57, 58, 59, 60, 61, 62, 63, 64, 65, 66, 67, 68] rfl rfl 5 rfl (w2 := fC g q u RQ (va_up C 7 (va_up (va_up (va_up (C 7) 1 (fun _ => v.2.1)) 5 v.2.2.1) 6 v.2.2.2)) CL) rfl rfl (As := [.int (xs (x3 + 1).toNatClampNeg), .int (xs (x3 + 2).toNatClampNeg)]) (rest := []) rfl hl.1 rfl rfl dL_law_965 (fun H locs hP hD hS => ?_)
  have hP := P_perm (List.perm_append_comm_assoc _ _ _) hP
  have hD := D_perm (List.perm_append_comm_assoc _ _ _) hD
  refine lv_aload_n hx hb dL_law_968 rfl (lv_at hl 2 rfl) ?_
  refine lv_aload_n hx hb dL_law_969 rfl (lv_at hl 0 rfl) ?_
  refine lv_iload_n hx hb dL_law_970 rfl (lv_at hl 3 rfl) ?_
  refine lv_iconst (v := (1 : Int32)) hx hb dL_law_971 (by decide) ?_
  refine lv_iadd hx hb dL_law_972 ?_
  refine va_sld hx hb hX hbl hbA hS h1 dL_law_973 ?_
  refine lv_aload_n hx hb dL_law_974 rfl (lv_at hl 0 rfl) ?_
  refine lv_iload_n hx hb dL_law_975 rfl (lv_at hl 3 rfl) ?_
  refine lv_iconst (v := (2 : Int32)) hx hb dL_law_976 (by decide) ?_
  refine lv_iadd hx hb dL_law_977 ?_
  refine va_sld hx hb hX hbl hbA hS h2 dL_law_978 ?_
  refine kLi (X := fC g q u RQ (va_up C 7 (va_up (va_up (va_up (C 7) 1 (fun _ => v.2.1)) 5 v.2.2.1) 6 v.2.2.2)) CL ++ pF g 20 RQ RF) (ws := wX10 g qm Qm M ML) ⟨hx, hb, hml, hown, hts⟩ (c_X10_write l g qm Qm M (xs (x3 + 1).toNatClampNeg) (xs (x3 + 2).toNatClampNeg) w hw H.size) (gV u_ml_L_133 u_im_X10_write u_se_X10_write u_ini_X10 u_co_X10_write) hd_X10_write ⟨rfl, rfl⟩ hcs hK hP hD hS hA 0 10 rfl rfl [0, 13] [0, 3, 4, 5, 6, 7, 8, 9, 10, 11, 12, 13, 14, 1, 16, 17, 18, 19, 20, 21] rfl rfl 2 rfl (w2 := wX10 g qm Qm (va_up (va_up M 30 (fun _ => w.2.1)) 31 w.2.2) ML) rfl rfl (As := [.int (xs (x3 + 1).toNatClampNeg), .int (xs (x3 + 2).toNatClampNeg)]) (rest := [.int v.1]) rfl hl.1 rfl rfl dL_law_979 (fun H locs hP hD hS => ?_)
  have hP := P_perm (List.perm_append_comm_assoc _ _ _) hP
  have hD := D_perm (List.perm_append_comm_assoc _ _ _) hD
  refine lv_icmp_eq (tgt := 1082) hx hb dL_law_982 (by decide) (fun _ => ?_) (fun c9 => absurd heq c9)
  exact kn H locs ls hP hD hS hl
set_option maxHeartbeats 8000000 in
set_option maxRecDepth 100000 in
theorem L_tear {p : Program} {l : Launch} {e : Env} {s : State} {m : MethodId} {below : List Frame} {meth : Method} {c : Code} {g : gG} {A : Nat → Prop} {Q : State → Prop} {cells slots b L : Nat} {xs : Nat → Int32} (E : EL p s m meth c b L xs g A) (hcs : cells ≤ 600000 ∧ slots ≤ 7302250) (N q qm : Nat) (x3 : Int32) (u RQ : Nat → Ad) (C : Nat → St) (CL : Nat → SL) (RF : Nat → St) (Qm : Ad) (M : St) (ML : SL) (v : Int32 × Int32 × Int32) (w : Int32 × Int32 × Int32) (hv : x_X9_tear (C 0) (C 7) = some v) (hw : x_X10_tear M = some w) (heq : v.1 = w.1) (kn : WL p l e s m below meth c g A Q cells slots 1082 b q qm x3 u RQ (va_up C 7 (va_up (va_up (C 7) 0 (fun _ => v.2.1)) 1 (fun _ => v.2.2))) CL RF Qm (va_up (va_up M 28 (fun _ => w.2.1)) 30 (fun _ => w.2.2)) ML) : WL p l e s m below meth c g A Q cells slots 987 b q qm x3 u RQ C CL RF Qm M ML := by
  obtain ⟨⟨hx, hb, hml, hown, hts⟩, hr, hK, hA, hlk, hX, hbl, hbA, hL⟩ := id E
  intro H locs ls hP hD hS hl
  refine lv_aload_n hx hb dL_law_987 rfl (lv_at hl 1 rfl) ?_
  refine kLi (X := wX10 g qm Qm M ML ++ pF g 20 RQ RF) (ws := fC g q u RQ C CL) ⟨hx, hb, hml, hown, hts⟩ (c_X9_tear l g q (u 0) (u 7) (C 0) (C 7) v hv H.size) (gV u_ml_L_134 u_im_X9_tear u_se_X9_tear u_ini_X9 u_co_X9_tear) hd_X9_tear ⟨rfl, rfl⟩ hcs hK hP hD hS hA 0 9 rfl rfl [0, 32] [0, 3, 4, 5, 6, 7, 8, 9, 10, 11, 12, 13, 14, 15, 16, 17, 18, 19, 20, 21, 22, 23, 24, 25, 26, 27, 28, 29, 30, 31, 32, 33, 1, 35, 36, 37, 38, 39, 40, 41, 42, 43, 44, 45, 46, 47, 48, 49, 50, 51, 52, 53, 54, 55, 56, 57, 58, 59, 60, 61, 62, 63, 64, 65] rfl rfl 2 rfl (w2 := fC g q u RQ (va_up C 7 (va_up (va_up (C 7) 0 (fun _ => v.2.1)) 1 (fun _ => v.2.2))) CL) rfl rfl (As := []) (rest := []) rfl hl.1 rfl rfl dL_law_988 (fun H locs hP hD hS => ?_)
  have hP := P_perm (List.perm_append_comm_assoc _ _ _) hP
  have hD := D_perm (List.perm_append_comm_assoc _ _ _) hD
  refine lv_aload_n hx hb dL_law_991 rfl (lv_at hl 2 rfl) ?_
  refine kLi (X := fC g q u RQ (va_up C 7 (va_up (va_up (C 7) 0 (fun _ => v.2.1)) 1 (fun _ => v.2.2))) CL ++ pF g 20 RQ RF) (ws := wX10 g qm Qm M ML) ⟨hx, hb, hml, hown, hts⟩ (c_X10_tear l g qm Qm M w hw H.size) (gV u_ml_L_137 u_im_X10_tear u_se_X10_tear u_ini_X10 u_co_X10_tear) hd_X10_tear ⟨rfl, rfl⟩ hcs hK hP hD hS hA 0 10 rfl rfl [0] [0, 2, 3, 4, 5, 6, 7, 8, 9, 10, 11, 12, 13, 14, 15, 16, 17, 18, 19, 20] rfl rfl 1 rfl (w2 := wX10 g qm Qm (va_up (va_up M 28 (fun _ => w.2.1)) 30 (fun _ => w.2.2)) ML) rfl rfl (As := []) (rest := [.int v.1]) rfl hl.1 rfl rfl dL_law_992 (fun H locs hP hD hS => ?_)
  have hP := P_perm (List.perm_append_comm_assoc _ _ _) hP
  have hD := D_perm (List.perm_append_comm_assoc _ _ _) hD
  refine lv_icmp_eq (tgt := 1082) hx hb dL_law_995 (by decide) (fun _ => ?_) (fun c9 => absurd heq c9)
  exact kn H locs ls hP hD hS hl
set_option maxHeartbeats 8000000 in
set_option maxRecDepth 100000 in
theorem L_judge {p : Program} {l : Launch} {e : Env} {s : State} {m : MethodId} {below : List Frame} {meth : Method} {c : Code} {g : gG} {A : Nat → Prop} {Q : State → Prop} {cells slots b L : Nat} {xs : Nat → Int32} (E : EL p s m meth c b L xs g A) (hcs : cells ≤ 600000 ∧ slots ≤ 7302250) (N q qm : Nat) (x3 : Int32) (u RQ : Nat → Ad) (C : Nat → St) (CL : Nat → SL) (RF : Nat → St) (Qm : Ad) (M : St) (ML : SL) (v : Int32) (w : Int32) (hv : x_X9_judge N (C 0) (C 4) (C 7) = some v) (hw : x_X10_judge N M = some w) (heq : v = w) (kn : WL p l e s m below meth c g A Q cells slots 1082 b q qm x3 u RQ C CL RF Qm M ML) : WL p l e s m below meth c g A Q cells slots 1000 b q qm x3 u RQ C CL RF Qm M ML := by
  obtain ⟨⟨hx, hb, hml, hown, hts⟩, hr, hK, hA, hlk, hX, hbl, hbA, hL⟩ := id E
  intro H locs ls hP hD hS hl
  refine lv_aload_n hx hb dL_law_1000 rfl (lv_at hl 1 rfl) ?_
  refine kLi (X := wX10 g qm Qm M ML ++ pF g 20 RQ RF) (ws := fC g q u RQ C CL) ⟨hx, hb, hml, hown, hts⟩ (c_X9_judge l g q (u 0) (u 4) (u 7) N (C 0) (C 4) (C 7) v hv H.size) (gV u_ml_L_138 u_im_X9_judge u_se_X9_judge u_ini_X9 u_co_X9_judge) hd_X9_judge ⟨rfl, rfl⟩ hcs hK hP hD hS hA 0 9 rfl rfl [0, 17, 20, 32, 36, 37] [0, 7, 8, 9, 10, 11, 12, 13, 14, 15, 16, 17, 18, 19, 20, 21, 22, 1, 24, 25, 2, 27, 28, 29, 30, 31, 32, 33, 34, 35, 36, 37, 3, 39, 40, 41, 4, 5, 44, 45, 46, 47, 48, 49, 50, 51, 52, 53, 54, 55, 56, 57, 58, 59, 60, 61, 62, 63, 64, 65, 66, 67, 68, 69] rfl rfl 6 rfl (w2 := fC g q u RQ C CL) rfl rfl (As := []) (rest := []) rfl hl.1 rfl rfl dL_law_1001 (fun H locs hP hD hS => ?_)
  have hP := P_perm (List.perm_append_comm_assoc _ _ _) hP
  have hD := D_perm (List.perm_append_comm_assoc _ _ _) hD
  refine lv_aload_n hx hb dL_law_1004 rfl (lv_at hl 2 rfl) ?_
  refine kLi (X := fC g q u RQ C CL ++ pF g 20 RQ RF) (ws := wX10 g qm Qm M ML) ⟨hx, hb, hml, hown, hts⟩ (c_X10_judge l g qm Qm N M w hw H.size) (gV u_ml_L_141 u_im_X10_judge u_se_X10_judge u_ini_X10 u_co_X10_judge) hd_X10_judge ⟨rfl, rfl⟩ hcs hK hP hD hS hA 0 10 rfl rfl [0, 6, 13] [0, 4, 5, 6, 7, 8, 1, 10, 11, 12, 13, 14, 15, 2, 17, 18, 19, 20, 21, 22] rfl rfl 3 rfl (w2 := wX10 g qm Qm M ML) rfl rfl (As := []) (rest := [.int v]) rfl hl.1 rfl rfl dL_law_1005 (fun H locs hP hD hS => ?_)
  have hP := P_perm (List.perm_append_comm_assoc _ _ _) hP
  have hD := D_perm (List.perm_append_comm_assoc _ _ _) hD
  refine lv_icmp_eq (tgt := 1082) hx hb dL_law_1008 (by decide) (fun _ => ?_) (fun c9 => absurd heq c9)
  exact kn H locs ls hP hD hS hl
set_option maxHeartbeats 8000000 in
set_option maxRecDepth 100000 in
theorem L_seed {p : Program} {l : Launch} {e : Env} {s : State} {m : MethodId} {below : List Frame} {meth : Method} {c : Code} {g : gG} {A : Nat → Prop} {Q : State → Prop} {cells slots b L : Nat} {xs : Nat → Int32} (E : EL p s m meth c b L xs g A) (hcs : cells ≤ 600000 ∧ slots ≤ 7302250) (N q qm : Nat) (x3 : Int32) (u RQ : Nat → Ad) (C : Nat → St) (CL : Nat → SL) (RF : Nat → St) (Qm : Ad) (M : St) (ML : SL) (h1 : vp_in (x3 + 1) L) (v : Int32 × Int32) (w : Int32 × Int32) (hv : x_X9_seed (C 0) (xs (x3 + 1).toNatClampNeg) = some v) (hw : x_X10_seed M (xs (x3 + 1).toNatClampNeg) = some w) (heq : v.1 = w.1) (kn : WL p l e s m below meth c g A Q cells slots 1082 b q qm x3 u RQ (va_up C 0 (va_up (C 0) 10 (fun _ => v.2))) CL RF Qm (va_up M 27 (fun _ => w.2)) ML) : WL p l e s m below meth c g A Q cells slots 1013 b q qm x3 u RQ C CL RF Qm M ML := by
  obtain ⟨⟨hx, hb, hml, hown, hts⟩, hr, hK, hA, hlk, hX, hbl, hbA, hL⟩ := id E
  intro H locs ls hP hD hS hl
  refine lv_aload_n hx hb dL_law_1013 rfl (lv_at hl 1 rfl) ?_
  refine lv_aload_n hx hb dL_law_1014 rfl (lv_at hl 0 rfl) ?_
  refine lv_iload_n hx hb dL_law_1015 rfl (lv_at hl 3 rfl) ?_
  refine lv_iconst (v := (1 : Int32)) hx hb dL_law_1016 (by decide) ?_
  refine lv_iadd hx hb dL_law_1017 ?_
  refine va_sld hx hb hX hbl hbA hS h1 dL_law_1018 ?_
  refine kLi (X := wX10 g qm Qm M ML ++ pF g 20 RQ RF) (ws := fC g q u RQ C CL) ⟨hx, hb, hml, hown, hts⟩ (c_X9_seed l g q (u 0) (C 0) (xs (x3 + 1).toNatClampNeg) v hv H.size) (gV u_ml_L_142 u_im_X9_seed u_se_X9_seed u_ini_X9 u_co_X9_seed) hd_X9_seed ⟨rfl, rfl⟩ hcs hK hP hD hS hA 0 9 rfl rfl [0] [0, 2, 3, 4, 5, 6, 7, 8, 9, 10, 11, 12, 13, 14, 15, 16, 17, 18, 19, 20, 21, 22, 23, 24, 25, 26, 27, 28, 29, 30, 31, 32, 33, 34, 35, 36, 37, 38, 39, 40, 41, 42, 43, 44, 45, 46, 47, 48, 49, 50, 51, 52, 53, 54, 55, 56, 57, 58, 59, 60, 61, 62, 63, 64] rfl rfl 1 rfl (w2 := fC g q u RQ (va_up C 0 (va_up (C 0) 10 (fun _ => v.2))) CL) rfl rfl (As := [.int (xs (x3 + 1).toNatClampNeg)]) (rest := []) rfl hl.1 rfl rfl dL_law_1019 (fun H locs hP hD hS => ?_)
  have hP := P_perm (List.perm_append_comm_assoc _ _ _) hP
  have hD := D_perm (List.perm_append_comm_assoc _ _ _) hD
  refine lv_aload_n hx hb dL_law_1022 rfl (lv_at hl 2 rfl) ?_
  refine lv_aload_n hx hb dL_law_1023 rfl (lv_at hl 0 rfl) ?_
  refine lv_iload_n hx hb dL_law_1024 rfl (lv_at hl 3 rfl) ?_
  refine lv_iconst (v := (1 : Int32)) hx hb dL_law_1025 (by decide) ?_
  refine lv_iadd hx hb dL_law_1026 ?_
  refine va_sld hx hb hX hbl hbA hS h1 dL_law_1027 ?_
  refine kLi (X := fC g q u RQ (va_up C 0 (va_up (C 0) 10 (fun _ => v.2))) CL ++ pF g 20 RQ RF) (ws := wX10 g qm Qm M ML) ⟨hx, hb, hml, hown, hts⟩ (c_X10_seed l g qm Qm M (xs (x3 + 1).toNatClampNeg) w hw H.size) (gV u_ml_L_145 u_im_X10_seed u_se_X10_seed u_ini_X10 u_co_X10_seed) hd_X10_seed ⟨rfl, rfl⟩ hcs hK hP hD hS hA 0 10 rfl rfl [0] [0, 2, 3, 4, 5, 6, 7, 8, 9, 10, 11, 12, 13, 14, 15, 16, 17, 18, 19, 20] rfl rfl 1 rfl (w2 := wX10 g qm Qm (va_up M 27 (fun _ => w.2)) ML) rfl rfl (As := [.int (xs (x3 + 1).toNatClampNeg)]) (rest := [.int v.1]) rfl hl.1 rfl rfl dL_law_1028 (fun H locs hP hD hS => ?_)
  have hP := P_perm (List.perm_append_comm_assoc _ _ _) hP
  have hD := D_perm (List.perm_append_comm_assoc _ _ _) hD
  refine lv_icmp_eq (tgt := 1082) hx hb dL_law_1031 (by decide) (fun _ => ?_) (fun c9 => absurd heq c9)
  exact kn H locs ls hP hD hS hl
set_option maxHeartbeats 8000000 in
set_option maxRecDepth 100000 in
theorem L_keep0 {p : Program} {l : Launch} {e : Env} {s : State} {m : MethodId} {below : List Frame} {meth : Method} {c : Code} {g : gG} {A : Nat → Prop} {Q : State → Prop} {cells slots b L : Nat} {xs : Nat → Int32} (E : EL p s m meth c b L xs g A) (hcs : cells ≤ 600000 ∧ slots ≤ 7302250) (N q qm : Nat) (x3 : Int32) (u RQ : Nat → Ad) (C : Nat → St) (CL : Nat → SL) (RF : Nat → St) (Qm : Ad) (M : St) (ML : SL) (h1 : vp_in (x3 + 1) L) (v : Int32 × Int32 × Int32 × Int32 × Int32 × (Nat → Int32) × (Nat → Int32) × (Nat → Int32) × (Nat → Int32) × (Nat → Int32) × Int32) (w : Int32 × Int32 × (Nat → Int32) × (Nat → Int32) × (Nat → Int32)) (hv : x_X9_keep (u 12 7) (C 0) (fun i => some (u (12 + i) 7)) (C 4) (C 12) (C 14) (C 6) (xs (x3 + 1).toNatClampNeg) = some v) (hw : x_X10_keep N M (xs (x3 + 1).toNatClampNeg) = some w) (heq : v.1 = w.1) (kn : WL p l e s m below meth c g A Q cells slots 1082 b q qm x3 u RQ (va_up (va_up (va_up C 12 (va_up (va_up (C 12) 0 (fun _ => v.2.1)) 1 (fun _ => v.2.2.1))) 14 (va_up (va_up (va_up (va_up (va_up (va_up (va_up (C 14) 0 (fun _ => v.2.2.2.1)) 1 (fun _ => v.2.2.2.2.1)) 2 v.2.2.2.2.2.1) 3 v.2.2.2.2.2.2.1) 4 v.2.2.2.2.2.2.2.1) 5 v.2.2.2.2.2.2.2.2.1) 6 v.2.2.2.2.2.2.2.2.2.1)) 6 (va_up (C 6) 0 (fun _ => v.2.2.2.2.2.2.2.2.2.2))) CL RF Qm (va_up (va_up (va_up (va_up M 23 (fun _ => w.2.1)) 24 w.2.2.1) 25 w.2.2.2.1) 26 w.2.2.2.2) ML) : WL p l e s m below meth c g A Q cells slots 1036 b q qm x3 u RQ C CL RF Qm M ML := by
  obtain ⟨⟨hx, hb, hml, hown, hts⟩, hr, hK, hA, hlk, hX, hbl, hbA, hL⟩ := id E
  intro H locs ls hP hD hS hl
  refine lv_aload_n hx hb dL_law_1036 rfl (lv_at hl 1 rfl) ?_
  refine lv_aload_n hx hb dL_law_1037 rfl (lv_at hl 0 rfl) ?_
  refine lv_iload_n hx hb dL_law_1038 rfl (lv_at hl 3 rfl) ?_
  refine lv_iconst (v := (1 : Int32)) hx hb dL_law_1039 (by decide) ?_
  refine lv_iadd hx hb dL_law_1040 ?_
  refine va_sld hx hb hX hbl hbA hS h1 dL_law_1041 ?_
  refine kLi (X := wX10 g qm Qm M ML ++ pF g 20 RQ RF) (ws := fC g q u RQ C CL) ⟨hx, hb, hml, hown, hts⟩ (c_X9_keep l g q (u 0) (u 4) (u 12) (u 14) (u 6) (u 12 7) (C 0) (fun i => some (u (12 + i) 7)) (C 4) (C 12) (C 14) (C 6) (xs (x3 + 1).toNatClampNeg) v hv H.size) (gV u_ml_L_146 u_im_X9_keep u_se_X9_keep u_ini_X9 u_co_X9_keep) hd_X9_keep ⟨rfl, rfl⟩ hcs hK hP hD hS hA 0 9 rfl rfl [0, 31, 17, 18, 19, 20, 21, 22, 50, 51, 52, 53, 54, 55, 56, 29] [0, 17, 18, 19, 20, 21, 22, 23, 24, 25, 26, 27, 28, 29, 30, 31, 32, 2, 3, 4, 5, 6, 7, 39, 40, 41, 42, 43, 44, 15, 46, 1, 48, 49, 50, 51, 52, 53, 54, 55, 56, 57, 58, 59, 60, 61, 62, 63, 64, 65, 8, 9, 10, 11, 12, 13, 14, 73, 74, 75, 76, 77, 78, 79] rfl rfl 16 rfl (w2 := fC g q u RQ (va_up (va_up (va_up C 12 (va_up (va_up (C 12) 0 (fun _ => v.2.1)) 1 (fun _ => v.2.2.1))) 14 (va_up (va_up (va_up (va_up (va_up (va_up (va_up (C 14) 0 (fun _ => v.2.2.2.1)) 1 (fun _ => v.2.2.2.2.1)) 2 v.2.2.2.2.2.1) 3 v.2.2.2.2.2.2.1) 4 v.2.2.2.2.2.2.2.1) 5 v.2.2.2.2.2.2.2.2.1) 6 v.2.2.2.2.2.2.2.2.2.1)) 6 (va_up (C 6) 0 (fun _ => v.2.2.2.2.2.2.2.2.2.2))) CL) rfl rfl (As := [.int (xs (x3 + 1).toNatClampNeg)]) (rest := []) rfl hl.1 rfl rfl dL_law_1042 (fun H locs hP hD hS => ?_)
  have hP := P_perm (List.perm_append_comm_assoc _ _ _) hP
  have hD := D_perm (List.perm_append_comm_assoc _ _ _) hD
  refine lv_aload_n hx hb dL_law_1045 rfl (lv_at hl 2 rfl) ?_
  refine lv_aload_n hx hb dL_law_1046 rfl (lv_at hl 0 rfl) ?_
  refine lv_iload_n hx hb dL_law_1047 rfl (lv_at hl 3 rfl) ?_
  refine lv_iconst (v := (1 : Int32)) hx hb dL_law_1048 (by decide) ?_
  refine lv_iadd hx hb dL_law_1049 ?_
  refine va_sld hx hb hX hbl hbA hS h1 dL_law_1050 ?_
  refine kLi (X := fC g q u RQ (va_up (va_up (va_up C 12 (va_up (va_up (C 12) 0 (fun _ => v.2.1)) 1 (fun _ => v.2.2.1))) 14 (va_up (va_up (va_up (va_up (va_up (va_up (va_up (C 14) 0 (fun _ => v.2.2.2.1)) 1 (fun _ => v.2.2.2.2.1)) 2 v.2.2.2.2.2.1) 3 v.2.2.2.2.2.2.1) 4 v.2.2.2.2.2.2.2.1) 5 v.2.2.2.2.2.2.2.2.1) 6 v.2.2.2.2.2.2.2.2.2.1)) 6 (va_up (C 6) 0 (fun _ => v.2.2.2.2.2.2.2.2.2.2))) CL ++ pF g 20 RQ RF) (ws := wX10 g qm Qm M ML) ⟨hx, hb, hml, hown, hts⟩ (c_X10_keep l g qm Qm N M (xs (x3 + 1).toNatClampNeg) w hw H.size) (gV u_ml_L_149 u_im_X10_keep u_se_X10_keep u_ini_X10 u_co_X10_keep) hd_X10_keep ⟨rfl, rfl⟩ hcs hK hP hD hS hA 0 10 rfl rfl [0, 6, 9, 10, 11] [0, 6, 7, 8, 9, 10, 1, 12, 13, 2, 3, 4, 17, 18, 19, 20, 21, 22, 23, 24] rfl rfl 5 rfl (w2 := wX10 g qm Qm (va_up (va_up (va_up (va_up M 23 (fun _ => w.2.1)) 24 w.2.2.1) 25 w.2.2.2.1) 26 w.2.2.2.2) ML) rfl rfl (As := [.int (xs (x3 + 1).toNatClampNeg)]) (rest := [.int v.1]) rfl hl.1 rfl rfl dL_law_1051 (fun H locs hP hD hS => ?_)
  have hP := P_perm (List.perm_append_comm_assoc _ _ _) hP
  have hD := D_perm (List.perm_append_comm_assoc _ _ _) hD
  refine lv_icmp_eq (tgt := 1082) hx hb dL_law_1054 (by decide) (fun _ => ?_) (fun c9 => absurd heq c9)
  exact kn H locs ls hP hD hS hl
set_option maxHeartbeats 8000000 in
set_option maxRecDepth 100000 in
theorem L_keep1 {p : Program} {l : Launch} {e : Env} {s : State} {m : MethodId} {below : List Frame} {meth : Method} {c : Code} {g : gG} {A : Nat → Prop} {Q : State → Prop} {cells slots b L : Nat} {xs : Nat → Int32} (E : EL p s m meth c b L xs g A) (hcs : cells ≤ 600000 ∧ slots ≤ 7302250) (N q qm : Nat) (x3 : Int32) (u RQ : Nat → Ad) (C : Nat → St) (CL : Nat → SL) (RF : Nat → St) (Qm : Ad) (M : St) (ML : SL) (h1 : vp_in (x3 + 1) L) (v : Int32 × Int32 × Int32 × Int32 × Int32 × (Nat → Int32) × (Nat → Int32) × (Nat → Int32) × (Nat → Int32) × (Nat → Int32) × Int32) (w : Int32 × Int32 × (Nat → Int32) × (Nat → Int32) × (Nat → Int32)) (hv : x_X9_keep (u 13 7) (C 0) (fun i => some (u (12 + i) 7)) (C 4) (C 13) (C 15) (C 6) (xs (x3 + 1).toNatClampNeg) = some v) (hw : x_X10_keep N M (xs (x3 + 1).toNatClampNeg) = some w) (heq : v.1 = w.1) (kn : WL p l e s m below meth c g A Q cells slots 1082 b q qm x3 u RQ (va_up (va_up (va_up C 13 (va_up (va_up (C 13) 0 (fun _ => v.2.1)) 1 (fun _ => v.2.2.1))) 15 (va_up (va_up (va_up (va_up (va_up (va_up (va_up (C 15) 0 (fun _ => v.2.2.2.1)) 1 (fun _ => v.2.2.2.2.1)) 2 v.2.2.2.2.2.1) 3 v.2.2.2.2.2.2.1) 4 v.2.2.2.2.2.2.2.1) 5 v.2.2.2.2.2.2.2.2.1) 6 v.2.2.2.2.2.2.2.2.2.1)) 6 (va_up (C 6) 0 (fun _ => v.2.2.2.2.2.2.2.2.2.2))) CL RF Qm (va_up (va_up (va_up (va_up M 23 (fun _ => w.2.1)) 24 w.2.2.1) 25 w.2.2.2.1) 26 w.2.2.2.2) ML) : WL p l e s m below meth c g A Q cells slots 1036 b q qm x3 u RQ C CL RF Qm M ML := by
  obtain ⟨⟨hx, hb, hml, hown, hts⟩, hr, hK, hA, hlk, hX, hbl, hbA, hL⟩ := id E
  intro H locs ls hP hD hS hl
  refine lv_aload_n hx hb dL_law_1036 rfl (lv_at hl 1 rfl) ?_
  refine lv_aload_n hx hb dL_law_1037 rfl (lv_at hl 0 rfl) ?_
  refine lv_iload_n hx hb dL_law_1038 rfl (lv_at hl 3 rfl) ?_
  refine lv_iconst (v := (1 : Int32)) hx hb dL_law_1039 (by decide) ?_
  refine lv_iadd hx hb dL_law_1040 ?_
  refine va_sld hx hb hX hbl hbA hS h1 dL_law_1041 ?_
  refine kLi (X := wX10 g qm Qm M ML ++ pF g 20 RQ RF) (ws := fC g q u RQ C CL) ⟨hx, hb, hml, hown, hts⟩ (c_X9_keep l g q (u 0) (u 4) (u 13) (u 15) (u 6) (u 13 7) (C 0) (fun i => some (u (12 + i) 7)) (C 4) (C 13) (C 15) (C 6) (xs (x3 + 1).toNatClampNeg) v hv H.size) (gV u_ml_L_146 u_im_X9_keep u_se_X9_keep u_ini_X9 u_co_X9_keep) hd_X9_keep ⟨rfl, rfl⟩ hcs hK hP hD hS hA 0 9 rfl rfl [0, 31, 17, 18, 19, 20, 21, 22, 57, 58, 59, 60, 61, 62, 63, 29] [0, 17, 18, 19, 20, 21, 22, 23, 24, 25, 26, 27, 28, 29, 30, 31, 32, 2, 3, 4, 5, 6, 7, 39, 40, 41, 42, 43, 44, 15, 46, 1, 48, 49, 50, 51, 52, 53, 54, 55, 56, 57, 58, 59, 60, 61, 62, 63, 64, 65, 66, 67, 68, 69, 70, 71, 72, 8, 9, 10, 11, 12, 13, 14] rfl rfl 16 rfl (w2 := fC g q u RQ (va_up (va_up (va_up C 13 (va_up (va_up (C 13) 0 (fun _ => v.2.1)) 1 (fun _ => v.2.2.1))) 15 (va_up (va_up (va_up (va_up (va_up (va_up (va_up (C 15) 0 (fun _ => v.2.2.2.1)) 1 (fun _ => v.2.2.2.2.1)) 2 v.2.2.2.2.2.1) 3 v.2.2.2.2.2.2.1) 4 v.2.2.2.2.2.2.2.1) 5 v.2.2.2.2.2.2.2.2.1) 6 v.2.2.2.2.2.2.2.2.2.1)) 6 (va_up (C 6) 0 (fun _ => v.2.2.2.2.2.2.2.2.2.2))) CL) rfl rfl (As := [.int (xs (x3 + 1).toNatClampNeg)]) (rest := []) rfl hl.1 rfl rfl dL_law_1042 (fun H locs hP hD hS => ?_)
  have hP := P_perm (List.perm_append_comm_assoc _ _ _) hP
  have hD := D_perm (List.perm_append_comm_assoc _ _ _) hD
  refine lv_aload_n hx hb dL_law_1045 rfl (lv_at hl 2 rfl) ?_
  refine lv_aload_n hx hb dL_law_1046 rfl (lv_at hl 0 rfl) ?_
  refine lv_iload_n hx hb dL_law_1047 rfl (lv_at hl 3 rfl) ?_
  refine lv_iconst (v := (1 : Int32)) hx hb dL_law_1048 (by decide) ?_
  refine lv_iadd hx hb dL_law_1049 ?_
  refine va_sld hx hb hX hbl hbA hS h1 dL_law_1050 ?_
  refine kLi (X := fC g q u RQ (va_up (va_up (va_up C 13 (va_up (va_up (C 13) 0 (fun _ => v.2.1)) 1 (fun _ => v.2.2.1))) 15 (va_up (va_up (va_up (va_up (va_up (va_up (va_up (C 15) 0 (fun _ => v.2.2.2.1)) 1 (fun _ => v.2.2.2.2.1)) 2 v.2.2.2.2.2.1) 3 v.2.2.2.2.2.2.1) 4 v.2.2.2.2.2.2.2.1) 5 v.2.2.2.2.2.2.2.2.1) 6 v.2.2.2.2.2.2.2.2.2.1)) 6 (va_up (C 6) 0 (fun _ => v.2.2.2.2.2.2.2.2.2.2))) CL ++ pF g 20 RQ RF) (ws := wX10 g qm Qm M ML) ⟨hx, hb, hml, hown, hts⟩ (c_X10_keep l g qm Qm N M (xs (x3 + 1).toNatClampNeg) w hw H.size) (gV u_ml_L_149 u_im_X10_keep u_se_X10_keep u_ini_X10 u_co_X10_keep) hd_X10_keep ⟨rfl, rfl⟩ hcs hK hP hD hS hA 0 10 rfl rfl [0, 6, 9, 10, 11] [0, 6, 7, 8, 9, 10, 1, 12, 13, 2, 3, 4, 17, 18, 19, 20, 21, 22, 23, 24] rfl rfl 5 rfl (w2 := wX10 g qm Qm (va_up (va_up (va_up (va_up M 23 (fun _ => w.2.1)) 24 w.2.2.1) 25 w.2.2.2.1) 26 w.2.2.2.2) ML) rfl rfl (As := [.int (xs (x3 + 1).toNatClampNeg)]) (rest := [.int v.1]) rfl hl.1 rfl rfl dL_law_1051 (fun H locs hP hD hS => ?_)
  have hP := P_perm (List.perm_append_comm_assoc _ _ _) hP
  have hD := D_perm (List.perm_append_comm_assoc _ _ _) hD
  refine lv_icmp_eq (tgt := 1082) hx hb dL_law_1054 (by decide) (fun _ => ?_) (fun c9 => absurd heq c9)
  exact kn H locs ls hP hD hS hl
set_option maxHeartbeats 8000000 in
set_option maxRecDepth 100000 in
theorem L_goBack0 {p : Program} {l : Launch} {e : Env} {s : State} {m : MethodId} {below : List Frame} {meth : Method} {c : Code} {g : gG} {A : Nat → Prop} {Q : State → Prop} {cells slots b L : Nat} {xs : Nat → Int32} (E : EL p s m meth c b L xs g A) (hcs : cells ≤ 600000 ∧ slots ≤ 7302250) (N q qm : Nat) (x3 : Int32) (u RQ : Nat → Ad) (C : Nat → St) (CL : Nat → SL) (RF : Nat → St) (Qm : Ad) (M : St) (ML : SL) (h1 : vp_in (x3 + 1) L) (v : Int32 × Int32 × Int32 × Int32 × (Nat → Int32) × (Nat → Int32) × (Nat → Int32) × (Nat → Int32) × (Nat → Int32) × Int32) (w : Int32 × (Nat → Int32) × Int32 × Int32) (hv : x_X9_goBack (u 12 7) (C 0) (fun i => some (u (12 + i) 7)) (C 4) (C 12) (C 14) (C 6) (xs (x3 + 1).toNatClampNeg) = some v) (hw : x_X10_goBack N M (xs (x3 + 1).toNatClampNeg) = some w) (heq : v.1 = w.1) (kn : WL p l e s m below meth c g A Q cells slots 1082 b q qm x3 u RQ (va_up (va_up (va_up C 0 (va_up (C 0) 10 (fun _ => v.2.1))) 4 (va_up (va_up (va_up (va_up (va_up (va_up (va_up (C 4) 0 (fun _ => v.2.2.1)) 1 (fun _ => v.2.2.2.1)) 2 v.2.2.2.2.1) 3 v.2.2.2.2.2.1) 4 v.2.2.2.2.2.2.1) 5 v.2.2.2.2.2.2.2.1) 6 v.2.2.2.2.2.2.2.2.1)) 6 (va_up (C 6) 0 (fun _ => v.2.2.2.2.2.2.2.2.2))) CL RF Qm (va_up (va_up (va_up M 20 w.2.1) 23 (fun _ => w.2.2.1)) 27 (fun _ => w.2.2.2)) ML) : WL p l e s m below meth c g A Q cells slots 1059 b q qm x3 u RQ C CL RF Qm M ML := by
  obtain ⟨⟨hx, hb, hml, hown, hts⟩, hr, hK, hA, hlk, hX, hbl, hbA, hL⟩ := id E
  intro H locs ls hP hD hS hl
  refine lv_aload_n hx hb dL_law_1059 rfl (lv_at hl 1 rfl) ?_
  refine lv_aload_n hx hb dL_law_1060 rfl (lv_at hl 0 rfl) ?_
  refine lv_iload_n hx hb dL_law_1061 rfl (lv_at hl 3 rfl) ?_
  refine lv_iconst (v := (1 : Int32)) hx hb dL_law_1062 (by decide) ?_
  refine lv_iadd hx hb dL_law_1063 ?_
  refine va_sld hx hb hX hbl hbA hS h1 dL_law_1064 ?_
  refine kLi (X := wX10 g qm Qm M ML ++ pF g 20 RQ RF) (ws := fC g q u RQ C CL) ⟨hx, hb, hml, hown, hts⟩ (c_X9_goBack l g q (u 0) (u 4) (u 12) (u 14) (u 6) (u 12 7) (C 0) (fun i => some (u (12 + i) 7)) (C 4) (C 12) (C 14) (C 6) (xs (x3 + 1).toNatClampNeg) v hv H.size) (gV u_ml_L_150 u_im_X9_goBack u_se_X9_goBack u_ini_X9 u_co_X9_goBack) hd_X9_goBack ⟨rfl, rfl⟩ hcs hK hP hD hS hA 0 9 rfl rfl [0, 31, 17, 18, 19, 20, 21, 22, 50, 51, 52, 53, 54, 55, 56, 29] [0, 17, 18, 19, 20, 21, 22, 23, 24, 25, 26, 27, 28, 29, 30, 31, 32, 2, 3, 4, 5, 6, 7, 39, 40, 41, 42, 43, 44, 15, 46, 1, 48, 49, 50, 51, 52, 53, 54, 55, 56, 57, 58, 59, 60, 61, 62, 63, 64, 65, 8, 9, 10, 11, 12, 13, 14, 73, 74, 75, 76, 77, 78, 79] rfl rfl 16 rfl (w2 := fC g q u RQ (va_up (va_up (va_up C 0 (va_up (C 0) 10 (fun _ => v.2.1))) 4 (va_up (va_up (va_up (va_up (va_up (va_up (va_up (C 4) 0 (fun _ => v.2.2.1)) 1 (fun _ => v.2.2.2.1)) 2 v.2.2.2.2.1) 3 v.2.2.2.2.2.1) 4 v.2.2.2.2.2.2.1) 5 v.2.2.2.2.2.2.2.1) 6 v.2.2.2.2.2.2.2.2.1)) 6 (va_up (C 6) 0 (fun _ => v.2.2.2.2.2.2.2.2.2))) CL) rfl rfl (As := [.int (xs (x3 + 1).toNatClampNeg)]) (rest := []) rfl hl.1 rfl rfl dL_law_1065 (fun H locs hP hD hS => ?_)
  have hP := P_perm (List.perm_append_comm_assoc _ _ _) hP
  have hD := D_perm (List.perm_append_comm_assoc _ _ _) hD
  refine lv_aload_n hx hb dL_law_1068 rfl (lv_at hl 2 rfl) ?_
  refine lv_aload_n hx hb dL_law_1069 rfl (lv_at hl 0 rfl) ?_
  refine lv_iload_n hx hb dL_law_1070 rfl (lv_at hl 3 rfl) ?_
  refine lv_iconst (v := (1 : Int32)) hx hb dL_law_1071 (by decide) ?_
  refine lv_iadd hx hb dL_law_1072 ?_
  refine va_sld hx hb hX hbl hbA hS h1 dL_law_1073 ?_
  refine kLi (X := fC g q u RQ (va_up (va_up (va_up C 0 (va_up (C 0) 10 (fun _ => v.2.1))) 4 (va_up (va_up (va_up (va_up (va_up (va_up (va_up (C 4) 0 (fun _ => v.2.2.1)) 1 (fun _ => v.2.2.2.1)) 2 v.2.2.2.2.1) 3 v.2.2.2.2.2.1) 4 v.2.2.2.2.2.2.1) 5 v.2.2.2.2.2.2.2.1) 6 v.2.2.2.2.2.2.2.2.1)) 6 (va_up (C 6) 0 (fun _ => v.2.2.2.2.2.2.2.2.2))) CL ++ pF g 20 RQ RF) (ws := wX10 g qm Qm M ML) ⟨hx, hb, hml, hown, hts⟩ (c_X10_goBack l g qm Qm N M (xs (x3 + 1).toNatClampNeg) w hw H.size) (gV u_ml_L_153 u_im_X10_goBack u_se_X10_goBack u_ini_X10 u_co_X10_goBack) hd_X10_goBack ⟨rfl, rfl⟩ hcs hK hP hD hS hA 0 10 rfl rfl [0, 6, 9, 10, 11] [0, 6, 7, 8, 9, 10, 1, 12, 13, 2, 3, 4, 17, 18, 19, 20, 21, 22, 23, 24] rfl rfl 5 rfl (w2 := wX10 g qm Qm (va_up (va_up (va_up M 20 w.2.1) 23 (fun _ => w.2.2.1)) 27 (fun _ => w.2.2.2)) ML) rfl rfl (As := [.int (xs (x3 + 1).toNatClampNeg)]) (rest := [.int v.1]) rfl hl.1 rfl rfl dL_law_1074 (fun H locs hP hD hS => ?_)
  have hP := P_perm (List.perm_append_comm_assoc _ _ _) hP
  have hD := D_perm (List.perm_append_comm_assoc _ _ _) hD
  refine lv_icmp_eq (tgt := 1082) hx hb dL_law_1077 (by decide) (fun _ => ?_) (fun c9 => absurd heq c9)
  exact kn H locs ls hP hD hS hl
set_option maxHeartbeats 8000000 in
set_option maxRecDepth 100000 in
theorem L_goBack1 {p : Program} {l : Launch} {e : Env} {s : State} {m : MethodId} {below : List Frame} {meth : Method} {c : Code} {g : gG} {A : Nat → Prop} {Q : State → Prop} {cells slots b L : Nat} {xs : Nat → Int32} (E : EL p s m meth c b L xs g A) (hcs : cells ≤ 600000 ∧ slots ≤ 7302250) (N q qm : Nat) (x3 : Int32) (u RQ : Nat → Ad) (C : Nat → St) (CL : Nat → SL) (RF : Nat → St) (Qm : Ad) (M : St) (ML : SL) (h1 : vp_in (x3 + 1) L) (v : Int32 × Int32 × Int32 × Int32 × (Nat → Int32) × (Nat → Int32) × (Nat → Int32) × (Nat → Int32) × (Nat → Int32) × Int32) (w : Int32 × (Nat → Int32) × Int32 × Int32) (hv : x_X9_goBack (u 13 7) (C 0) (fun i => some (u (12 + i) 7)) (C 4) (C 13) (C 15) (C 6) (xs (x3 + 1).toNatClampNeg) = some v) (hw : x_X10_goBack N M (xs (x3 + 1).toNatClampNeg) = some w) (heq : v.1 = w.1) (kn : WL p l e s m below meth c g A Q cells slots 1082 b q qm x3 u RQ (va_up (va_up (va_up C 0 (va_up (C 0) 10 (fun _ => v.2.1))) 4 (va_up (va_up (va_up (va_up (va_up (va_up (va_up (C 4) 0 (fun _ => v.2.2.1)) 1 (fun _ => v.2.2.2.1)) 2 v.2.2.2.2.1) 3 v.2.2.2.2.2.1) 4 v.2.2.2.2.2.2.1) 5 v.2.2.2.2.2.2.2.1) 6 v.2.2.2.2.2.2.2.2.1)) 6 (va_up (C 6) 0 (fun _ => v.2.2.2.2.2.2.2.2.2))) CL RF Qm (va_up (va_up (va_up M 20 w.2.1) 23 (fun _ => w.2.2.1)) 27 (fun _ => w.2.2.2)) ML) : WL p l e s m below meth c g A Q cells slots 1059 b q qm x3 u RQ C CL RF Qm M ML := by
  obtain ⟨⟨hx, hb, hml, hown, hts⟩, hr, hK, hA, hlk, hX, hbl, hbA, hL⟩ := id E
  intro H locs ls hP hD hS hl
  refine lv_aload_n hx hb dL_law_1059 rfl (lv_at hl 1 rfl) ?_
  refine lv_aload_n hx hb dL_law_1060 rfl (lv_at hl 0 rfl) ?_
  refine lv_iload_n hx hb dL_law_1061 rfl (lv_at hl 3 rfl) ?_
  refine lv_iconst (v := (1 : Int32)) hx hb dL_law_1062 (by decide) ?_
  refine lv_iadd hx hb dL_law_1063 ?_
  refine va_sld hx hb hX hbl hbA hS h1 dL_law_1064 ?_
  refine kLi (X := wX10 g qm Qm M ML ++ pF g 20 RQ RF) (ws := fC g q u RQ C CL) ⟨hx, hb, hml, hown, hts⟩ (c_X9_goBack l g q (u 0) (u 4) (u 13) (u 15) (u 6) (u 13 7) (C 0) (fun i => some (u (12 + i) 7)) (C 4) (C 13) (C 15) (C 6) (xs (x3 + 1).toNatClampNeg) v hv H.size) (gV u_ml_L_150 u_im_X9_goBack u_se_X9_goBack u_ini_X9 u_co_X9_goBack) hd_X9_goBack ⟨rfl, rfl⟩ hcs hK hP hD hS hA 0 9 rfl rfl [0, 31, 17, 18, 19, 20, 21, 22, 57, 58, 59, 60, 61, 62, 63, 29] [0, 17, 18, 19, 20, 21, 22, 23, 24, 25, 26, 27, 28, 29, 30, 31, 32, 2, 3, 4, 5, 6, 7, 39, 40, 41, 42, 43, 44, 15, 46, 1, 48, 49, 50, 51, 52, 53, 54, 55, 56, 57, 58, 59, 60, 61, 62, 63, 64, 65, 66, 67, 68, 69, 70, 71, 72, 8, 9, 10, 11, 12, 13, 14] rfl rfl 16 rfl (w2 := fC g q u RQ (va_up (va_up (va_up C 0 (va_up (C 0) 10 (fun _ => v.2.1))) 4 (va_up (va_up (va_up (va_up (va_up (va_up (va_up (C 4) 0 (fun _ => v.2.2.1)) 1 (fun _ => v.2.2.2.1)) 2 v.2.2.2.2.1) 3 v.2.2.2.2.2.1) 4 v.2.2.2.2.2.2.1) 5 v.2.2.2.2.2.2.2.1) 6 v.2.2.2.2.2.2.2.2.1)) 6 (va_up (C 6) 0 (fun _ => v.2.2.2.2.2.2.2.2.2))) CL) rfl rfl (As := [.int (xs (x3 + 1).toNatClampNeg)]) (rest := []) rfl hl.1 rfl rfl dL_law_1065 (fun H locs hP hD hS => ?_)
  have hP := P_perm (List.perm_append_comm_assoc _ _ _) hP
  have hD := D_perm (List.perm_append_comm_assoc _ _ _) hD
  refine lv_aload_n hx hb dL_law_1068 rfl (lv_at hl 2 rfl) ?_
  refine lv_aload_n hx hb dL_law_1069 rfl (lv_at hl 0 rfl) ?_
  refine lv_iload_n hx hb dL_law_1070 rfl (lv_at hl 3 rfl) ?_
  refine lv_iconst (v := (1 : Int32)) hx hb dL_law_1071 (by decide) ?_
  refine lv_iadd hx hb dL_law_1072 ?_
  refine va_sld hx hb hX hbl hbA hS h1 dL_law_1073 ?_
  refine kLi (X := fC g q u RQ (va_up (va_up (va_up C 0 (va_up (C 0) 10 (fun _ => v.2.1))) 4 (va_up (va_up (va_up (va_up (va_up (va_up (va_up (C 4) 0 (fun _ => v.2.2.1)) 1 (fun _ => v.2.2.2.1)) 2 v.2.2.2.2.1) 3 v.2.2.2.2.2.1) 4 v.2.2.2.2.2.2.1) 5 v.2.2.2.2.2.2.2.1) 6 v.2.2.2.2.2.2.2.2.1)) 6 (va_up (C 6) 0 (fun _ => v.2.2.2.2.2.2.2.2.2))) CL ++ pF g 20 RQ RF) (ws := wX10 g qm Qm M ML) ⟨hx, hb, hml, hown, hts⟩ (c_X10_goBack l g qm Qm N M (xs (x3 + 1).toNatClampNeg) w hw H.size) (gV u_ml_L_153 u_im_X10_goBack u_se_X10_goBack u_ini_X10 u_co_X10_goBack) hd_X10_goBack ⟨rfl, rfl⟩ hcs hK hP hD hS hA 0 10 rfl rfl [0, 6, 9, 10, 11] [0, 6, 7, 8, 9, 10, 1, 12, 13, 2, 3, 4, 17, 18, 19, 20, 21, 22, 23, 24] rfl rfl 5 rfl (w2 := wX10 g qm Qm (va_up (va_up (va_up M 20 w.2.1) 23 (fun _ => w.2.2.1)) 27 (fun _ => w.2.2.2)) ML) rfl rfl (As := [.int (xs (x3 + 1).toNatClampNeg)]) (rest := [.int v.1]) rfl hl.1 rfl rfl dL_law_1074 (fun H locs hP hD hS => ?_)
  have hP := P_perm (List.perm_append_comm_assoc _ _ _) hP
  have hD := D_perm (List.perm_append_comm_assoc _ _ _) hD
  refine lv_icmp_eq (tgt := 1082) hx hb dL_law_1077 (by decide) (fun _ => ?_) (fun c9 => absurd heq c9)
  exact kn H locs ls hP hD hS hl
