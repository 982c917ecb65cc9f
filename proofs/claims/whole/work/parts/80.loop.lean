theorem law_next {p : Program} {l : Launch} {e : Env} {s : State} {m : MethodId} {below : List Frame} {meth : Method} {c : Code} {g : gG} {A : Nat → Prop} {Q : State → Prop} {cells slots b L : Nat} {xs : Nat → Int32} (E : EL p s m meth c b L xs g A) {q qm n : Nat} {u RQ : Nat → Ad} {C : Nat → St} {CL : Nat → SL} {RF : Nat → St} {Qm : Ad} {M : St} {ML : SL} (k : WL p l e s m below meth c g A Q cells slots 18 b q qm (nI (4 * (n + 1))) u RQ C CL RF Qm M ML) : WL p l e s m below meth c g A Q cells slots 1082 b q qm (nI (4 * n)) u RQ C CL RF Qm M ML := by
  obtain ⟨⟨hx, hb, hml, hown, hts⟩, hr, hK, hA, hlk, hX, hbl, hbA, hL⟩ := id E
  intro H locs ls hP hD hS hl
  refine lv_iinc (v := nI (4 * (n + 1))) (lv' := [(3, .int (nI (4 * (n + 1)))), (0, .ref b), (1, .ref q), (2, .ref qm)]) hx hb dL_law_1082 hl (k := 3) rfl (by rw [show 4 * (n + 1) = 4 * n + 4 by omega, ← nI_add]; rfl) (by decide) rfl (fun ls hl => ?_)
  refine lv_goto (tgt := 18) hx hb dL_law_1085 (by decide) ?_
  exact k H locs ls hP hD hS (lv_sub hl [1, 2, 3, 0] rfl)
theorem law_in {L n k : Nat} (hL : L ≤ 256) (h : 4 * n + k < L) : vp_in (nI (4 * n) + nI k) L := by
  rw [nI_add]
  exact vp_in_nI h (by omega)
set_option maxHeartbeats 8000000 in
set_option maxRecDepth 100000 in
theorem law_loop {p : Program} {l : Launch} {e : Env} {s : State} {m : MethodId} {below : List Frame} {meth : Method} {c : Code} {g : gG} {cells slots b L : Nat} {xs : Nat → Int32} (E : EL p s m meth c b L xs g (fun q : Nat => s.heap.size ≤ q)) (hcs : cells ≤ 600000 ∧ slots ≤ 7302250) {N : Nat} (hN : 4096 ≤ N) (q qm : Nat) (Qm : Ad) :
    ∀ (k n : Nat), L < 4 * (n + k) → ∀ (u RQ : Nat → Ad) (C : Nat → St) (CL : Nat → SL) (RF : Nat → St) (M : St) (ML : SL), Rel n C RF M → WL p l e s m below meth c g (fun q : Nat => s.heap.size ≤ q) (lw_Z below #[Value.ref b] s) cells slots 18 b q qm (nI (4 * n)) u RQ C CL RF Qm M ML := by
  obtain ⟨⟨hx, hb, hml, hown, hts⟩, hr, hK, hA, hlk, hX, hbl, hbA, hL⟩ := id E
  intro k
  induction k with
  | zero =>
    intro n hk u RQ C CL RF M ML hR H locs ls hP hD hS hl
    refine lv_iload_n hx hb dL_law_18 rfl (lv_at hl 3 rfl) ?_
    refine lv_aload_n hx hb dL_law_19 rfl (lv_at hl 0 rfl) ?_
    refine va_slen hx hb hX hbl hbA hS dL_law_20 ?_
    refine lv_iconst (v := (4 : Int32)) hx hb dL_law_21 (by decide) ?_
    refine lv_isub hx hb dL_law_22 ?_
    refine lv_icmp_gt (tgt := 1088) hx hb dL_law_23 (by decide) (fun c0 => ?_) (fun c0 => absurd (law_out hL (Rel_n hR) (by omega)) c0)
    refine lv_iconst (v := 1) hx hb dL_law_1088 (by decide) ?_
    refine va_forget (fun q hq => hS.2.2 q hq) ?_
    refine W.widen (k := 600000) (n := 7302250) hcs.1 hcs.2 ?_
    exact lw_ret hx hb hr hlk dL_law_1089
  | succ k ih =>
    intro n hk u RQ C CL RF M ML hR H locs ls hP hD hS hl
    refine lv_iload_n hx hb dL_law_18 rfl (lv_at hl 3 rfl) ?_
    refine lv_aload_n hx hb dL_law_19 rfl (lv_at hl 0 rfl) ?_
    refine va_slen hx hb hX hbl hbA hS dL_law_20 ?_
    refine lv_iconst (v := (4 : Int32)) hx hb dL_law_21 (by decide) ?_
    refine lv_isub hx hb dL_law_22 ?_
    refine lv_icmp_gt (tgt := 1088) hx hb dL_law_23 (by decide) (fun c0 => ?_) (fun c0 => ?_)
    · refine lv_iconst (v := 1) hx hb dL_law_1088 (by decide) ?_
      refine va_forget (fun q hq => hS.2.2 q hq) ?_
      refine W.widen (k := 600000) (n := 7302250) hcs.1 hcs.2 ?_
      exact lw_ret hx hb hr hlk dL_law_1089
    have hlt : 4 * n + 3 < L := law_more hL (Rel_n hR) c0
    have hn : n < 64 := by omega
    have h0 : vp_in (nI (4 * n)) L := vp_in_nI (by omega) (by omega)
    have h1 : vp_in (nI (4 * n) + 1) L := law_in (k := 1) hL (by omega)
    have h2 : vp_in (nI (4 * n) + 2) L := law_in (k := 2) hL (by omega)
    have h3 : vp_in (nI (4 * n) + 3) L := law_in (k := 3) hL (by omega)
    have ih := fun u RQ C CL RF M ML => ih (n + 1) (by omega) u RQ C CL RF M ML
    refine lv_aload_n hx hb dL_law_26 rfl (lv_at hl 0 rfl) ?_
    refine lv_iload_n hx hb dL_law_27 rfl (lv_at hl 3 rfl) ?_
    refine va_sld hx hb hX hbl hbA hS h0 dL_law_28 ?_
    refine lv_bipush (v := (63 : Int32)) hx hb dL_law_29 (by decide) ?_
    refine lv_iand hx hb dL_law_31 ?_
    refine lv_topi (fun op eop => ?_)
    have hkr := Rel_kr hR
    have hkp := Rel_kp hR
    by_cases o0 : op = 0
    · refine lv_tableIn (off := 152) (tgt := 184) hx hb dL_law_32 (by rw [o0]; decide) (by rw [o0]; decide) (by rw [o0]; rfl) (by decide) ?_
      obtain ⟨v, w, hv, hw, heq, hR2⟩ := P_feed hN hn hR (xs (nI (4 * n) + 1).toNatClampNeg)
      exact L_feed E hcs N q qm _ u RQ C CL RF Qm M ML h1 v w hv hw heq (law_next E (ih _ _ _ _ _ _ _ hR2)) H locs ls hP hD hS hl
    by_cases o1 : op = 1
    · refine lv_tableIn (off := 175) (tgt := 207) hx hb dL_law_32 (by rw [o1]; decide) (by rw [o1]; decide) (by rw [o1]; rfl) (by decide) ?_
      obtain ⟨v, w, hv, hw, heq, hR2⟩ := P_works hN hn hR u
      refine L_works E hcs N q qm _ u RQ C CL RF Qm M ML v w hv hw heq ?_ H locs ls hP hD hS hl
      rcases hR2 with ⟨e1, e2, hR2⟩ | ⟨e1, e2, hR2⟩
      · rw [e1, e2]; exact works_same (law_next E (ih _ _ _ _ _ _ _ hR2))
      · rw [e1, e2]; exact works_swap (law_next E (ih _ _ _ _ _ _ _ hR2))
    by_cases o2 : op = 2
    · refine lv_tableIn (off := 188) (tgt := 220) hx hb dL_law_32 (by rw [o2]; decide) (by rw [o2]; decide) (by rw [o2]; rfl) (by decide) ?_
      obtain ⟨v, w, hv, hw, heq, hR2⟩ := P_fault hN hn hR
      exact L_fault E hcs N q qm _ u RQ C CL RF Qm M ML v w hv hw heq (law_next E (ih _ _ _ _ _ _ _ hR2)) H locs ls hP hD hS hl
    by_cases o3 : op = 3
    · refine lv_tableIn (off := 201) (tgt := 233) hx hb dL_law_32 (by rw [o3]; decide) (by rw [o3]; decide) (by rw [o3]; rfl) (by decide) ?_
      obtain ⟨v, w, hv, hw, heq, hR2⟩ := P_told hN hn hR (xs (nI (4 * n) + 1).toNatClampNeg)
      exact L_told E hcs N q qm _ u RQ C CL RF Qm M ML h1 v w hv hw heq (law_next E (ih _ _ _ _ _ _ _ hR2)) H locs ls hP hD hS hl
    by_cases o4 : op = 4
    · refine lv_tableIn (off := 224) (tgt := 256) hx hb dL_law_32 (by rw [o4]; decide) (by rw [o4]; decide) (by rw [o4]; rfl) (by decide) ?_
      obtain ⟨v, w, hv, hw, heq, hR2⟩ := P_place hN hn hR (xs (nI (4 * n) + 1).toNatClampNeg) (xs (nI (4 * n) + 2).toNatClampNeg)
      exact L_place E hcs N q qm _ u RQ C CL RF Qm M ML h1 h2 v w hv hw heq (law_next E (ih _ _ _ _ _ _ _ hR2)) H locs ls hP hD hS hl
    by_cases o5 : op = 5
    · refine lv_tableIn (off := 257) (tgt := 289) hx hb dL_law_32 (by rw [o5]; decide) (by rw [o5]; decide) (by rw [o5]; rfl) (by decide) ?_
      obtain ⟨v, w, hv, hw, heq, hR2⟩ := P_channel hN hn hR (xs (nI (4 * n) + 1).toNatClampNeg) (xs (nI (4 * n) + 2).toNatClampNeg)
      exact L_channel E hcs N q qm _ u RQ C CL RF Qm M ML h1 h2 v w hv hw heq (law_next E (ih _ _ _ _ _ _ _ hR2)) H locs ls hP hD hS hl
    by_cases o6 : op = 6
    · refine lv_tableIn (off := 290) (tgt := 322) hx hb dL_law_32 (by rw [o6]; decide) (by rw [o6]; decide) (by rw [o6]; rfl) (by decide) ?_
      obtain ⟨v, w, hv, hw, heq, hR2⟩ := P_first hN hn hR (xs (nI (4 * n) + 1).toNatClampNeg) (xs (nI (4 * n) + 2).toNatClampNeg)
      exact L_first E hcs N q qm _ u RQ C CL RF Qm M ML h1 h2 v w hv hw heq (law_next E (ih _ _ _ _ _ _ _ hR2)) H locs ls hP hD hS hl
    by_cases o7 : op = 7
    · refine lv_tableIn (off := 323) (tgt := 355) hx hb dL_law_32 (by rw [o7]; decide) (by rw [o7]; decide) (by rw [o7]; rfl) (by decide) ?_
      obtain ⟨v, w, hv, hw, heq, hR2⟩ := P_letIn hN hn hR RQ (xs (nI (4 * n) + 1).toNatClampNeg)
      exact L_letIn E hcs N q qm _ u RQ C CL RF Qm M ML h1 (kr C) hkr v w hv hw heq (law_next E (ih _ _ _ _ _ _ _ hR2)) H locs ls hP hD hS hl
    by_cases o8 : op = 8
    · refine lv_tableIn (off := 346) (tgt := 378) hx hb dL_law_32 (by rw [o8]; decide) (by rw [o8]; decide) (by rw [o8]; rfl) (by decide) ?_
      obtain ⟨v, w, hv, hw, heq, hR2⟩ := P_hour hN hn hR RQ (xs (nI (4 * n) + 1).toNatClampNeg)
      exact L_hour E hcs N q qm _ u RQ C CL RF Qm M ML h1 (kr C) hkr v w hv hw heq (law_next E (ih _ _ _ _ _ _ _ hR2)) H locs ls hP hD hS hl
    by_cases o9 : op = 9
    · refine lv_tableIn (off := 369) (tgt := 401) hx hb dL_law_32 (by rw [o9]; decide) (by rw [o9]; decide) (by rw [o9]; rfl) (by decide) ?_
      obtain ⟨v, w, hv, hw, heq, hR2⟩ := P_gate hN hn hR RQ (xs (nI (4 * n) + 1).toNatClampNeg) (bz (xs (nI (4 * n) + 2).toNatClampNeg)) (bz_01 _)
      exact L_gate E hcs N q qm _ u RQ C CL RF Qm M ML h1 h2 (kr C) hkr v w hv hw heq (law_next E (ih _ _ _ _ _ _ _ hR2)) H locs ls hP hD hS hl
    by_cases o10 : op = 10
    · refine lv_tableIn (off := 418) (tgt := 450) hx hb dL_law_32 (by rw [o10]; decide) (by rw [o10]; decide) (by rw [o10]; rfl) (by decide) ?_
      obtain ⟨v, w, hv, hw, heq, hR2⟩ := P_clear hN hn hR RQ (xs (nI (4 * n) + 1).toNatClampNeg)
      exact L_clear E hcs N q qm _ u RQ C CL RF Qm M ML h1 (kr C) hkr v w hv hw heq (law_next E (ih _ _ _ _ _ _ _ hR2)) H locs ls hP hD hS hl
    by_cases o11 : op = 11
    · refine lv_tableIn (off := 441) (tgt := 473) hx hb dL_law_32 (by rw [o11]; decide) (by rw [o11]; decide) (by rw [o11]; rfl) (by decide) ?_
      obtain ⟨v, w, hv, hw, heq, hR2⟩ := P_crack hN hn hR RQ (xs (nI (4 * n) + 1).toNatClampNeg) (xs (nI (4 * n) + 2).toNatClampNeg)
      exact L_crack E hcs N q qm _ u RQ C CL RF Qm M ML h1 h2 (kr C) hkr v w hv hw heq (law_next E (ih _ _ _ _ _ _ _ hR2)) H locs ls hP hD hS hl
    by_cases o12 : op = 12
    · refine lv_tableIn (off := 474) (tgt := 506) hx hb dL_law_32 (by rw [o12]; decide) (by rw [o12]; decide) (by rw [o12]; rfl) (by decide) ?_
      obtain ⟨v, w, hv, hw, heq, hR2⟩ := P_empty hN hn hR RQ
      exact L_empty E hcs N q qm _ u RQ C CL RF Qm M ML (kr C) hkr v w hv hw heq (law_next E (ih _ _ _ _ _ _ _ hR2)) H locs ls hP hD hS hl
    by_cases o13 : op = 13
    · refine lv_tableIn (off := 487) (tgt := 519) hx hb dL_law_32 (by rw [o13]; decide) (by rw [o13]; decide) (by rw [o13]; rfl) (by decide) ?_
      obtain ⟨v, w, hv, hw, heq, hR2⟩ := P_drift hN hn hR RQ (xs (nI (4 * n) + 1).toNatClampNeg)
      exact L_drift E hcs N q qm _ u RQ C CL RF Qm M ML h1 (kr C) hkr v w hv hw heq (law_next E (ih _ _ _ _ _ _ _ hR2)) H locs ls hP hD hS hl
    by_cases o14 : op = 14
    · refine lv_tableIn (off := 510) (tgt := 542) hx hb dL_law_32 (by rw [o14]; decide) (by rw [o14]; decide) (by rw [o14]; rfl) (by decide) ?_
      obtain ⟨v, w, hv, hw, heq, hR2⟩ := P_undo hN hn hR RQ
      exact L_undo E hcs N q qm _ u RQ C CL RF Qm M ML (kp C) hkp v w hv hw heq (law_next E (ih _ _ _ _ _ _ _ hR2)) H locs ls hP hD hS hl
    by_cases o15 : op = 15
    · refine lv_tableIn (off := 523) (tgt := 555) hx hb dL_law_32 (by rw [o15]; decide) (by rw [o15]; decide) (by rw [o15]; rfl) (by decide) ?_
      obtain ⟨v, w, hv, hw, heq, hR2⟩ := P_hears hN hn hR (xs (nI (4 * n) + 1).toNatClampNeg) (xs (nI (4 * n) + 2).toNatClampNeg)
      exact L_hears E hcs N q qm _ u RQ C CL RF Qm M ML h1 h2 v w hv hw heq (law_next E (ih _ _ _ _ _ _ _ hR2)) H locs ls hP hD hS hl
    by_cases o16 : op = 16
    · refine lv_tableIn (off := 556) (tgt := 588) hx hb dL_law_32 (by rw [o16]; decide) (by rw [o16]; decide) (by rw [o16]; rfl) (by decide) ?_
      obtain ⟨v, w, hv, hw, heq, hR2⟩ := P_soonest hN hn hR (xs (nI (4 * n) + 1).toNatClampNeg) (xs (nI (4 * n) + 2).toNatClampNeg)
      exact L_soonest E hcs N q qm _ u RQ C CL RF Qm M ML h1 h2 v w hv hw heq (law_next E (ih _ _ _ _ _ _ _ hR2)) H locs ls hP hD hS hl
    by_cases o17 : op = 17
    · refine lv_tableIn (off := 589) (tgt := 621) hx hb dL_law_32 (by rw [o17]; decide) (by rw [o17]; decide) (by rw [o17]; rfl) (by decide) ?_
      obtain ⟨v, w, hv, hw, heq, hR2⟩ := P_gates hN hn hR CL (xs (nI (4 * n) + 1).toNatClampNeg) (xs (nI (4 * n) + 2).toNatClampNeg) (xs (nI (4 * n) + 3).toNatClampNeg)
      exact L_gates E hcs N q qm _ u RQ C CL RF Qm M ML h1 h2 h3 v w hv hw heq (law_next E (ih _ _ _ _ _ _ _ hR2)) H locs ls hP hD hS hl
    by_cases o18 : op = 18
    · refine lv_tableIn (off := 632) (tgt := 664) hx hb dL_law_32 (by rw [o18]; decide) (by rw [o18]; decide) (by rw [o18]; rfl) (by decide) ?_
      obtain ⟨v, w, hv, hw, heq, hR2⟩ := P_cut hN hn hR CL (xs (nI (4 * n) + 1).toNatClampNeg) (xs (nI (4 * n) + 2).toNatClampNeg) (xs (nI (4 * n) + 3).toNatClampNeg)
      exact L_cut E hcs N q qm _ u RQ C CL RF Qm M ML h1 h2 h3 v w hv hw heq (law_next E (ih _ _ _ _ _ _ _ hR2)) H locs ls hP hD hS hl
    by_cases o19 : op = 19
    · refine lv_tableIn (off := 675) (tgt := 707) hx hb dL_law_32 (by rw [o19]; decide) (by rw [o19]; decide) (by rw [o19]; rfl) (by decide) ?_
      obtain ⟨v, w, hv, hw, heq, hR2⟩ := P_meet hN hn hR CL ML (xs (nI (4 * n) + 1).toNatClampNeg) (xs (nI (4 * n) + 2).toNatClampNeg) (xs (nI (4 * n) + 3).toNatClampNeg)
      exact L_meet E hcs N q qm _ u RQ C CL RF Qm M ML h1 h2 h3 v w hv hw heq (law_next E (ih _ _ _ _ _ _ _ hR2)) H locs ls hP hD hS hl
    by_cases o20 : op = 20
    · refine lv_tableIn (off := 718) (tgt := 750) hx hb dL_law_32 (by rw [o20]; decide) (by rw [o20]; decide) (by rw [o20]; rfl) (by decide) ?_
      obtain ⟨v, w, hv, hw, heq, hR2⟩ := P_longest hN hn hR (xs (nI (4 * n) + 1).toNatClampNeg)
      exact L_longest E hcs N q qm _ u RQ C CL RF Qm M ML h1 v w hv hw heq (law_next E (ih _ _ _ _ _ _ _ hR2)) H locs ls hP hD hS hl
    by_cases o21 : op = 21
    · refine lv_tableIn (off := 741) (tgt := 773) hx hb dL_law_32 (by rw [o21]; decide) (by rw [o21]; decide) (by rw [o21]; rfl) (by decide) ?_
      obtain ⟨v, w, hv, hw, heq, hR2⟩ := P_ways hN hn hR (xs (nI (4 * n) + 1).toNatClampNeg)
      exact L_ways E hcs N q qm _ u RQ C CL RF Qm M ML h1 v w hv hw heq (law_next E (ih _ _ _ _ _ _ _ hR2)) H locs ls hP hD hS hl
    by_cases o22 : op = 22
    · refine lv_tableIn (off := 764) (tgt := 796) hx hb dL_law_32 (by rw [o22]; decide) (by rw [o22]; decide) (by rw [o22]; rfl) (by decide) ?_
      obtain ⟨v, w, hv, hw, heq, hR2⟩ := P_firstBlocked hN hn hR
      exact L_firstBlocked E hcs N q qm _ u RQ C CL RF Qm M ML v w hv hw heq (law_next E (ih _ _ _ _ _ _ _ hR2)) H locs ls hP hD hS hl
    by_cases o23 : op = 23
    · refine lv_tableIn (off := 777) (tgt := 809) hx hb dL_law_32 (by rw [o23]; decide) (by rw [o23]; decide) (by rw [o23]; rfl) (by decide) ?_
      obtain ⟨v, w, hv, hw, heq, hR2⟩ := P_share hN hn hR (xs (nI (4 * n) + 1).toNatClampNeg)
      exact L_share E hcs N q qm _ u RQ C CL RF Qm M ML h1 v w hv hw heq (law_next E (ih _ _ _ _ _ _ _ hR2)) H locs ls hP hD hS hl
    by_cases o24 : op = 24
    · refine lv_tableIn (off := 800) (tgt := 832) hx hb dL_law_32 (by rw [o24]; decide) (by rw [o24]; decide) (by rw [o24]; rfl) (by decide) ?_
      obtain ⟨v, w, hv, hw, heq, hR2⟩ := P_frost hN hn hR (xs (nI (4 * n) + 1).toNatClampNeg) (xs (nI (4 * n) + 2).toNatClampNeg)
      exact L_frost E hcs N q qm _ u RQ C CL RF Qm M ML h1 h2 v w hv hw heq (law_next E (ih _ _ _ _ _ _ _ hR2)) H locs ls hP hD hS hl
    by_cases o25 : op = 25
    · refine lv_tableIn (off := 833) (tgt := 865) hx hb dL_law_32 (by rw [o25]; decide) (by rw [o25]; decide) (by rw [o25]; rfl) (by decide) ?_
      obtain ⟨v, w, hv, hw, heq, hR2⟩ := P_drip hN hn hR (xs (nI (4 * n) + 1).toNatClampNeg) (xs (nI (4 * n) + 2).toNatClampNeg) (xs (nI (4 * n) + 3).toNatClampNeg)
      exact L_drip E hcs N q qm _ u RQ C CL RF Qm M ML h1 h2 h3 v w hv hw heq (law_next E (ih _ _ _ _ _ _ _ hR2)) H locs ls hP hD hS hl
    by_cases o26 : op = 26
    · refine lv_tableIn (off := 876) (tgt := 908) hx hb dL_law_32 (by rw [o26]; decide) (by rw [o26]; decide) (by rw [o26]; rfl) (by decide) ?_
      obtain ⟨v, w, hv, hw, heq, hR2⟩ := P_cracked hN hn hR CL (xs (nI (4 * n) + 1).toNatClampNeg)
      exact L_cracked E hcs N q qm _ u RQ C CL RF Qm M ML h1 v w hv hw heq (law_next E (ih _ _ _ _ _ _ _ hR2)) H locs ls hP hD hS hl
    by_cases o27 : op = 27
    · refine lv_tableIn (off := 899) (tgt := 931) hx hb dL_law_32 (by rw [o27]; decide) (by rw [o27]; decide) (by rw [o27]; rfl) (by decide) ?_
      obtain ⟨v, w, hv, hw, heq, hR2⟩ := P_listen hN hn hR CL (xs (nI (4 * n) + 1).toNatClampNeg)
      exact L_listen E hcs N q qm _ u RQ C CL RF Qm M ML h1 v w hv hw heq (law_next E (ih _ _ _ _ _ _ _ hR2)) H locs ls hP hD hS hl
    by_cases o28 : op = 28
    · refine lv_tableIn (off := 922) (tgt := 954) hx hb dL_law_32 (by rw [o28]; decide) (by rw [o28]; decide) (by rw [o28]; rfl) (by decide) ?_
      obtain ⟨v, w, hv, hw, heq, hR2⟩ := P_write hN hn hR (xs (nI (4 * n) + 1).toNatClampNeg) (xs (nI (4 * n) + 2).toNatClampNeg)
      exact L_write E hcs N q qm _ u RQ C CL RF Qm M ML h1 h2 v w hv hw heq (law_next E (ih _ _ _ _ _ _ _ hR2)) H locs ls hP hD hS hl
    by_cases o29 : op = 29
    · refine lv_tableIn (off := 955) (tgt := 987) hx hb dL_law_32 (by rw [o29]; decide) (by rw [o29]; decide) (by rw [o29]; rfl) (by decide) ?_
      obtain ⟨v, w, hv, hw, heq, hR2⟩ := P_tear hN hn hR
      exact L_tear E hcs N q qm _ u RQ C CL RF Qm M ML v w hv hw heq (law_next E (ih _ _ _ _ _ _ _ hR2)) H locs ls hP hD hS hl
    by_cases o30 : op = 30
    · refine lv_tableIn (off := 968) (tgt := 1000) hx hb dL_law_32 (by rw [o30]; decide) (by rw [o30]; decide) (by rw [o30]; rfl) (by decide) ?_
      obtain ⟨v, w, hv, hw, heq, hR2⟩ := P_judge hN hn hR
      exact L_judge E hcs N q qm _ u RQ C CL RF Qm M ML v w hv hw heq (law_next E (ih _ _ _ _ _ _ _ hR2)) H locs ls hP hD hS hl
    by_cases o31 : op = 31
    · refine lv_tableIn (off := 981) (tgt := 1013) hx hb dL_law_32 (by rw [o31]; decide) (by rw [o31]; decide) (by rw [o31]; rfl) (by decide) ?_
      obtain ⟨v, w, hv, hw, heq, hR2⟩ := P_seed hN hn hR (xs (nI (4 * n) + 1).toNatClampNeg)
      exact L_seed E hcs N q qm _ u RQ C CL RF Qm M ML h1 v w hv hw heq (law_next E (ih _ _ _ _ _ _ _ hR2)) H locs ls hP hD hS hl
    by_cases o32 : op = 32
    · refine lv_tableIn (off := 1004) (tgt := 1036) hx hb dL_law_32 (by rw [o32]; decide) (by rw [o32]; decide) (by rw [o32]; rfl) (by decide) ?_
      by_cases hi : (xs (nI (4 * n) + 1).toNatClampNeg) = 1
      · obtain ⟨v, w, hv, hw, heq, hR2⟩ := P_keep1 hN hn hR u (xs (nI (4 * n) + 1).toNatClampNeg) hi
        exact L_keep1 E hcs N q qm _ u RQ C CL RF Qm M ML h1 v w hv hw heq (law_next E (ih _ _ _ _ _ _ _ hR2)) H locs ls hP hD hS hl
      · obtain ⟨v, w, hv, hw, heq, hR2⟩ := P_keep0 hN hn hR u (xs (nI (4 * n) + 1).toNatClampNeg) hi
        exact L_keep0 E hcs N q qm _ u RQ C CL RF Qm M ML h1 v w hv hw heq (law_next E (ih _ _ _ _ _ _ _ hR2)) H locs ls hP hD hS hl
    by_cases o33 : op = 33
    · refine lv_tableIn (off := 1027) (tgt := 1059) hx hb dL_law_32 (by rw [o33]; decide) (by rw [o33]; decide) (by rw [o33]; rfl) (by decide) ?_
      by_cases hi : (xs (nI (4 * n) + 1).toNatClampNeg) = 1
      · obtain ⟨v, w, hv, hw, heq, hR2⟩ := P_goBack1 hN hn hR u (xs (nI (4 * n) + 1).toNatClampNeg) hi
        exact L_goBack1 E hcs N q qm _ u RQ C CL RF Qm M ML h1 v w hv hw heq (law_next E (ih _ _ _ _ _ _ _ hR2)) H locs ls hP hD hS hl
      · obtain ⟨v, w, hv, hw, heq, hR2⟩ := P_goBack0 hN hn hR u (xs (nI (4 * n) + 1).toNatClampNeg) hi
        exact L_goBack0 E hcs N q qm _ u RQ C CL RF Qm M ML h1 v w hv hw heq (law_next E (ih _ _ _ _ _ _ _ hR2)) H locs ls hP hD hS hl
    refine lv_tableOut (tgt := 1082) hx hb dL_law_32 (tsw_out (hi := 33) (lt_s (lt_s (lt_s (lt_s (lt_s (lt_s (lt_s (lt_s (lt_s (lt_s (lt_s (lt_s (lt_s (lt_s (lt_s (lt_s (lt_s (lt_s (lt_s (lt_s (lt_s (lt_s (lt_s (lt_s (lt_s (lt_s (lt_s (lt_s (lt_s (lt_s (lt_s (lt_s (lt_s (lt_s lt_0 o0) o1) o2) o3) o4) o5) o6) o7) o8) o9) o10) o11) o12) o13) o14) o15) o16) o17) o18) o19) o20) o21) o22) o23) o24) o25) o26) o27) o28) o29) o30) o31) o32) o33)) (by decide) ?_
    exact law_next E (ih _ _ _ _ _ _ _ (Rel_step hn hR)) H locs ls hP hD hS hl
