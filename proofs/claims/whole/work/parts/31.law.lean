/-- the class's cells, one by one -/
abbrev fC (g : gG) (q : Nat) (u RQ : Nat → Ad) (C : Nat → St) (CL : Nat → SL) : va_W := [oX9 q (u 0) (C 0 10 0), oX5 (u 0 0) (u 1) (C 1 1 0) (C 1 2 0) (C 1 3 0) (C 1 4 0) (C 1 5 0), ia g (u 1 0) 240 (C 1 0), oX4 (u 0 1) (u 2) (C 2 0 0) (C 2 1 0) (C 2 2 0), ia g (u 2 3) 8 (C 2 3), ia g (u 2 4) 8 (C 2 4), ia g (u 2 5) 10 (C 2 5), ia g (u 2 6) 10 (C 2 6), ia g (u 2 7) 10 (C 2 7), ia g (u 2 8) 10 (C 2 8), oX4 (u 0 2) (u 3) (C 3 0 0) (C 3 1 0) (C 3 2 0), ia g (u 3 3) 8 (C 3 3), ia g (u 3 4) 8 (C 3 4), ia g (u 3 5) 10 (C 3 5), ia g (u 3 6) 10 (C 3 6), ia g (u 3 7) 10 (C 3 7), ia g (u 3 8) 10 (C 3 8), oX0 (u 0 3) (u 4) (C 4 0 0) (C 4 1 0), ia g (u 4 2) 10 (C 4 2), ia g (u 4 3) 10 (C 4 3), ia g (u 4 4) 8 (C 4 4), ia g (u 4 5) 64 (C 4 5), ia g (u 4 6) 80 (C 4 6), oX0 (u 0 4) (u 5) (C 5 0 0) (C 5 1 0), ia g (u 5 2) 10 (C 5 2), ia g (u 5 3) 10 (C 5 3), ia g (u 5 4) 8 (C 5 4), ia g (u 5 5) 64 (C 5 5), ia g (u 5 6) 80 (C 5 6), oX3 (u 0 5) (u 6) (C 6 0 0) (C 6 1 0), raF g (u 6 2) 20 (fun i => some (RQ i 7)), raI g (u 0 6) 2 (fun i => some (u (12 + i) 7)), oX2 (u 0 7) (u 7) (C 7 0 0) (C 7 1 0), ia g (u 7 2) 6 (C 7 2), ia g (u 7 3) 6 (C 7 3), ia g (u 7 4) 6 (C 7 4), ia g (u 7 5) 15 (C 7 5), ia g (u 7 6) 15 (C 7 6), oX7 (u 0 8) (u 8), oX8 (u 8 0) (u 9), la g (u 9 0) 8 (CL 9 0), la g (u 9 1) 8 (CL 9 1), oX8 (u 8 1) (u 10), la g (u 10 0) 8 (CL 10 0), la g (u 10 1) 8 (CL 10 1), ia g (u 8 2) 10 (C 8 2), ia g (u 8 3) 88 (C 8 3), oX6 (u 0 9) (u 11), ia g (u 11 0) 8 (C 11 0), ia g (u 11 1) 8 (C 11 1), oX1 (u 12 7) (u 12) (C 12 0 0) (C 12 1 0), oX0 (u 12 2) (u 14) (C 14 0 0) (C 14 1 0), ia g (u 14 2) 10 (C 14 2), ia g (u 14 3) 10 (C 14 3), ia g (u 14 4) 8 (C 14 4), ia g (u 14 5) 64 (C 14 5), ia g (u 14 6) 80 (C 14 6), oX1 (u 13 7) (u 13) (C 13 0 0) (C 13 1 0), oX0 (u 13 2) (u 15) (C 15 0 0) (C 15 1 0), ia g (u 15 2) 10 (C 15 2), ia g (u 15 3) 10 (C 15 3), ia g (u 15 4) 8 (C 15 4), ia g (u 15 5) 64 (C 15 5), ia g (u 15 6) 80 (C 15 6)]
/-- the same, with other references to the two plans -/
abbrev fCx (g : gG) (q : Nat) (u RQ : Nat → Ad) (a1 a2 : Nat) (C : Nat → St) (CL : Nat → SL) : va_W := [oX9 q (va_up (va_up (u 0) 1 a1) 2 a2) (C 0 10 0), oX5 (u 0 0) (u 1) (C 1 1 0) (C 1 2 0) (C 1 3 0) (C 1 4 0) (C 1 5 0), ia g (u 1 0) 240 (C 1 0), oX4 (u 0 1) (u 2) (C 2 0 0) (C 2 1 0) (C 2 2 0), ia g (u 2 3) 8 (C 2 3), ia g (u 2 4) 8 (C 2 4), ia g (u 2 5) 10 (C 2 5), ia g (u 2 6) 10 (C 2 6), ia g (u 2 7) 10 (C 2 7), ia g (u 2 8) 10 (C 2 8), oX4 (u 0 2) (u 3) (C 3 0 0) (C 3 1 0) (C 3 2 0), ia g (u 3 3) 8 (C 3 3), ia g (u 3 4) 8 (C 3 4), ia g (u 3 5) 10 (C 3 5), ia g (u 3 6) 10 (C 3 6), ia g (u 3 7) 10 (C 3 7), ia g (u 3 8) 10 (C 3 8), oX0 (u 0 3) (u 4) (C 4 0 0) (C 4 1 0), ia g (u 4 2) 10 (C 4 2), ia g (u 4 3) 10 (C 4 3), ia g (u 4 4) 8 (C 4 4), ia g (u 4 5) 64 (C 4 5), ia g (u 4 6) 80 (C 4 6), oX0 (u 0 4) (u 5) (C 5 0 0) (C 5 1 0), ia g (u 5 2) 10 (C 5 2), ia g (u 5 3) 10 (C 5 3), ia g (u 5 4) 8 (C 5 4), ia g (u 5 5) 64 (C 5 5), ia g (u 5 6) 80 (C 5 6), oX3 (u 0 5) (u 6) (C 6 0 0) (C 6 1 0), raF g (u 6 2) 20 (fun i => some (RQ i 7)), raI g (u 0 6) 2 (fun i => some (u (12 + i) 7)), oX2 (u 0 7) (u 7) (C 7 0 0) (C 7 1 0), ia g (u 7 2) 6 (C 7 2), ia g (u 7 3) 6 (C 7 3), ia g (u 7 4) 6 (C 7 4), ia g (u 7 5) 15 (C 7 5), ia g (u 7 6) 15 (C 7 6), oX7 (u 0 8) (u 8), oX8 (u 8 0) (u 9), la g (u 9 0) 8 (CL 9 0), la g (u 9 1) 8 (CL 9 1), oX8 (u 8 1) (u 10), la g (u 10 0) 8 (CL 10 0), la g (u 10 1) 8 (CL 10 1), ia g (u 8 2) 10 (C 8 2), ia g (u 8 3) 88 (C 8 3), oX6 (u 0 9) (u 11), ia g (u 11 0) 8 (C 11 0), ia g (u 11 1) 8 (C 11 1), oX1 (u 12 7) (u 12) (C 12 0 0) (C 12 1 0), oX0 (u 12 2) (u 14) (C 14 0 0) (C 14 1 0), ia g (u 14 2) 10 (C 14 2), ia g (u 14 3) 10 (C 14 3), ia g (u 14 4) 8 (C 14 4), ia g (u 14 5) 64 (C 14 5), ia g (u 14 6) 80 (C 14 6), oX1 (u 13 7) (u 13) (C 13 0 0) (C 13 1 0), oX0 (u 13 2) (u 15) (C 15 0 0) (C 15 1 0), ia g (u 15 2) 10 (C 15 2), ia g (u 15 3) 10 (C 15 3), ia g (u 15 4) 8 (C 15 4), ia g (u 15 5) 64 (C 15 5), ia g (u 15 6) 80 (C 15 6)]
theorem fC_eq (g : gG) (q : Nat) (u RQ : Nat → Ad) (C : Nat → St) (CL : Nat → SL) : fGA g q u RQ C CL = fC g q u RQ C CL := rfl
/-- the law's world: the class, the reference, the ring's flows -/
abbrev lW (g : gG) (q : Nat) (u RQ : Nat → Ad) (C : Nat → St) (CL : Nat → SL) (RF : Nat → St) (qm : Nat) (Qm : Ad) (M : St) (ML : SL) : va_W := fC g q u RQ C CL ++ (wX10 g qm Qm M ML ++ pF g 20 RQ RF)
def EL (p : Program) (s : State) (m : MethodId) (meth : Method) (c : Code) (b L : Nat) (xs : Nat → Int32) (g : gG) (A : Nat → Prop) : Prop :=
  CallFix p m c cL_law 4 s #[Value.ref b] (.initialized RX9 :: gW) RL ∧ meth.sig.returnType = ret ∧ gK g s ∧ (∀ q, s.heap.size ≤ q → A q) ∧ meth.locks = false ∧ va_X b L xs s s.heap ∧ b < s.heap.size ∧ ¬ A b ∧ L ≤ 256
def WL (p : Program) (l : Launch) (e : Env) (s : State) (m : MethodId) (below : List Frame) (meth : Method) (c : Code) (g : gG) (A : Nat → Prop) (Q : State → Prop) (cells slots pc b q qm : Nat) (x3 : Int32) (u RQ : Nat → Ad) (C : Nat → St) (CL : Nat → SL) (RF : Nat → St) (Qm : Ad) (M : St) (ML : SL) : Prop :=
  ∀ (H : Heap) (locs : List Loc) (ls : Array Slot), va_P g.1 vwCl (lW g q u RQ C CL RF qm Qm M ML) H → va_D A (lW g q u RQ C CL RF qm Qm M ML) → va_S A s.heap H locs → lv_has ls 4 [(0, .ref b), (1, .ref q), (2, .ref qm), (3, .int x3)] → W p l e room_1 s m #[Value.ref b] below meth c H locs cells slots Q (F0 m pc ls [])
def WLx (p : Program) (l : Launch) (e : Env) (s : State) (m : MethodId) (below : List Frame) (meth : Method) (c : Code) (g : gG) (A : Nat → Prop) (Q : State → Prop) (cells slots pc b q qm : Nat) (x3 : Int32) (u RQ : Nat → Ad) (a1 a2 : Nat) (C : Nat → St) (CL : Nat → SL) (RF : Nat → St) (Qm : Ad) (M : St) (ML : SL) : Prop :=
  ∀ (H : Heap) (locs : List Loc) (ls : Array Slot), va_P g.1 vwCl (fCx g q u RQ a1 a2 C CL ++ (wX10 g qm Qm M ML ++ pF g 20 RQ RF)) H → va_D A (fCx g q u RQ a1 a2 C CL ++ (wX10 g qm Qm M ML ++ pF g 20 RQ RF)) → va_S A s.heap H locs → lv_has ls 4 [(0, .ref b), (1, .ref q), (2, .ref qm), (3, .int x3)] → W p l e room_1 s m #[Value.ref b] below meth c H locs cells slots Q (F0 m pc ls [])
def bz (x : Int32) : Int32 := if x = 0 then 0 else 1
theorem bz_row {p : Program} {l : Launch} {e : Env} {R : Room} {s : State} {m : MethodId} {args : Array Value} {below : List Frame} {meth : Method} {c : Code} {H : Heap} {locs : List Loc} {cells slots : Nat} {Q : State → Prop} {cc : ByteArray} {ls : Array Slot} {rest : List Value} {x : Int32} {pc : Nat} (hx : p.tables.exec = Jvm.exec) (hb : c.code = cc) (d0 : decode cc pc = .ok (.ifCond .eq 7, 3)) (d1 : decode cc (pc + 3) = .ok (.iconst 1, 1)) (d2 : decode cc (pc + 4) = .ok (.goto 4, 3)) (d3 : decode cc (pc + 7) = .ok (.iconst 0, 1)) (t0 : (pc : Int) + 7 = ((pc + 7 : Nat) : Int)) (t1 : ((pc + 4 : Nat) : Int) + 4 = ((pc + 8 : Nat) : Int))
    (k : W p l e R s m args below meth c H locs cells slots Q (F0 m (pc + 8) ls (.int (bz x) :: rest))) : W p l e R s m args below meth c H locs cells slots Q (F0 m pc ls (.int x :: rest)) := by
  refine lv_if_eq (tgt := pc + 7) hx hb d0 t0 (fun h => ?_) (fun h => ?_)
  · refine lv_iconst (v := (0 : Int32)) hx hb d3 (by decide) ?_
    rw [show bz x = 0 from if_pos h] at k
    exact k
  · refine lv_iconst (v := (1 : Int32)) hx hb d1 (by decide) ?_
    refine lv_goto (tgt := pc + 8) hx hb d2 t1 ?_
    rw [show bz x = 1 from if_neg h] at k
    exact k
set_option maxHeartbeats 8000000 in
set_option maxRecDepth 100000 in
theorem L_feed {p : Program} {l : Launch} {e : Env} {s : State} {m : MethodId} {below : List Frame} {meth : Method} {c : Code} {g : gG} {A : Nat → Prop} {Q : State → Prop} {cells slots b L : Nat} {xs : Nat → Int32} (E : EL p s m meth c b L xs g A) (hcs : cells ≤ 600000 ∧ slots ≤ 7302250) (N q qm : Nat) (x3 : Int32) (u RQ : Nat → Ad) (C : Nat → St) (CL : Nat → SL) (RF : Nat → St) (Qm : Ad) (M : St) (ML : SL) (h1 : vp_in (x3 + 1) L) (v : Int32 × (Nat → Int32) × Int32) (w : Int32 × Int32 × (Nat → Int32)) (hv : x_X9_feed (C 0) (C 1) (xs (x3 + 1).toNatClampNeg) = some v) (hw : x_X10_feed M (xs (x3 + 1).toNatClampNeg) = some w) (heq : v.1 = w.1) (kn : WL p l e s m below meth c g A Q cells slots 1082 b q qm x3 u RQ (va_up C 1 (va_up (va_up (C 1) 0 v.2.1) 1 (fun _ => v.2.2))) CL RF Qm (va_up (va_up M 0 (fun _ => w.2.1)) 1 w.2.2) ML) : WL p l e s m below meth c g A Q cells slots 184 b q qm x3 u RQ C CL RF Qm M ML := by
  obtain ⟨⟨hx, hb, hml, hown, hts⟩, hr, hK, hA, hlk, hX, hbl, hbA, hL⟩ := id E
  intro H locs ls hP hD hS hl
  refine lv_aload_n hx hb dL_law_184 rfl (lv_at hl 1 rfl) ?_
  refine lv_aload_n hx hb dL_law_185 rfl (lv_at hl 0 rfl) ?_
  refine lv_iload_n hx hb dL_law_186 rfl (lv_at hl 3 rfl) ?_
  refine lv_iconst (v := (1 : Int32)) hx hb dL_law_187 (by decide) ?_
  refine lv_iadd hx hb dL_law_188 ?_
  refine va_sld hx hb hX hbl hbA hS h1 dL_law_189 ?_
  refine kLi (X := wX10 g qm Qm M ML ++ pF g 20 RQ RF) (ws := fC g q u RQ C CL) ⟨hx, hb, hml, hown, hts⟩ (c_X9_feed l g q (u 0) (u 1) (C 0) (C 1) (xs (x3 + 1).toNatClampNeg) v hv H.size) (gV u_ml_L_13 u_im_X9_feed u_se_X9_feed u_ini_X9 u_co_X9_feed) hd_X9_feed ⟨rfl, rfl⟩ hcs hK hP hD hS hA 0 9 rfl rfl [0, 1, 2] [0, 1, 2, 6, 7, 8, 9, 10, 11, 12, 13, 14, 15, 16, 17, 18, 19, 20, 21, 22, 23, 24, 25, 26, 27, 28, 29, 30, 31, 32, 33, 34, 35, 36, 37, 38, 39, 40, 41, 42, 43, 44, 45, 46, 47, 48, 49, 50, 51, 52, 53, 54, 55, 56, 57, 58, 59, 60, 61, 62, 63, 64, 65, 66] rfl rfl 3 rfl (w2 := fC g q u RQ (va_up C 1 (va_up (va_up (C 1) 0 v.2.1) 1 (fun _ => v.2.2))) CL) rfl rfl (As := [.int (xs (x3 + 1).toNatClampNeg)]) (rest := []) rfl hl.1 rfl rfl dL_law_190 (fun H locs hP hD hS => ?_)
  have hP := P_perm (List.perm_append_comm_assoc _ _ _) hP
  have hD := D_perm (List.perm_append_comm_assoc _ _ _) hD
  refine lv_aload_n hx hb dL_law_193 rfl (lv_at hl 2 rfl) ?_
  refine lv_aload_n hx hb dL_law_194 rfl (lv_at hl 0 rfl) ?_
  refine lv_iload_n hx hb dL_law_195 rfl (lv_at hl 3 rfl) ?_
  refine lv_iconst (v := (1 : Int32)) hx hb dL_law_196 (by decide) ?_
  refine lv_iadd hx hb dL_law_197 ?_
  refine va_sld hx hb hX hbl hbA hS h1 dL_law_198 ?_
  refine kLi (X := fC g q u RQ (va_up C 1 (va_up (va_up (C 1) 0 v.2.1) 1 (fun _ => v.2.2))) CL ++ pF g 20 RQ RF) (ws := wX10 g qm Qm M ML) ⟨hx, hb, hml, hown, hts⟩ (c_X10_feed l g qm Qm M (xs (x3 + 1).toNatClampNeg) w hw H.size) (gV u_ml_L_17 u_im_X10_feed u_se_X10_feed u_ini_X10 u_co_X10_feed) hd_X10_feed ⟨rfl, rfl⟩ hcs hK hP hD hS hA 0 10 rfl rfl [0, 1] [0, 1, 4, 5, 6, 7, 8, 9, 10, 11, 12, 13, 14, 15, 16, 17, 18, 19, 20, 21] rfl rfl 2 rfl (w2 := wX10 g qm Qm (va_up (va_up M 0 (fun _ => w.2.1)) 1 w.2.2) ML) rfl rfl (As := [.int (xs (x3 + 1).toNatClampNeg)]) (rest := [.int v.1]) rfl hl.1 rfl rfl dL_law_199 (fun H locs hP hD hS => ?_)
  have hP := P_perm (List.perm_append_comm_assoc _ _ _) hP
  have hD := D_perm (List.perm_append_comm_assoc _ _ _) hD
  refine lv_icmp_eq (tgt := 1082) hx hb dL_law_202 (by decide) (fun _ => ?_) (fun c9 => absurd heq c9)
  exact kn H locs ls hP hD hS hl
set_option maxHeartbeats 8000000 in
set_option maxRecDepth 100000 in
theorem L_works {p : Program} {l : Launch} {e : Env} {s : State} {m : MethodId} {below : List Frame} {meth : Method} {c : Code} {g : gG} {A : Nat → Prop} {Q : State → Prop} {cells slots b L : Nat} {xs : Nat → Int32} (E : EL p s m meth c b L xs g A) (hcs : cells ≤ 600000 ∧ slots ≤ 7302250) (N q qm : Nat) (x3 : Int32) (u RQ : Nat → Ad) (C : Nat → St) (CL : Nat → SL) (RF : Nat → St) (Qm : Ad) (M : St) (ML : SL) (v : Int32 × Nat × Nat × Int32 × Int32 × (Nat → Int32) × (Nat → Int32) × (Nat → Int32) × (Nat → Int32) × (Nat → Int32) × Int32 × Int32 × Int32 × Int32 × Int32 × Int32 × Int32 × Int32 × Int32 × Int32 × Int32 × Int32 × Int32 × (Nat → Int32) × (Nat → Int32) × (Nat → Int32) × (Nat → Int32) × (Nat → Int32) × (Nat → Int32)) (w : Int32 × Int32 × Int32 × Int32 × Int32 × Int32 × Int32 × Int32 × Int32 × Int32 × Int32 × Int32 × Int32 × (Nat → Int32) × (Nat → Int32) × Int32 × Int32 × Int32 × (Nat → Int32) × (Nat → Int32) × (Nat → Int32) × Int32 × (Nat → Int32) × Int32 × Int32) (hv : x_X9_works N (u 12 7) (u 13 7) (u 0) (C 0) (fun i => some (u (12 + i) 7)) (C 4) (C 12) (C 13) (C 7) (C 6) (C 1) (C 3) = some v) (hw : x_X10_works N M = some w) (heq : v.1 = w.1) (kn : WLx p l e s m below meth c g A Q cells slots 1082 b q qm x3 u RQ v.2.1 v.2.2.1 (va_up (va_up (va_up (va_up (va_up (va_up (va_up C 1 (va_up (va_up (va_up (va_up (va_up (C 1) 1 (fun _ => v.2.2.2.2.2.2.2.2.2.2.2.2.2.2.2.1)) 2 (fun _ => v.2.2.2.2.2.2.2.2.2.2.2.2.2.2.2.2.1)) 3 (fun _ => v.2.2.2.2.2.2.2.2.2.2.2.2.2.2.2.2.2.1)) 4 (fun _ => v.2.2.2.2.2.2.2.2.2.2.2.2.2.2.2.2.2.2.1)) 5 (fun _ => v.2.2.2.2.2.2.2.2.2.2.2.2.2.2.2.2.2.2.2.1))) 12 (va_up (C 12) 0 (fun _ => v.2.2.2.2.2.2.2.2.2.2.1))) 13 (va_up (C 13) 0 (fun _ => v.2.2.2.2.2.2.2.2.2.2.2.1))) 3 (va_up (va_up (va_up (va_up (va_up (va_up (va_up (va_up (va_up (C 3) 0 (fun _ => v.2.2.2.2.2.2.2.2.2.2.2.2.2.2.2.2.2.2.2.2.1)) 1 (fun _ => v.2.2.2.2.2.2.2.2.2.2.2.2.2.2.2.2.2.2.2.2.2.1)) 2 (fun _ => v.2.2.2.2.2.2.2.2.2.2.2.2.2.2.2.2.2.2.2.2.2.2.1)) 3 v.2.2.2.2.2.2.2.2.2.2.2.2.2.2.2.2.2.2.2.2.2.2.2.1) 4 v.2.2.2.2.2.2.2.2.2.2.2.2.2.2.2.2.2.2.2.2.2.2.2.2.1) 5 v.2.2.2.2.2.2.2.2.2.2.2.2.2.2.2.2.2.2.2.2.2.2.2.2.2.1) 6 v.2.2.2.2.2.2.2.2.2.2.2.2.2.2.2.2.2.2.2.2.2.2.2.2.2.2.1) 7 v.2.2.2.2.2.2.2.2.2.2.2.2.2.2.2.2.2.2.2.2.2.2.2.2.2.2.2.1) 8 v.2.2.2.2.2.2.2.2.2.2.2.2.2.2.2.2.2.2.2.2.2.2.2.2.2.2.2.2)) 4 (va_up (va_up (va_up (va_up (va_up (va_up (va_up (C 4) 0 (fun _ => v.2.2.2.1)) 1 (fun _ => v.2.2.2.2.1)) 2 v.2.2.2.2.2.1) 3 v.2.2.2.2.2.2.1) 4 v.2.2.2.2.2.2.2.1) 5 v.2.2.2.2.2.2.2.2.1) 6 v.2.2.2.2.2.2.2.2.2.1)) 6 (va_up (C 6) 0 (fun _ => v.2.2.2.2.2.2.2.2.2.2.2.2.2.2.1))) 7 (va_up (va_up (C 7) 0 (fun _ => v.2.2.2.2.2.2.2.2.2.2.2.2.1)) 1 (fun _ => v.2.2.2.2.2.2.2.2.2.2.2.2.2.1))) CL RF Qm (va_up (va_up (va_up (va_up (va_up (va_up (va_up (va_up (va_up (va_up (va_up (va_up (va_up (va_up (va_up (va_up (va_up (va_up (va_up (va_up (va_up (va_up (va_up (va_up M 0 (fun _ => w.2.1)) 2 (fun _ => w.2.2.1)) 3 (fun _ => w.2.2.2.1)) 4 (fun _ => w.2.2.2.2.1)) 5 (fun _ => w.2.2.2.2.2.1)) 6 (fun _ => w.2.2.2.2.2.2.1)) 7 (fun _ => w.2.2.2.2.2.2.2.1)) 8 (fun _ => w.2.2.2.2.2.2.2.2.1)) 9 (fun _ => w.2.2.2.2.2.2.2.2.2.1)) 10 (fun _ => w.2.2.2.2.2.2.2.2.2.2.1)) 11 (fun _ => w.2.2.2.2.2.2.2.2.2.2.2.1)) 12 (fun _ => w.2.2.2.2.2.2.2.2.2.2.2.2.1)) 13 w.2.2.2.2.2.2.2.2.2.2.2.2.2.1) 14 w.2.2.2.2.2.2.2.2.2.2.2.2.2.2.1) 15 (fun _ => w.2.2.2.2.2.2.2.2.2.2.2.2.2.2.2.1)) 16 (fun _ => w.2.2.2.2.2.2.2.2.2.2.2.2.2.2.2.2.1)) 17 (fun _ => w.2.2.2.2.2.2.2.2.2.2.2.2.2.2.2.2.2.1)) 18 w.2.2.2.2.2.2.2.2.2.2.2.2.2.2.2.2.2.2.1) 19 w.2.2.2.2.2.2.2.2.2.2.2.2.2.2.2.2.2.2.2.1) 20 w.2.2.2.2.2.2.2.2.2.2.2.2.2.2.2.2.2.2.2.2.1) 23 (fun _ => w.2.2.2.2.2.2.2.2.2.2.2.2.2.2.2.2.2.2.2.2.2.1)) 26 w.2.2.2.2.2.2.2.2.2.2.2.2.2.2.2.2.2.2.2.2.2.2.1) 28 (fun _ => w.2.2.2.2.2.2.2.2.2.2.2.2.2.2.2.2.2.2.2.2.2.2.2.1)) 30 (fun _ => w.2.2.2.2.2.2.2.2.2.2.2.2.2.2.2.2.2.2.2.2.2.2.2.2)) ML) : WL p l e s m below meth c g A Q cells slots 207 b q qm x3 u RQ C CL RF Qm M ML := by
  obtain ⟨⟨hx, hb, hml, hown, hts⟩, hr, hK, hA, hlk, hX, hbl, hbA, hL⟩ := id E
  intro H locs ls hP hD hS hl
  refine lv_aload_n hx hb dL_law_207 rfl (lv_at hl 1 rfl) ?_
  refine kLi (X := wX10 g qm Qm M ML ++ pF g 20 RQ RF) (ws := fC g q u RQ C CL) ⟨hx, hb, hml, hown, hts⟩ (c_X9_works l g q (u 4) (u 12) (u 13) (u 7) (u 6) (u 1) (u 3) N (u 12 7) (u 13 7) (u 0) (C 0) (fun i => some (u (12 + i) 7)) (C 4) (C 12) (C 13) (C 7) (C 6) (C 1) (C 3) v hv H.size) (gV u_ml_L_18 u_im_X9_works u_se_X9_works u_ini_X9 u_co_X9_works) hd_X9_works ⟨rfl, rfl⟩ hcs hK hP hD hS hA 0 9 rfl rfl [0, 31, 17, 18, 19, 20, 21, 22, 50, 57, 32, 29, 1, 2, 10, 11, 12, 13, 14, 15, 16] [0, 12, 13, 24, 25, 26, 27, 28, 29, 30, 14, 15, 16, 17, 18, 19, 20, 2, 3, 4, 5, 6, 7, 44, 45, 46, 47, 48, 49, 11, 51, 1, 10, 54, 55, 56, 57, 58, 59, 60, 61, 62, 63, 64, 65, 66, 67, 68, 69, 70, 8, 72, 73, 74, 75, 76, 77, 9, 79, 80, 81, 82, 83, 84] rfl rfl 21 rfl (w2 := fCx g q u RQ v.2.1 v.2.2.1 (va_up (va_up (va_up (va_up (va_up (va_up (va_up C 1 (va_up (va_up (va_up (va_up (va_up (C 1) 1 (fun _ => v.2.2.2.2.2.2.2.2.2.2.2.2.2.2.2.1)) 2 (fun _ => v.2.2.2.2.2.2.2.2.2.2.2.2.2.2.2.2.1)) 3 (fun _ => v.2.2.2.2.2.2.2.2.2.2.2.2.2.2.2.2.2.1)) 4 (fun _ => v.2.2.2.2.2.2.2.2.2.2.2.2.2.2.2.2.2.2.1)) 5 (fun _ => v.2.2.2.2.2.2.2.2.2.2.2.2.2.2.2.2.2.2.2.1))) 12 (va_up (C 12) 0 (fun _ => v.2.2.2.2.2.2.2.2.2.2.1))) 13 (va_up (C 13) 0 (fun _ => v.2.2.2.2.2.2.2.2.2.2.2.1))) 3 (va_up (va_up (va_up (va_up (va_up (va_up (va_up (va_up (va_up (C 3) 0 (fun _ => v.2.2.2.2.2.2.2.2.2.2.2.2.2.2.2.2.2.2.2.2.1)) 1 (fun _ => v.2.2.2.2.2.2.2.2.2.2.2.2.2.2.2.2.2.2.2.2.2.1)) 2 (fun _ => v.2.2.2.2.2.2.2.2.2.2.2.2.2.2.2.2.2.2.2.2.2.2.1)) 3 v.2.2.2.2.2.2.2.2.2.2.2.2.2.2.2.2.2.2.2.2.2.2.2.1) 4 v.2.2.2.2.2.2.2.2.2.2.2.2.2.2.2.2.2.2.2.2.2.2.2.2.1) 5 v.2.2.2.2.2.2.2.2.2.2.2.2.2.2.2.2.2.2.2.2.2.2.2.2.2.1) 6 v.2.2.2.2.2.2.2.2.2.2.2.2.2.2.2.2.2.2.2.2.2.2.2.2.2.2.1) 7 v.2.2.2.2.2.2.2.2.2.2.2.2.2.2.2.2.2.2.2.2.2.2.2.2.2.2.2.1) 8 v.2.2.2.2.2.2.2.2.2.2.2.2.2.2.2.2.2.2.2.2.2.2.2.2.2.2.2.2)) 4 (va_up (va_up (va_up (va_up (va_up (va_up (va_up (C 4) 0 (fun _ => v.2.2.2.1)) 1 (fun _ => v.2.2.2.2.1)) 2 v.2.2.2.2.2.1) 3 v.2.2.2.2.2.2.1) 4 v.2.2.2.2.2.2.2.1) 5 v.2.2.2.2.2.2.2.2.1) 6 v.2.2.2.2.2.2.2.2.2.1)) 6 (va_up (C 6) 0 (fun _ => v.2.2.2.2.2.2.2.2.2.2.2.2.2.2.1))) 7 (va_up (va_up (C 7) 0 (fun _ => v.2.2.2.2.2.2.2.2.2.2.2.2.1)) 1 (fun _ => v.2.2.2.2.2.2.2.2.2.2.2.2.2.1))) CL) rfl rfl (As := []) (rest := []) rfl hl.1 rfl rfl dL_law_208 (fun H locs hP hD hS => ?_)
  have hP := P_perm (List.perm_append_comm_assoc _ _ _) hP
  have hD := D_perm (List.perm_append_comm_assoc _ _ _) hD
  refine lv_aload_n hx hb dL_law_211 rfl (lv_at hl 2 rfl) ?_
  refine kLi (X := fCx g q u RQ v.2.1 v.2.2.1 (va_up (va_up (va_up (va_up (va_up (va_up (va_up C 1 (va_up (va_up (va_up (va_up (va_up (C 1) 1 (fun _ => v.2.2.2.2.2.2.2.2.2.2.2.2.2.2.2.1)) 2 (fun _ => v.2.2.2.2.2.2.2.2.2.2.2.2.2.2.2.2.1)) 3 (fun _ => v.2.2.2.2.2.2.2.2.2.2.2.2.2.2.2.2.2.1)) 4 (fun _ => v.2.2.2.2.2.2.2.2.2.2.2.2.2.2.2.2.2.2.1)) 5 (fun _ => v.2.2.2.2.2.2.2.2.2.2.2.2.2.2.2.2.2.2.2.1))) 12 (va_up (C 12) 0 (fun _ => v.2.2.2.2.2.2.2.2.2.2.1))) 13 (va_up (C 13) 0 (fun _ => v.2.2.2.2.2.2.2.2.2.2.2.1))) 3 (va_up (va_up (va_up (va_up (va_up (va_up (va_up (va_up (va_up (C 3) 0 (fun _ => v.2.2.2.2.2.2.2.2.2.2.2.2.2.2.2.2.2.2.2.2.1)) 1 (fun _ => v.2.2.2.2.2.2.2.2.2.2.2.2.2.2.2.2.2.2.2.2.2.1)) 2 (fun _ => v.2.2.2.2.2.2.2.2.2.2.2.2.2.2.2.2.2.2.2.2.2.2.1)) 3 v.2.2.2.2.2.2.2.2.2.2.2.2.2.2.2.2.2.2.2.2.2.2.2.1) 4 v.2.2.2.2.2.2.2.2.2.2.2.2.2.2.2.2.2.2.2.2.2.2.2.2.1) 5 v.2.2.2.2.2.2.2.2.2.2.2.2.2.2.2.2.2.2.2.2.2.2.2.2.2.1) 6 v.2.2.2.2.2.2.2.2.2.2.2.2.2.2.2.2.2.2.2.2.2.2.2.2.2.2.1) 7 v.2.2.2.2.2.2.2.2.2.2.2.2.2.2.2.2.2.2.2.2.2.2.2.2.2.2.2.1) 8 v.2.2.2.2.2.2.2.2.2.2.2.2.2.2.2.2.2.2.2.2.2.2.2.2.2.2.2.2)) 4 (va_up (va_up (va_up (va_up (va_up (va_up (va_up (C 4) 0 (fun _ => v.2.2.2.1)) 1 (fun _ => v.2.2.2.2.1)) 2 v.2.2.2.2.2.1) 3 v.2.2.2.2.2.2.1) 4 v.2.2.2.2.2.2.2.1) 5 v.2.2.2.2.2.2.2.2.1) 6 v.2.2.2.2.2.2.2.2.2.1)) 6 (va_up (C 6) 0 (fun _ => v.2.2.2.2.2.2.2.2.2.2.2.2.2.2.1))) 7 (va_up (va_up (C 7) 0 (fun _ => v.2.2.2.2.2.2.2.2.2.2.2.2.1)) 1 (fun _ => v.2.2.2.2.2.2.2.2.2.2.2.2.2.1))) CL ++ pF g 20 RQ RF) (ws := wX10 g qm Qm M ML) ⟨hx, hb, hml, hown, hts⟩ (c_X10_works l g qm Qm N M w hw H.size) (gV u_ml_L_22 u_im_X10_works u_se_X10_works u_ini_X10 u_co_X10_works) hd_X10_works ⟨rfl, rfl⟩ hcs hK hP hD hS hA 0 10 rfl rfl [0, 1, 2, 3, 4, 5, 6, 11] [0, 1, 2, 3, 4, 5, 6, 15, 16, 17, 18, 7, 20, 21, 22, 23, 24, 25, 26, 27] rfl rfl 8 rfl (w2 := wX10 g qm Qm (va_up (va_up (va_up (va_up (va_up (va_up (va_up (va_up (va_up (va_up (va_up (va_up (va_up (va_up (va_up (va_up (va_up (va_up (va_up (va_up (va_up (va_up (va_up (va_up M 0 (fun _ => w.2.1)) 2 (fun _ => w.2.2.1)) 3 (fun _ => w.2.2.2.1)) 4 (fun _ => w.2.2.2.2.1)) 5 (fun _ => w.2.2.2.2.2.1)) 6 (fun _ => w.2.2.2.2.2.2.1)) 7 (fun _ => w.2.2.2.2.2.2.2.1)) 8 (fun _ => w.2.2.2.2.2.2.2.2.1)) 9 (fun _ => w.2.2.2.2.2.2.2.2.2.1)) 10 (fun _ => w.2.2.2.2.2.2.2.2.2.2.1)) 11 (fun _ => w.2.2.2.2.2.2.2.2.2.2.2.1)) 12 (fun _ => w.2.2.2.2.2.2.2.2.2.2.2.2.1)) 13 w.2.2.2.2.2.2.2.2.2.2.2.2.2.1) 14 w.2.2.2.2.2.2.2.2.2.2.2.2.2.2.1) 15 (fun _ => w.2.2.2.2.2.2.2.2.2.2.2.2.2.2.2.1)) 16 (fun _ => w.2.2.2.2.2.2.2.2.2.2.2.2.2.2.2.2.1)) 17 (fun _ => w.2.2.2.2.2.2.2.2.2.2.2.2.2.2.2.2.2.1)) 18 w.2.2.2.2.2.2.2.2.2.2.2.2.2.2.2.2.2.2.1) 19 w.2.2.2.2.2.2.2.2.2.2.2.2.2.2.2.2.2.2.2.1) 20 w.2.2.2.2.2.2.2.2.2.2.2.2.2.2.2.2.2.2.2.2.1) 23 (fun _ => w.2.2.2.2.2.2.2.2.2.2.2.2.2.2.2.2.2.2.2.2.2.1)) 26 w.2.2.2.2.2.2.2.2.2.2.2.2.2.2.2.2.2.2.2.2.2.2.1) 28 (fun _ => w.2.2.2.2.2.2.2.2.2.2.2.2.2.2.2.2.2.2.2.2.2.2.2.1)) 30 (fun _ => w.2.2.2.2.2.2.2.2.2.2.2.2.2.2.2.2.2.2.2.2.2.2.2.2)) ML) rfl rfl (As := []) (rest := [.int v.1]) rfl hl.1 rfl rfl dL_law_212 (fun H locs hP hD hS => ?_)
  have hP := P_perm (List.perm_append_comm_assoc _ _ _) hP
  have hD := D_perm (List.perm_append_comm_assoc _ _ _) hD
  refine lv_icmp_eq (tgt := 1082) hx hb dL_law_215 (by decide) (fun _ => ?_) (fun c9 => absurd heq c9)
  exact kn H locs ls hP hD hS hl
set_option maxHeartbeats 8000000 in
set_option maxRecDepth 100000 in
theorem L_fault {p : Program} {l : Launch} {e : Env} {s : State} {m : MethodId} {below : List Frame} {meth : Method} {c : Code} {g : gG} {A : Nat → Prop} {Q : State → Prop} {cells slots b L : Nat} {xs : Nat → Int32} (E : EL p s m meth c b L xs g A) (hcs : cells ≤ 600000 ∧ slots ≤ 7302250) (N q qm : Nat) (x3 : Int32) (u RQ : Nat → Ad) (C : Nat → St) (CL : Nat → SL) (RF : Nat → St) (Qm : Ad) (M : St) (ML : SL) (v : Int32) (w : Int32) (hv : x_X9_fault (C 0) (C 1) = some v) (hw : x_X10_fault M = some w) (heq : v = w) (kn : WL p l e s m below meth c g A Q cells slots 1082 b q qm x3 u RQ C CL RF Qm M ML) : WL p l e s m below meth c g A Q cells slots 220 b q qm x3 u RQ C CL RF Qm M ML := by
  obtain ⟨⟨hx, hb, hml, hown, hts⟩, hr, hK, hA, hlk, hX, hbl, hbA, hL⟩ := id E
  intro H locs ls hP hD hS hl
  refine lv_aload_n hx hb dL_law_220 rfl (lv_at hl 1 rfl) ?_
  refine kLi (X := wX10 g qm Qm M ML ++ pF g 20 RQ RF) (ws := fC g q u RQ C CL) ⟨hx, hb, hml, hown, hts⟩ (c_X9_fault l g q (u 0) (u 1) (C 0) (C 1) v hv H.size) (gV u_ml_L_23 u_im_X9_fault u_se_X9_fault u_ini_X9 u_co_X9_fault) hd_X9_fault ⟨rfl, rfl⟩ hcs hK hP hD hS hA 0 9 rfl rfl [0, 1] [0, 1, 4, 5, 6, 7, 8, 9, 10, 11, 12, 13, 14, 15, 16, 17, 18, 19, 20, 21, 22, 23, 24, 25, 26, 27, 28, 29, 30, 31, 32, 33, 34, 35, 36, 37, 38, 39, 40, 41, 42, 43, 44, 45, 46, 47, 48, 49, 50, 51, 52, 53, 54, 55, 56, 57, 58, 59, 60, 61, 62, 63, 64, 65] rfl rfl 2 rfl (w2 := fC g q u RQ C CL) rfl rfl (As := []) (rest := []) rfl hl.1 rfl rfl dL_law_221 (fun H locs hP hD hS => ?_)
  have hP := P_perm (List.perm_append_comm_assoc _ _ _) hP
  have hD := D_perm (List.perm_append_comm_assoc _ _ _) hD
  refine lv_aload_n hx hb dL_law_224 rfl (lv_at hl 2 rfl) ?_
  refine kLi (X := fC g q u RQ C CL ++ pF g 20 RQ RF) (ws := wX10 g qm Qm M ML) ⟨hx, hb, hml, hown, hts⟩ (c_X10_fault l g qm Qm M w hw H.size) (gV u_ml_L_26 u_im_X10_fault u_se_X10_fault u_ini_X10 u_co_X10_fault) hd_X10_fault ⟨rfl, rfl⟩ hcs hK hP hD hS hA 0 10 rfl rfl [0] [0, 2, 3, 4, 5, 6, 7, 8, 9, 10, 11, 12, 13, 14, 15, 16, 17, 18, 19, 20] rfl rfl 1 rfl (w2 := wX10 g qm Qm M ML) rfl rfl (As := []) (rest := [.int v]) rfl hl.1 rfl rfl dL_law_225 (fun H locs hP hD hS => ?_)
  have hP := P_perm (List.perm_append_comm_assoc _ _ _) hP
  have hD := D_perm (List.perm_append_comm_assoc _ _ _) hD
  refine lv_icmp_eq (tgt := 1082) hx hb dL_law_228 (by decide) (fun _ => ?_) (fun c9 => absurd heq c9)
  exact kn H locs ls hP hD hS hl
set_option maxHeartbeats 8000000 in
set_option maxRecDepth 100000 in
theorem L_told {p : Program} {l : Launch} {e : Env} {s : State} {m : MethodId} {below : List Frame} {meth : Method} {c : Code} {g : gG} {A : Nat → Prop} {Q : State → Prop} {cells slots b L : Nat} {xs : Nat → Int32} (E : EL p s m meth c b L xs g A) (hcs : cells ≤ 600000 ∧ slots ≤ 7302250) (N q qm : Nat) (x3 : Int32) (u RQ : Nat → Ad) (C : Nat → St) (CL : Nat → SL) (RF : Nat → St) (Qm : Ad) (M : St) (ML : SL) (h1 : vp_in (x3 + 1) L) (v : Int32) (w : Int32) (hv : x_X9_told N (C 0) (C 4) (C 7) (C 6) (C 2) (C 1) (xs (x3 + 1).toNatClampNeg) = some v) (hw : x_X10_told N M (xs (x3 + 1).toNatClampNeg) = some w) (heq : v = w) (kn : WL p l e s m below meth c g A Q cells slots 1082 b q qm x3 u RQ C CL RF Qm M ML) : WL p l e s m below meth c g A Q cells slots 233 b q qm x3 u RQ C CL RF Qm M ML := by
  obtain ⟨⟨hx, hb, hml, hown, hts⟩, hr, hK, hA, hlk, hX, hbl, hbA, hL⟩ := id E
  intro H locs ls hP hD hS hl
  refine lv_aload_n hx hb dL_law_233 rfl (lv_at hl 1 rfl) ?_
  refine lv_aload_n hx hb dL_law_234 rfl (lv_at hl 0 rfl) ?_
  refine lv_iload_n hx hb dL_law_235 rfl (lv_at hl 3 rfl) ?_
  refine lv_iconst (v := (1 : Int32)) hx hb dL_law_236 (by decide) ?_
  refine lv_iadd hx hb dL_law_237 ?_
  refine va_sld hx hb hX hbl hbA hS h1 dL_law_238 ?_
  refine kLi (X := wX10 g qm Qm M ML ++ pF g 20 RQ RF) (ws := fC g q u RQ C CL) ⟨hx, hb, hml, hown, hts⟩ (c_X9_told l g q (u 0) (u 4) (u 7) (u 6) (u 2) (u 1) N (C 0) (C 4) (C 7) (C 6) (C 2) (C 1) (xs (x3 + 1).toNatClampNeg) v hv H.size) (gV u_ml_L_27 u_im_X9_told u_se_X9_told u_ini_X9 u_co_X9_told) hd_X9_told ⟨rfl, rfl⟩ hcs hK hP hD hS hA 0 9 rfl rfl [0, 17, 18, 22, 32, 29, 3, 1] [0, 7, 10, 6, 12, 13, 14, 15, 16, 17, 18, 19, 20, 21, 22, 23, 24, 1, 2, 27, 28, 29, 3, 31, 32, 33, 34, 35, 36, 5, 38, 39, 4, 41, 42, 43, 44, 45, 46, 47, 48, 49, 50, 51, 52, 53, 54, 55, 56, 57, 58, 59, 60, 61, 62, 63, 64, 65, 66, 67, 68, 69, 70, 71] rfl rfl 8 rfl (w2 := fC g q u RQ C CL) rfl rfl (As := [.int (xs (x3 + 1).toNatClampNeg)]) (rest := []) rfl hl.1 rfl rfl dL_law_239 (fun H locs hP hD hS => ?_)
  have hP := P_perm (List.perm_append_comm_assoc _ _ _) hP
  have hD := D_perm (List.perm_append_comm_assoc _ _ _) hD
  refine lv_aload_n hx hb dL_law_242 rfl (lv_at hl 2 rfl) ?_
  refine lv_aload_n hx hb dL_law_243 rfl (lv_at hl 0 rfl) ?_
  refine lv_iload_n hx hb dL_law_244 rfl (lv_at hl 3 rfl) ?_
  refine lv_iconst (v := (1 : Int32)) hx hb dL_law_245 (by decide) ?_
  refine lv_iadd hx hb dL_law_246 ?_
  refine va_sld hx hb hX hbl hbA hS h1 dL_law_247 ?_
  refine kLi (X := fC g q u RQ C CL ++ pF g 20 RQ RF) (ws := wX10 g qm Qm M ML) ⟨hx, hb, hml, hown, hts⟩ (c_X10_told l g qm Qm N M (xs (x3 + 1).toNatClampNeg) w hw H.size) (gV u_ml_L_30 u_im_X10_told u_se_X10_told u_ini_X10 u_co_X10_told) hd_X10_told ⟨rfl, rfl⟩ hcs hK hP hD hS hA 0 10 rfl rfl [0, 6] [0, 3, 4, 5, 6, 7, 1, 9, 10, 11, 12, 13, 14, 15, 16, 17, 18, 19, 20, 21] rfl rfl 2 rfl (w2 := wX10 g qm Qm M ML) rfl rfl (As := [.int (xs (x3 + 1).toNatClampNeg)]) (rest := [.int v]) rfl hl.1 rfl rfl dL_law_248 (fun H locs hP hD hS => ?_)
  have hP := P_perm (List.perm_append_comm_assoc _ _ _) hP
  have hD := D_perm (List.perm_append_comm_assoc _ _ _) hD
  refine lv_icmp_eq (tgt := 1082) hx hb dL_law_251 (by decide) (fun _ => ?_) (fun c9 => absurd heq c9)
  exact kn H locs ls hP hD hS hl
set_option maxHeartbeats 8000000 in
set_option maxRecDepth 100000 in
theorem L_place {p : Program} {l : Launch} {e : Env} {s : State} {m : MethodId} {below : List Frame} {meth : Method} {c : Code} {g : gG} {A : Nat → Prop} {Q : State → Prop} {cells slots b L : Nat} {xs : Nat → Int32} (E : EL p s m meth c b L xs g A) (hcs : cells ≤ 600000 ∧ slots ≤ 7302250) (N q qm : Nat) (x3 : Int32) (u RQ : Nat → Ad) (C : Nat → St) (CL : Nat → SL) (RF : Nat → St) (Qm : Ad) (M : St) (ML : SL) (h1 : vp_in (x3 + 1) L) (h2 : vp_in (x3 + 2) L) (v : Int32) (w : Int32) (hv : x_X9_place (C 0) (C 4) (C 2) (xs (x3 + 1).toNatClampNeg) (xs (x3 + 2).toNatClampNeg) = some v) (hw : x_X10_place M (xs (x3 + 1).toNatClampNeg) (xs (x3 + 2).toNatClampNeg) = some w) (heq : v = w) (kn : WL p l e s m below meth c g A Q cells slots 1082 b q qm x3 u RQ C CL RF Qm M ML) : WL p l e s m below meth c g A Q cells slots 256 b q qm x3 u RQ C CL RF Qm M ML := by
  obtain ⟨⟨hx, hb, hml, hown, hts⟩, hr, hK, hA, hlk, hX, hbl, hbA, hL⟩ := id E
  intro H locs ls hP hD hS hl
  refine lv_aload_n hx hb dL_law_256 rfl (lv_at hl 1 rfl) ?_
  refine lv_aload_n hx hb dL_law_257 rfl (lv_at hl 0 rfl) ?_
  refine lv_iload_n hx hb dL_law_258 rfl (lv_at hl 3 rfl) ?_
  refine lv_iconst (v := (1 : Int32)) hx hb dL_law_259 (by decide) ?_
  refine lv_iadd hx hb dL_law_260 ?_
  refine va_sld hx hb hX hbl hbA hS h1 dL_law_261 ?_
  refine lv_aload_n hx hb dL_law_262 rfl (lv_at hl 0 rfl) ?_
  refine lv_iload_n hx hb dL_law_263 rfl (lv_at hl 3 rfl) ?_
  refine lv_iconst (v := (2 : Int32)) hx hb dL_law_264 (by decide) ?_
  refine lv_iadd hx hb dL_law_265 ?_
  refine va_sld hx hb hX hbl hbA hS h2 dL_law_266 ?_
  refine kLi (X := wX10 g qm Qm M ML ++ pF g 20 RQ RF) (ws := fC g q u RQ C CL) ⟨hx, hb, hml, hown, hts⟩ (c_X9_place l g q (u 0) (u 4) (u 2) (C 0) (C 4) (C 2) (xs (x3 + 1).toNatClampNeg) (xs (x3 + 2).toNatClampNeg) v hv H.size) (gV u_ml_L_31 u_im_X9_place u_se_X9_place u_ini_X9 u_co_X9_place) hd_X9_place ⟨rfl, rfl⟩ hcs hK hP hD hS hA 0 9 rfl rfl [0, 17, 20, 3, 4, 5] [0, 7, 8, 3, 4, 5, 12, 13, 14, 15, 16, 17, 18, 19, 20, 21, 22, 1, 24, 25, 2, 27, 28, 29, 30, 31, 32, 33, 34, 35, 36, 37, 38, 39, 40, 41, 42, 43, 44, 45, 46, 47, 48, 49, 50, 51, 52, 53, 54, 55, 56, 57, 58, 59, 60, 61, 62, 63, 64, 65, 66, 67, 68, 69] rfl rfl 6 rfl (w2 := fC g q u RQ C CL) rfl rfl (As := [.int (xs (x3 + 1).toNatClampNeg), .int (xs (x3 + 2).toNatClampNeg)]) (rest := []) rfl hl.1 rfl rfl dL_law_267 (fun H locs hP hD hS => ?_)
  have hP := P_perm (List.perm_append_comm_assoc _ _ _) hP
  have hD := D_perm (List.perm_append_comm_assoc _ _ _) hD
  refine lv_aload_n hx hb dL_law_270 rfl (lv_at hl 2 rfl) ?_
  refine lv_aload_n hx hb dL_law_271 rfl (lv_at hl 0 rfl) ?_
  refine lv_iload_n hx hb dL_law_272 rfl (lv_at hl 3 rfl) ?_
  refine lv_iconst (v := (1 : Int32)) hx hb dL_law_273 (by decide) ?_
  refine lv_iadd hx hb dL_law_274 ?_
  refine va_sld hx hb hX hbl hbA hS h1 dL_law_275 ?_
  refine lv_aload_n hx hb dL_law_276 rfl (lv_at hl 0 rfl) ?_
  refine lv_iload_n hx hb dL_law_277 rfl (lv_at hl 3 rfl) ?_
  refine lv_iconst (v := (2 : Int32)) hx hb dL_law_278 (by decide) ?_
  refine lv_iadd hx hb dL_law_279 ?_
  refine va_sld hx hb hX hbl hbA hS h2 dL_law_280 ?_
  refine kLi (X := fC g q u RQ C CL ++ pF g 20 RQ RF) (ws := wX10 g qm Qm M ML) ⟨hx, hb, hml, hown, hts⟩ (c_X10_place l g qm Qm M (xs (x3 + 1).toNatClampNeg) (xs (x3 + 2).toNatClampNeg) w hw H.size) (gV u_ml_L_35 u_im_X10_place u_se_X10_place u_ini_X10 u_co_X10_place) hd_X10_place ⟨rfl, rfl⟩ hcs hK hP hD hS hA 0 10 rfl rfl [0, 4, 6] [0, 4, 5, 6, 1, 8, 2, 10, 11, 12, 13, 14, 15, 16, 17, 18, 19, 20, 21, 22] rfl rfl 3 rfl (w2 := wX10 g qm Qm M ML) rfl rfl (As := [.int (xs (x3 + 1).toNatClampNeg), .int (xs (x3 + 2).toNatClampNeg)]) (rest := [.int v]) rfl hl.1 rfl rfl dL_law_281 (fun H locs hP hD hS => ?_)
  have hP := P_perm (List.perm_append_comm_assoc _ _ _) hP
  have hD := D_perm (List.perm_append_comm_assoc _ _ _) hD
  refine lv_icmp_eq (tgt := 1082) hx hb dL_law_284 (by decide) (fun _ => ?_) (fun c9 => absurd heq c9)
  exact kn H locs ls hP hD hS hl
set_option maxHeartbeats 8000000 in
set_option maxRecDepth 100000 in
theorem L_channel {p : Program} {l : Launch} {e : Env} {s : State} {m : MethodId} {below : List Frame} {meth : Method} {c : Code} {g : gG} {A : Nat → Prop} {Q : State → Prop} {cells slots b L : Nat} {xs : Nat → Int32} (E : EL p s m meth c b L xs g A) (hcs : cells ≤ 600000 ∧ slots ≤ 7302250) (N q qm : Nat) (x3 : Int32) (u RQ : Nat → Ad) (C : Nat → St) (CL : Nat → SL) (RF : Nat → St) (Qm : Ad) (M : St) (ML : SL) (h1 : vp_in (x3 + 1) L) (h2 : vp_in (x3 + 2) L) (v : Int32) (w : Int32) (hv : x_X9_channel (C 0) (C 4) (C 2) (xs (x3 + 1).toNatClampNeg) (xs (x3 + 2).toNatClampNeg) = some v) (hw : x_X10_channel M (xs (x3 + 1).toNatClampNeg) (xs (x3 + 2).toNatClampNeg) = some w) (heq : v = w) (kn : WL p l e s m below meth c g A Q cells slots 1082 b q qm x3 u RQ C CL RF Qm M ML) : WL p l e s m below meth c g A Q cells slots 289 b q qm x3 u RQ C CL RF Qm M ML := by
  obtain ⟨⟨hx, hb, hml, hown, hts⟩, hr, hK, hA, hlk, hX, hbl, hbA, hL⟩ := id E
  intro H locs ls hP hD hS hl
  refine lv_aload_n hx hb dL_law_289 rfl (lv_at hl 1 rfl) ?_
  refine lv_aload_n hx hb dL_law_290 rfl (lv_at hl 0 rfl) ?_
  refine lv_iload_n hx hb dL_law_291 rfl (lv_at hl 3 rfl) ?_
  refine lv_iconst (v := (1 : Int32)) hx hb dL_law_292 (by decide) ?_
  refine lv_iadd hx hb dL_law_293 ?_
  refine va_sld hx hb hX hbl hbA hS h1 dL_law_294 ?_
  refine lv_aload_n hx hb dL_law_295 rfl (lv_at hl 0 rfl) ?_
  refine lv_iload_n hx hb dL_law_296 rfl (lv_at hl 3 rfl) ?_
  refine lv_iconst (v := (2 : Int32)) hx hb dL_law_297 (by decide) ?_
  refine lv_iadd hx hb dL_law_298 ?_
  refine va_sld hx hb hX hbl hbA hS h2 dL_law_299 ?_
  refine kLi (X := wX10 g qm Qm M ML ++ pF g 20 RQ RF) (ws := fC g q u RQ C CL) ⟨hx, hb, hml, hown, hts⟩ (c_X9_channel l g q (u 0) (u 4) (u 2) (C 0) (C 4) (C 2) (xs (x3 + 1).toNatClampNeg) (xs (x3 + 2).toNatClampNeg) v hv H.size) (gV u_ml_L_36 u_im_X9_channel u_se_X9_channel u_ini_X9 u_co_X9_channel) hd_X9_channel ⟨rfl, rfl⟩ hcs hK hP hD hS hA 0 9 rfl rfl [0, 17, 18, 19, 3, 6, 7, 8] [0, 9, 10, 4, 12, 13, 5, 6, 7, 17, 18, 19, 20, 21, 22, 23, 24, 1, 2, 3, 28, 29, 30, 31, 32, 33, 34, 35, 36, 37, 38, 39, 40, 41, 42, 43, 44, 45, 46, 47, 48, 49, 50, 51, 52, 53, 54, 55, 56, 57, 58, 59, 60, 61, 62, 63, 64, 65, 66, 67, 68, 69, 70, 71] rfl rfl 8 rfl (w2 := fC g q u RQ C CL) rfl rfl (As := [.int (xs (x3 + 1).toNatClampNeg), .int (xs (x3 + 2).toNatClampNeg)]) (rest := []) rfl hl.1 rfl rfl dL_law_300 (fun H locs hP hD hS => ?_)
  have hP := P_perm (List.perm_append_comm_assoc _ _ _) hP
  have hD := D_perm (List.perm_append_comm_assoc _ _ _) hD
  refine lv_aload_n hx hb dL_law_303 rfl (lv_at hl 2 rfl) ?_
  refine lv_aload_n hx hb dL_law_304 rfl (lv_at hl 0 rfl) ?_
  refine lv_iload_n hx hb dL_law_305 rfl (lv_at hl 3 rfl) ?_
  refine lv_iconst (v := (1 : Int32)) hx hb dL_law_306 (by decide) ?_
  refine lv_iadd hx hb dL_law_307 ?_
  refine va_sld hx hb hX hbl hbA hS h1 dL_law_308 ?_
  refine lv_aload_n hx hb dL_law_309 rfl (lv_at hl 0 rfl) ?_
  refine lv_iload_n hx hb dL_law_310 rfl (lv_at hl 3 rfl) ?_
  refine lv_iconst (v := (2 : Int32)) hx hb dL_law_311 (by decide) ?_
  refine lv_iadd hx hb dL_law_312 ?_
  refine va_sld hx hb hX hbl hbA hS h2 dL_law_313 ?_
  refine kLi (X := fC g q u RQ C CL ++ pF g 20 RQ RF) (ws := wX10 g qm Qm M ML) ⟨hx, hb, hml, hown, hts⟩ (c_X10_channel l g qm Qm M (xs (x3 + 1).toNatClampNeg) (xs (x3 + 2).toNatClampNeg) w hw H.size) (gV u_ml_L_39 u_im_X10_channel u_se_X10_channel u_ini_X10 u_co_X10_channel) hd_X10_channel ⟨rfl, rfl⟩ hcs hK hP hD hS hA 0 10 rfl rfl [0, 5, 6] [0, 4, 5, 6, 7, 1, 2, 10, 11, 12, 13, 14, 15, 16, 17, 18, 19, 20, 21, 22] rfl rfl 3 rfl (w2 := wX10 g qm Qm M ML) rfl rfl (As := [.int (xs (x3 + 1).toNatClampNeg), .int (xs (x3 + 2).toNatClampNeg)]) (rest := [.int v]) rfl hl.1 rfl rfl dL_law_314 (fun H locs hP hD hS => ?_)
  have hP := P_perm (List.perm_append_comm_assoc _ _ _) hP
  have hD := D_perm (List.perm_append_comm_assoc _ _ _) hD
  refine lv_icmp_eq (tgt := 1082) hx hb dL_law_317 (by decide) (fun _ => ?_) (fun c9 => absurd heq c9)
  exact kn H locs ls hP hD hS hl
set_option maxHeartbeats 8000000 in
set_option maxRecDepth 100000 in
theorem L_first {p : Program} {l : Launch} {e : Env} {s : State} {m : MethodId} {below : List Frame} {meth : Method} {c : Code} {g : gG} {A : Nat → Prop} {Q : State → Prop} {cells slots b L : Nat} {xs : Nat → Int32} (E : EL p s m meth c b L xs g A) (hcs : cells ≤ 600000 ∧ slots ≤ 7302250) (N q qm : Nat) (x3 : Int32) (u RQ : Nat → Ad) (C : Nat → St) (CL : Nat → SL) (RF : Nat → St) (Qm : Ad) (M : St) (ML : SL) (h1 : vp_in (x3 + 1) L) (h2 : vp_in (x3 + 2) L) (v : Int32) (w : Int32) (hv : x_X9_first (C 0) (C 4) (C 2) (xs (x3 + 1).toNatClampNeg) (xs (x3 + 2).toNatClampNeg) = some v) (hw : x_X10_first M (xs (x3 + 1).toNatClampNeg) (xs (x3 + 2).toNatClampNeg) = some w) (heq : v = w) (kn : WL p l e s m below meth c g A Q cells slots 1082 b q qm x3 u RQ C CL RF Qm M ML) : WL p l e s m below meth c g A Q cells slots 322 b q qm x3 u RQ C CL RF Qm M ML := by
  obtain ⟨⟨hx, hb, hml, hown, hts⟩, hr, hK, hA, hlk, hX, hbl, hbA, hL⟩ := id E
  intro H locs ls hP hD hS hl
  refine lv_aload_n hx hb dL_law_322 rfl (lv_at hl 1 rfl) ?_
  refine lv_aload_n hx hb dL_law_323 rfl (lv_at hl 0 rfl) ?_
  refine lv_iload_n hx hb dL_law_324 rfl (lv_at hl 3 rfl) ?_
  refine lv_iconst (v := (1 : Int32)) hx hb dL_law_325 (by decide) ?_
  refine lv_iadd hx hb dL_law_326 ?_
  refine va_sld hx hb hX hbl hbA hS h1 dL_law_327 ?_
  refine lv_aload_n hx hb dL_law_328 rfl (lv_at hl 0 rfl) ?_
  refine lv_iload_n hx hb dL_law_329 rfl (lv_at hl 3 rfl) ?_
  refine lv_iconst (v := (2 : Int32)) hx hb dL_law_330 (by decide) ?_
  refine lv_iadd hx hb dL_law_331 ?_
  refine va_sld hx hb hX hbl hbA hS h2 dL_law_332 ?_
  refine kLi (X := wX10 g qm Qm M ML ++ pF g 20 RQ RF) (ws := fC g q u RQ C CL) ⟨hx, hb, hml, hown, hts⟩ (c_X9_first l g q (u 0) (u 4) (u 2) (C 0) (C 4) (C 2) (xs (x3 + 1).toNatClampNeg) (xs (x3 + 2).toNatClampNeg) v hv H.size) (gV u_ml_L_40 u_im_X9_first u_se_X9_first u_ini_X9 u_co_X9_first) hd_X9_first ⟨rfl, rfl⟩ hcs hK hP hD hS hA 0 9 rfl rfl [0, 17, 21, 3] [0, 5, 6, 3, 8, 9, 10, 11, 12, 13, 14, 15, 16, 17, 18, 19, 20, 1, 22, 23, 24, 2, 26, 27, 28, 29, 30, 31, 32, 33, 34, 35, 36, 37, 38, 39, 40, 41, 42, 43, 44, 45, 46, 47, 48, 49, 50, 51, 52, 53, 54, 55, 56, 57, 58, 59, 60, 61, 62, 63, 64, 65, 66, 67] rfl rfl 4 rfl (w2 := fC g q u RQ C CL) rfl rfl (As := [.int (xs (x3 + 1).toNatClampNeg), .int (xs (x3 + 2).toNatClampNeg)]) (rest := []) rfl hl.1 rfl rfl dL_law_333 (fun H locs hP hD hS => ?_)
  have hP := P_perm (List.perm_append_comm_assoc _ _ _) hP
  have hD := D_perm (List.perm_append_comm_assoc _ _ _) hD
  refine lv_aload_n hx hb dL_law_336 rfl (lv_at hl 2 rfl) ?_
  refine lv_aload_n hx hb dL_law_337 rfl (lv_at hl 0 rfl) ?_
  refine lv_iload_n hx hb dL_law_338 rfl (lv_at hl 3 rfl) ?_
  refine lv_iconst (v := (1 : Int32)) hx hb dL_law_339 (by decide) ?_
  refine lv_iadd hx hb dL_law_340 ?_
  refine va_sld hx hb hX hbl hbA hS h1 dL_law_341 ?_
  refine lv_aload_n hx hb dL_law_342 rfl (lv_at hl 0 rfl) ?_
  refine lv_iload_n hx hb dL_law_343 rfl (lv_at hl 3 rfl) ?_
  refine lv_iconst (v := (2 : Int32)) hx hb dL_law_344 (by decide) ?_
  refine lv_iadd hx hb dL_law_345 ?_
  refine va_sld hx hb hX hbl hbA hS h2 dL_law_346 ?_
  refine kLi (X := fC g q u RQ C CL ++ pF g 20 RQ RF) (ws := wX10 g qm Qm M ML) ⟨hx, hb, hml, hown, hts⟩ (c_X10_first l g qm Qm M (xs (x3 + 1).toNatClampNeg) (xs (x3 + 2).toNatClampNeg) w hw H.size) (gV u_ml_L_43 u_im_X10_first u_se_X10_first u_ini_X10 u_co_X10_first) hd_X10_first ⟨rfl, rfl⟩ hcs hK hP hD hS hA 0 10 rfl rfl [0, 6] [0, 3, 4, 5, 6, 7, 1, 9, 10, 11, 12, 13, 14, 15, 16, 17, 18, 19, 20, 21] rfl rfl 2 rfl (w2 := wX10 g qm Qm M ML) rfl rfl (As := [.int (xs (x3 + 1).toNatClampNeg), .int (xs (x3 + 2).toNatClampNeg)]) (rest := [.int v]) rfl hl.1 rfl rfl dL_law_347 (fun H locs hP hD hS => ?_)
  have hP := P_perm (List.perm_append_comm_assoc _ _ _) hP
  have hD := D_perm (List.perm_append_comm_assoc _ _ _) hD
  refine lv_icmp_eq (tgt := 1082) hx hb dL_law_350 (by decide) (fun _ => ?_) (fun c9 => absurd heq c9)
  exact kn H locs ls hP hD hS hl
set_option maxHeartbeats 8000000 in
set_option maxRecDepth 100000 in
theorem L_letIn {p : Program} {l : Launch} {e : Env} {s : State} {m : MethodId} {below : List Frame} {meth : Method} {c : Code} {g : gG} {A : Nat → Prop} {Q : State → Prop} {cells slots b L : Nat} {xs : Nat → Int32} (E : EL p s m meth c b L xs g A) (hcs : cells ≤ 600000 ∧ slots ≤ 7302250) (N q qm : Nat) (x3 : Int32) (u RQ : Nat → Ad) (C : Nat → St) (CL : Nat → SL) (RF : Nat → St) (Qm : Ad) (M : St) (ML : SL) (h1 : vp_in (x3 + 1) L) (kk : Nat) (hkk : kk < 20) (v : Int32 × (Nat → Int32) × Int32 × Int32 × Int32 × Int32 × (Nat → Int32) × (Nat → Int32) × (Nat → Int32) × (Nat → Int32) × (Nat → Int32)) (w : Int32 × (Nat → Int32) × (Nat → Int32) × Int32) (hv : x_X9_letIn (RQ kk 7) (C 0) (C 4) (C 6) (fun i => some (RQ i 7)) (RF kk) (C 2) (xs (x3 + 1).toNatClampNeg) = some v) (hw : x_X10_letIn N M (xs (x3 + 1).toNatClampNeg) = some w) (heq : v.1 = w.1) (kn : WL p l e s m below meth c g A Q cells slots 1082 b q qm x3 u RQ (va_up (va_up C 4 (va_up (C 4) 6 v.2.1)) 6 (va_up (va_up (C 6) 0 (fun _ => v.2.2.1)) 1 (fun _ => v.2.2.2.1))) CL (va_up RF kk (va_up (va_up (va_up (va_up (va_up (va_up (va_up (RF kk) 0 (fun _ => v.2.2.2.2.1)) 1 (fun _ => v.2.2.2.2.2.1)) 2 v.2.2.2.2.2.2.1) 3 v.2.2.2.2.2.2.2.1) 4 v.2.2.2.2.2.2.2.2.1) 5 v.2.2.2.2.2.2.2.2.2.1) 6 v.2.2.2.2.2.2.2.2.2.2)) Qm (va_up (va_up (va_up M 20 w.2.1) 22 w.2.2.1) 23 (fun _ => w.2.2.2)) ML) : WL p l e s m below meth c g A Q cells slots 355 b q qm x3 u RQ C CL RF Qm M ML := by
  obtain ⟨⟨hx, hb, hml, hown, hts⟩, hr, hK, hA, hlk, hX, hbl, hbA, hL⟩ := id E
  intro H locs ls hP hD hS hl
  refine lv_aload_n hx hb dL_law_355 rfl (lv_at hl 1 rfl) ?_
  refine lv_aload_n hx hb dL_law_356 rfl (lv_at hl 0 rfl) ?_
  refine lv_iload_n hx hb dL_law_357 rfl (lv_at hl 3 rfl) ?_
  refine lv_iconst (v := (1 : Int32)) hx hb dL_law_358 (by decide) ?_
  refine lv_iadd hx hb dL_law_359 ?_
  refine va_sld hx hb hX hbl hbA hS h1 dL_law_360 ?_
  have hP := P_perm (perm_out hkk _ _ _ _) hP
  have hD := D_perm (perm_out hkk _ _ _ _) hD
  refine kLi (X := wX10 g qm Qm M ML ++ pX g kk RQ RF) (ws := fC g q u RQ C CL ++ wX0 g (RQ kk 7) (RQ kk) (RF kk)) ⟨hx, hb, hml, hown, hts⟩ (c_X9_letIn l g q (u 0) (u 4) (u 6) (RQ kk) (u 2) (RQ kk 7) (C 0) (C 4) (C 6) (fun i => some (RQ i 7)) (RF kk) (C 2) (xs (x3 + 1).toNatClampNeg) v hv H.size) (gV u_ml_L_44 u_im_X9_letIn u_se_X9_letIn u_ini_X9 u_co_X9_letIn) hd_X9_letIn ⟨rfl, rfl⟩ hcs hK hP hD hS hA 0 9 rfl rfl [0, 17, 18, 19, 20, 21, 22, 29, 30, 64, 65, 66, 67, 68, 69, 3] [0, 17, 18, 15, 20, 21, 22, 23, 24, 25, 26, 27, 28, 29, 30, 31, 32, 1, 2, 3, 4, 5, 6, 39, 40, 41, 42, 43, 44, 7, 8, 47, 48, 49, 50, 51, 52, 53, 54, 55, 56, 57, 58, 59, 60, 61, 62, 63, 64, 65, 66, 67, 68, 69, 70, 71, 72, 73, 74, 75, 76, 77, 78, 79, 9, 10, 11, 12, 13, 14] rfl rfl 16 rfl (w2 := fC g q u RQ (va_up (va_up C 4 (va_up (C 4) 6 v.2.1)) 6 (va_up (va_up (C 6) 0 (fun _ => v.2.2.1)) 1 (fun _ => v.2.2.2.1))) CL ++ wX0 g (RQ kk 7) (RQ kk) (va_up (va_up (va_up (va_up (va_up (va_up (va_up (RF kk) 0 (fun _ => v.2.2.2.2.1)) 1 (fun _ => v.2.2.2.2.2.1)) 2 v.2.2.2.2.2.2.1) 3 v.2.2.2.2.2.2.2.1) 4 v.2.2.2.2.2.2.2.2.1) 5 v.2.2.2.2.2.2.2.2.2.1) 6 v.2.2.2.2.2.2.2.2.2.2)) rfl rfl (As := [.int (xs (x3 + 1).toNatClampNeg)]) (rest := []) rfl hl.1 rfl rfl dL_law_361 (fun H locs hP hD hS => ?_)
  have hP := P_perm (perm_back hkk _ _ _ _ _) hP
  have hD := D_perm (perm_back hkk _ _ _ _ _) hD
  have hP := P_perm (List.perm_append_comm_assoc _ _ _) hP
  have hD := D_perm (List.perm_append_comm_assoc _ _ _) hD
  refine lv_aload_n hx hb dL_law_364 rfl (lv_at hl 2 rfl) ?_
  refine lv_aload_n hx hb dL_law_365 rfl (lv_at hl 0 rfl) ?_
  refine lv_iload_n hx hb dL_law_366 rfl (lv_at hl 3 rfl) ?_
  refine lv_iconst (v := (1 : Int32)) hx hb dL_law_367 (by decide) ?_
  refine lv_iadd hx hb dL_law_368 ?_
  refine va_sld hx hb hX hbl hbA hS h1 dL_law_369 ?_
  refine kLi (X := fC g q u RQ (va_up (va_up C 4 (va_up (C 4) 6 v.2.1)) 6 (va_up (va_up (C 6) 0 (fun _ => v.2.2.1)) 1 (fun _ => v.2.2.2.1))) CL ++ pF g 20 RQ (va_up RF kk (va_up (va_up (va_up (va_up (va_up (va_up (va_up (RF kk) 0 (fun _ => v.2.2.2.2.1)) 1 (fun _ => v.2.2.2.2.2.1)) 2 v.2.2.2.2.2.2.1) 3 v.2.2.2.2.2.2.2.1) 4 v.2.2.2.2.2.2.2.2.1) 5 v.2.2.2.2.2.2.2.2.2.1) 6 v.2.2.2.2.2.2.2.2.2.2))) (ws := wX10 g qm Qm M ML) ⟨hx, hb, hml, hown, hts⟩ (c_X10_letIn l g qm Qm N M (xs (x3 + 1).toNatClampNeg) w hw H.size) (gV u_ml_L_47 u_im_X10_letIn u_se_X10_letIn u_ini_X10 u_co_X10_letIn) hd_X10_letIn ⟨rfl, rfl⟩ hcs hK hP hD hS hA 0 10 rfl rfl [0, 6, 8] [0, 4, 5, 6, 7, 8, 1, 10, 2, 12, 13, 14, 15, 16, 17, 18, 19, 20, 21, 22] rfl rfl 3 rfl (w2 := wX10 g qm Qm (va_up (va_up (va_up M 20 w.2.1) 22 w.2.2.1) 23 (fun _ => w.2.2.2)) ML) rfl rfl (As := [.int (xs (x3 + 1).toNatClampNeg)]) (rest := [.int v.1]) rfl hl.1 rfl rfl dL_law_370 (fun H locs hP hD hS => ?_)
  have hP := P_perm (List.perm_append_comm_assoc _ _ _) hP
  have hD := D_perm (List.perm_append_comm_assoc _ _ _) hD
  refine lv_icmp_eq (tgt := 1082) hx hb dL_law_373 (by decide) (fun _ => ?_) (fun c9 => absurd heq c9)
  exact kn H locs ls hP hD hS hl
set_option maxHeartbeats 8000000 in
set_option maxRecDepth 100000 in
theorem L_hour {p : Program} {l : Launch} {e : Env} {s : State} {m : MethodId} {below : List Frame} {meth : Method} {c : Code} {g : gG} {A : Nat → Prop} {Q : State → Prop} {cells slots b L : Nat} {xs : Nat → Int32} (E : EL p s m meth c b L xs g A) (hcs : cells ≤ 600000 ∧ slots ≤ 7302250) (N q qm : Nat) (x3 : Int32) (u RQ : Nat → Ad) (C : Nat → St) (CL : Nat → SL) (RF : Nat → St) (Qm : Ad) (M : St) (ML : SL) (h1 : vp_in (x3 + 1) L) (kk : Nat) (hkk : kk < 20) (v : Int32 × Int32 × (Nat → Int32) × (Nat → Int32) × (Nat → Int32) × (Nat → Int32) × Int32 × Int32 × Int32 × Int32 × (Nat → Int32) × (Nat → Int32) × (Nat → Int32) × (Nat → Int32) × (Nat → Int32)) (w : Int32 × (Nat → Int32) × (Nat → Int32) × Int32) (hv : x_X9_hour N (RQ kk 7) (C 0) (C 4) (C 6) (fun i => some (RQ i 7)) (RF kk) (C 2) (xs (x3 + 1).toNatClampNeg) = some v) (hw : x_X10_hour N M (xs (x3 + 1).toNatClampNeg) = some w) (heq : v.1 = w.1) (kn : WL p l e s m below meth c g A Q cells slots 1082 b q qm x3 u RQ (va_up (va_up C 4 (va_up (va_up (va_up (va_up (va_up (C 4) 0 (fun _ => v.2.1)) 2 v.2.2.1) 4 v.2.2.2.1) 5 v.2.2.2.2.1) 6 v.2.2.2.2.2.1)) 6 (va_up (va_up (C 6) 0 (fun _ => v.2.2.2.2.2.2.1)) 1 (fun _ => v.2.2.2.2.2.2.2.1))) CL (va_up RF kk (va_up (va_up (va_up (va_up (va_up (va_up (va_up (RF kk) 0 (fun _ => v.2.2.2.2.2.2.2.2.1)) 1 (fun _ => v.2.2.2.2.2.2.2.2.2.1)) 2 v.2.2.2.2.2.2.2.2.2.2.1) 3 v.2.2.2.2.2.2.2.2.2.2.2.1) 4 v.2.2.2.2.2.2.2.2.2.2.2.2.1) 5 v.2.2.2.2.2.2.2.2.2.2.2.2.2.1) 6 v.2.2.2.2.2.2.2.2.2.2.2.2.2.2)) Qm (va_up (va_up (va_up M 20 w.2.1) 22 w.2.2.1) 23 (fun _ => w.2.2.2)) ML) : WL p l e s m below meth c g A Q cells slots 378 b q qm x3 u RQ C CL RF Qm M ML := by
  obtain ⟨⟨hx, hb, hml, hown, hts⟩, hr, hK, hA, hlk, hX, hbl, hbA, hL⟩ := id E
  intro H locs ls hP hD hS hl
  refine lv_aload_n hx hb dL_law_378 rfl (lv_at hl 1 rfl) ?_
  refine lv_aload_n hx hb dL_law_379 rfl (lv_at hl 0 rfl) ?_
  refine lv_iload_n hx hb dL_law_380 rfl (lv_at hl 3 rfl) ?_
  refine lv_iconst (v := (1 : Int32)) hx hb dL_law_381 (by decide) ?_
  refine lv_iadd hx hb dL_law_382 ?_
  refine va_sld hx hb hX hbl hbA hS h1 dL_law_383 ?_
  have hP := P_perm (perm_out hkk _ _ _ _) hP
  have hD := D_perm (perm_out hkk _ _ _ _) hD
  refine kLi (X := wX10 g qm Qm M ML ++ pX g kk RQ RF) (ws := fC g q u RQ C CL ++ wX0 g (RQ kk 7) (RQ kk) (RF kk)) ⟨hx, hb, hml, hown, hts⟩ (c_X9_hour l g q (u 0) (u 4) (u 6) (RQ kk) (u 2) N (RQ kk 7) (C 0) (C 4) (C 6) (fun i => some (RQ i 7)) (RF kk) (C 2) (xs (x3 + 1).toNatClampNeg) v hv H.size) (gV u_ml_L_48 u_im_X9_hour u_se_X9_hour u_ini_X9 u_co_X9_hour) hd_X9_hour ⟨rfl, rfl⟩ hcs hK hP hD hS hA 0 9 rfl rfl [0, 17, 18, 19, 20, 21, 22, 29, 30, 64, 65, 66, 67, 68, 69, 3, 4, 6, 7, 8] [0, 21, 22, 15, 16, 25, 17, 18, 19, 29, 30, 31, 32, 33, 34, 35, 36, 1, 2, 3, 4, 5, 6, 43, 44, 45, 46, 47, 48, 7, 8, 51, 52, 53, 54, 55, 56, 57, 58, 59, 60, 61, 62, 63, 64, 65, 66, 67, 68, 69, 70, 71, 72, 73, 74, 75, 76, 77, 78, 79, 80, 81, 82, 83, 9, 10, 11, 12, 13, 14] rfl rfl 20 rfl (w2 := fC g q u RQ (va_up (va_up C 4 (va_up (va_up (va_up (va_up (va_up (C 4) 0 (fun _ => v.2.1)) 2 v.2.2.1) 4 v.2.2.2.1) 5 v.2.2.2.2.1) 6 v.2.2.2.2.2.1)) 6 (va_up (va_up (C 6) 0 (fun _ => v.2.2.2.2.2.2.1)) 1 (fun _ => v.2.2.2.2.2.2.2.1))) CL ++ wX0 g (RQ kk 7) (RQ kk) (va_up (va_up (va_up (va_up (va_up (va_up (va_up (RF kk) 0 (fun _ => v.2.2.2.2.2.2.2.2.1)) 1 (fun _ => v.2.2.2.2.2.2.2.2.2.1)) 2 v.2.2.2.2.2.2.2.2.2.2.1) 3 v.2.2.2.2.2.2.2.2.2.2.2.1) 4 v.2.2.2.2.2.2.2.2.2.2.2.2.1) 5 v.2.2.2.2.2.2.2.2.2.2.2.2.2.1) 6 v.2.2.2.2.2.2.2.2.2.2.2.2.2.2)) rfl rfl (As := [.int (xs (x3 + 1).toNatClampNeg)]) (rest := []) rfl hl.1 rfl rfl dL_law_384 (fun H locs hP hD hS => ?_)
  have hP := P_perm (perm_back hkk _ _ _ _ _) hP
  have hD := D_perm (perm_back hkk _ _ _ _ _) hD
  have hP := P_perm (List.perm_append_comm_assoc _ _ _) hP
  have hD := D_perm (List.perm_append_comm_assoc _ _ _) hD
  refine lv_aload_n hx hb dL_law_387 rfl (lv_at hl 2 rfl) ?_
  refine lv_aload_n hx hb dL_law_388 rfl (lv_at hl 0 rfl) ?_
  refine lv_iload_n hx hb dL_law_389 rfl (lv_at hl 3 rfl) ?_
  refine lv_iconst (v := (1 : Int32)) hx hb dL_law_390 (by decide) ?_
  refine lv_iadd hx hb dL_law_391 ?_
  refine va_sld hx hb hX hbl hbA hS h1 dL_law_392 ?_
  refine kLi (X := fC g q u RQ (va_up (va_up C 4 (va_up (va_up (va_up (va_up (va_up (C 4) 0 (fun _ => v.2.1)) 2 v.2.2.1) 4 v.2.2.2.1) 5 v.2.2.2.2.1) 6 v.2.2.2.2.2.1)) 6 (va_up (va_up (C 6) 0 (fun _ => v.2.2.2.2.2.2.1)) 1 (fun _ => v.2.2.2.2.2.2.2.1))) CL ++ pF g 20 RQ (va_up RF kk (va_up (va_up (va_up (va_up (va_up (va_up (va_up (RF kk) 0 (fun _ => v.2.2.2.2.2.2.2.2.1)) 1 (fun _ => v.2.2.2.2.2.2.2.2.2.1)) 2 v.2.2.2.2.2.2.2.2.2.2.1) 3 v.2.2.2.2.2.2.2.2.2.2.2.1) 4 v.2.2.2.2.2.2.2.2.2.2.2.2.1) 5 v.2.2.2.2.2.2.2.2.2.2.2.2.2.1) 6 v.2.2.2.2.2.2.2.2.2.2.2.2.2.2))) (ws := wX10 g qm Qm M ML) ⟨hx, hb, hml, hown, hts⟩ (c_X10_hour l g qm Qm N M (xs (x3 + 1).toNatClampNeg) w hw H.size) (gV u_ml_L_51 u_im_X10_hour u_se_X10_hour u_ini_X10 u_co_X10_hour) hd_X10_hour ⟨rfl, rfl⟩ hcs hK hP hD hS hA 0 10 rfl rfl [0, 4, 5, 6, 8] [0, 6, 7, 8, 1, 2, 3, 12, 4, 14, 15, 16, 17, 18, 19, 20, 21, 22, 23, 24] rfl rfl 5 rfl (w2 := wX10 g qm Qm (va_up (va_up (va_up M 20 w.2.1) 22 w.2.2.1) 23 (fun _ => w.2.2.2)) ML) rfl rfl (As := [.int (xs (x3 + 1).toNatClampNeg)]) (rest := [.int v.1]) rfl hl.1 rfl rfl dL_law_393 (fun H locs hP hD hS => ?_)
  have hP := P_perm (List.perm_append_comm_assoc _ _ _) hP
  have hD := D_perm (List.perm_append_comm_assoc _ _ _) hD
  refine lv_icmp_eq (tgt := 1082) hx hb dL_law_396 (by decide) (fun _ => ?_) (fun c9 => absurd heq c9)
  exact kn H locs ls hP hD hS hl
set_option maxHeartbeats 8000000 in
set_option maxRecDepth 100000 in
theorem L_gate {p : Program} {l : Launch} {e : Env} {s : State} {m : MethodId} {below : List Frame} {meth : Method} {c : Code} {g : gG} {A : Nat → Prop} {Q : State → Prop} {cells slots b L : Nat} {xs : Nat → Int32} (E : EL p s m meth c b L xs g A) (hcs : cells ≤ 600000 ∧ slots ≤ 7302250) (N q qm : Nat) (x3 : Int32) (u RQ : Nat → Ad) (C : Nat → St) (CL : Nat → SL) (RF : Nat → St) (Qm : Ad) (M : St) (ML : SL) (h1 : vp_in (x3 + 1) L) (h2 : vp_in (x3 + 2) L) (kk : Nat) (hkk : kk < 20) (v : Int32 × Int32 × Int32 × Int32 × Int32 × Int32 × (Nat → Int32) × (Nat → Int32) × (Nat → Int32) × (Nat → Int32) × (Nat → Int32)) (w : Int32 × (Nat → Int32) × (Nat → Int32) × Int32) (hv : x_X9_gate (RQ kk 7) (C 0) (C 4) (C 6) (fun i => some (RQ i 7)) (RF kk) (C 2) (xs (x3 + 1).toNatClampNeg) (bz (xs (x3 + 2).toNatClampNeg)) = some v) (hw : x_X10_gate N M (xs (x3 + 1).toNatClampNeg) (bz (xs (x3 + 2).toNatClampNeg)) = some w) (heq : v.1 = w.1) (kn : WL p l e s m below meth c g A Q cells slots 1082 b q qm x3 u RQ (va_up (va_up C 4 (va_up (C 4) 1 (fun _ => v.2.1))) 6 (va_up (va_up (C 6) 0 (fun _ => v.2.2.1)) 1 (fun _ => v.2.2.2.1))) CL (va_up RF kk (va_up (va_up (va_up (va_up (va_up (va_up (va_up (RF kk) 0 (fun _ => v.2.2.2.2.1)) 1 (fun _ => v.2.2.2.2.2.1)) 2 v.2.2.2.2.2.2.1) 3 v.2.2.2.2.2.2.2.1) 4 v.2.2.2.2.2.2.2.2.1) 5 v.2.2.2.2.2.2.2.2.2.1) 6 v.2.2.2.2.2.2.2.2.2.2)) Qm (va_up (va_up (va_up M 20 w.2.1) 22 w.2.2.1) 23 (fun _ => w.2.2.2)) ML) : WL p l e s m below meth c g A Q cells slots 401 b q qm x3 u RQ C CL RF Qm M ML := by
  obtain ⟨⟨hx, hb, hml, hown, hts⟩, hr, hK, hA, hlk, hX, hbl, hbA, hL⟩ := id E
  intro H locs ls hP hD hS hl
  refine lv_aload_n hx hb dL_law_401 rfl (lv_at hl 1 rfl) ?_
  refine lv_aload_n hx hb dL_law_402 rfl (lv_at hl 0 rfl) ?_
  refine lv_iload_n hx hb dL_law_403 rfl (lv_at hl 3 rfl) ?_
  refine lv_iconst (v := (1 : Int32)) hx hb dL_law_404 (by decide) ?_
  refine lv_iadd hx hb dL_law_405 ?_
  refine va_sld hx hb hX hbl hbA hS h1 dL_law_406 ?_
  refine lv_aload_n hx hb dL_law_407 rfl (lv_at hl 0 rfl) ?_
  refine lv_iload_n hx hb dL_law_408 rfl (lv_at hl 3 rfl) ?_
  refine lv_iconst (v := (2 : Int32)) hx hb dL_law_409 (by decide) ?_
  refine lv_iadd hx hb dL_law_410 ?_
  refine va_sld hx hb hX hbl hbA hS h2 dL_law_411 ?_
  refine bz_row hx hb dL_law_412 dL_law_415 dL_law_416 dL_law_419 (by decide) (by decide) ?_
  have hP := P_perm (perm_out hkk _ _ _ _) hP
  have hD := D_perm (perm_out hkk _ _ _ _) hD
  refine kLi (X := wX10 g qm Qm M ML ++ pX g kk RQ RF) (ws := fC g q u RQ C CL ++ wX0 g (RQ kk 7) (RQ kk) (RF kk)) ⟨hx, hb, hml, hown, hts⟩ (c_X9_gate l g q (u 0) (u 4) (u 6) (RQ kk) (u 2) (RQ kk 7) (C 0) (C 4) (C 6) (fun i => some (RQ i 7)) (RF kk) (C 2) (xs (x3 + 1).toNatClampNeg) (bz (xs (x3 + 2).toNatClampNeg)) v hv H.size) (gV u_ml_L_52 u_im_X9_gate u_se_X9_gate u_ini_X9 u_co_X9_gate) hd_X9_gate ⟨rfl, rfl⟩ hcs hK hP hD hS hA 0 9 rfl rfl [0, 17, 18, 19, 20, 21, 22, 29, 30, 64, 65, 66, 67, 68, 69, 3] [0, 17, 18, 15, 20, 21, 22, 23, 24, 25, 26, 27, 28, 29, 30, 31, 32, 1, 2, 3, 4, 5, 6, 39, 40, 41, 42, 43, 44, 7, 8, 47, 48, 49, 50, 51, 52, 53, 54, 55, 56, 57, 58, 59, 60, 61, 62, 63, 64, 65, 66, 67, 68, 69, 70, 71, 72, 73, 74, 75, 76, 77, 78, 79, 9, 10, 11, 12, 13, 14] rfl rfl 16 rfl (w2 := fC g q u RQ (va_up (va_up C 4 (va_up (C 4) 1 (fun _ => v.2.1))) 6 (va_up (va_up (C 6) 0 (fun _ => v.2.2.1)) 1 (fun _ => v.2.2.2.1))) CL ++ wX0 g (RQ kk 7) (RQ kk) (va_up (va_up (va_up (va_up (va_up (va_up (va_up (RF kk) 0 (fun _ => v.2.2.2.2.1)) 1 (fun _ => v.2.2.2.2.2.1)) 2 v.2.2.2.2.2.2.1) 3 v.2.2.2.2.2.2.2.1) 4 v.2.2.2.2.2.2.2.2.1) 5 v.2.2.2.2.2.2.2.2.2.1) 6 v.2.2.2.2.2.2.2.2.2.2)) rfl rfl (As := [.int (xs (x3 + 1).toNatClampNeg), .int (bz (xs (x3 + 2).toNatClampNeg))]) (rest := []) rfl hl.1 rfl rfl dL_law_420 (fun H locs hP hD hS => ?_)
  have hP := P_perm (perm_back hkk _ _ _ _ _) hP
  have hD := D_perm (perm_back hkk _ _ _ _ _) hD
  have hP := P_perm (List.perm_append_comm_assoc _ _ _) hP
  have hD := D_perm (List.perm_append_comm_assoc _ _ _) hD
  refine lv_aload_n hx hb dL_law_423 rfl (lv_at hl 2 rfl) ?_
  refine lv_aload_n hx hb dL_law_424 rfl (lv_at hl 0 rfl) ?_
  refine lv_iload_n hx hb dL_law_425 rfl (lv_at hl 3 rfl) ?_
  refine lv_iconst (v := (1 : Int32)) hx hb dL_law_426 (by decide) ?_
  refine lv_iadd hx hb dL_law_427 ?_
  refine va_sld hx hb hX hbl hbA hS h1 dL_law_428 ?_
  refine lv_aload_n hx hb dL_law_429 rfl (lv_at hl 0 rfl) ?_
  refine lv_iload_n hx hb dL_law_430 rfl (lv_at hl 3 rfl) ?_
  refine lv_iconst (v := (2 : Int32)) hx hb dL_law_431 (by decide) ?_
  refine lv_iadd hx hb dL_law_432 ?_
  refine va_sld hx hb hX hbl hbA hS h2 dL_law_433 ?_
  refine bz_row hx hb dL_law_434 dL_law_437 dL_law_438 dL_law_441 (by decide) (by decide) ?_
  refine kLi (X := fC g q u RQ (va_up (va_up C 4 (va_up (C 4) 1 (fun _ => v.2.1))) 6 (va_up (va_up (C 6) 0 (fun _ => v.2.2.1)) 1 (fun _ => v.2.2.2.1))) CL ++ pF g 20 RQ (va_up RF kk (va_up (va_up (va_up (va_up (va_up (va_up (va_up (RF kk) 0 (fun _ => v.2.2.2.2.1)) 1 (fun _ => v.2.2.2.2.2.1)) 2 v.2.2.2.2.2.2.1) 3 v.2.2.2.2.2.2.2.1) 4 v.2.2.2.2.2.2.2.2.1) 5 v.2.2.2.2.2.2.2.2.2.1) 6 v.2.2.2.2.2.2.2.2.2.2))) (ws := wX10 g qm Qm M ML) ⟨hx, hb, hml, hown, hts⟩ (c_X10_gate l g qm Qm N M (xs (x3 + 1).toNatClampNeg) (bz (xs (x3 + 2).toNatClampNeg)) w hw H.size) (gV u_ml_L_56 u_im_X10_gate u_se_X10_gate u_ini_X10 u_co_X10_gate) hd_X10_gate ⟨rfl, rfl⟩ hcs hK hP hD hS hA 0 10 rfl rfl [0, 6, 8] [0, 4, 5, 6, 7, 8, 1, 10, 2, 12, 13, 14, 15, 16, 17, 18, 19, 20, 21, 22] rfl rfl 3 rfl (w2 := wX10 g qm Qm (va_up (va_up (va_up M 20 w.2.1) 22 w.2.2.1) 23 (fun _ => w.2.2.2)) ML) rfl rfl (As := [.int (xs (x3 + 1).toNatClampNeg), .int (bz (xs (x3 + 2).toNatClampNeg))]) (rest := [.int v.1]) rfl hl.1 rfl rfl dL_law_442 (fun H locs hP hD hS => ?_)
  have hP := P_perm (List.perm_append_comm_assoc _ _ _) hP
  have hD := D_perm (List.perm_append_comm_assoc _ _ _) hD
  refine lv_icmp_eq (tgt := 1082) hx hb dL_law_445 (by decide) (fun _ => ?_) (fun c9 => absurd heq c9)
  exact kn H locs ls hP hD hS hl
set_option maxHeartbeats 8000000 in
set_option maxRecDepth 100000 in
theorem L_clear {p : Program} {l : Launch} {e : Env} {s : State} {m : MethodId} {below : List Frame} {meth : Method} {c : Code} {g : gG} {A : Nat → Prop} {Q : State → Prop} {cells slots b L : Nat} {xs : Nat → Int32} (E : EL p s m meth c b L xs g A) (hcs : cells ≤ 600000 ∧ slots ≤ 7302250) (N q qm : Nat) (x3 : Int32) (u RQ : Nat → Ad) (C : Nat → St) (CL : Nat → SL) (RF : Nat → St) (Qm : Ad) (M : St) (ML : SL) (h1 : vp_in (x3 + 1) L) (kk : Nat) (hkk : kk < 20) (v : Int32 × (Nat → Int32) × Int32 × Int32 × Int32 × Int32 × (Nat → Int32) × (Nat → Int32) × (Nat → Int32) × (Nat → Int32) × (Nat → Int32)) (w : Int32 × (Nat → Int32) × (Nat → Int32) × Int32) (hv : x_X9_clear (RQ kk 7) (C 0) (C 4) (C 6) (fun i => some (RQ i 7)) (RF kk) (C 2) (xs (x3 + 1).toNatClampNeg) = some v) (hw : x_X10_clear N M (xs (x3 + 1).toNatClampNeg) = some w) (heq : v.1 = w.1) (kn : WL p l e s m below meth c g A Q cells slots 1082 b q qm x3 u RQ (va_up (va_up C 4 (va_up (C 4) 2 v.2.1)) 6 (va_up (va_up (C 6) 0 (fun _ => v.2.2.1)) 1 (fun _ => v.2.2.2.1))) CL (va_up RF kk (va_up (va_up (va_up (va_up (va_up (va_up (va_up (RF kk) 0 (fun _ => v.2.2.2.2.1)) 1 (fun _ => v.2.2.2.2.2.1)) 2 v.2.2.2.2.2.2.1) 3 v.2.2.2.2.2.2.2.1) 4 v.2.2.2.2.2.2.2.2.1) 5 v.2.2.2.2.2.2.2.2.2.1) 6 v.2.2.2.2.2.2.2.2.2.2)) Qm (va_up (va_up (va_up M 20 w.2.1) 22 w.2.2.1) 23 (fun _ => w.2.2.2)) ML) : WL p l e s m below meth c g A Q cells slots 450 b q qm x3 u RQ C CL RF Qm M ML := by
  obtain ⟨⟨hx, hb, hml, hown, hts⟩, hr, hK, hA, hlk, hX, hbl, hbA, hL⟩ := id E
  intro H locs ls hP hD hS hl
  refine lv_aload_n hx hb dL_law_450 rfl (lv_at hl 1 rfl) ?_
  refine lv_aload_n hx hb dL_law_451 rfl (lv_at hl 0 rfl) ?_
  refine lv_iload_n hx hb dL_law_452 rfl (lv_at hl 3 rfl) ?_
  refine lv_iconst (v := (1 : Int32)) hx hb dL_law_453 (by decide) ?_
  refine lv_iadd hx hb dL_law_454 ?_
  refine va_sld hx hb hX hbl hbA hS h1 dL_law_455 ?_
  have hP := P_perm (perm_out hkk _ _ _ _) hP
  have hD := D_perm (perm_out hkk _ _ _ _) hD
  refine kLi (X := wX10 g qm Qm M ML ++ pX g kk RQ RF) (ws := fC g q u RQ C CL ++ wX0 g (RQ kk 7) (RQ kk) (RF kk)) ⟨hx, hb, hml, hown, hts⟩ (c_X9_clear l g q (u 0) (u 4) (u 6) (RQ kk) (u 2) (RQ kk 7) (C 0) (C 4) (C 6) (fun i => some (RQ i 7)) (RF kk) (C 2) (xs (x3 + 1).toNatClampNeg) v hv H.size) (gV u_ml_L_57 u_im_X9_clear u_se_X9_clear u_ini_X9 u_co_X9_clear) hd_X9_clear ⟨rfl, rfl⟩ hcs hK hP hD hS hA 0 9 rfl rfl [0, 17, 18, 19, 20, 21, 22, 29, 30, 64, 65, 66, 67, 68, 69, 3] [0, 17, 18, 15, 20, 21, 22, 23, 24, 25, 26, 27, 28, 29, 30, 31, 32, 1, 2, 3, 4, 5, 6, 39, 40, 41, 42, 43, 44, 7, 8, 47, 48, 49, 50, 51, 52, 53, 54, 55, 56, 57, 58, 59, 60, 61, 62, 63, 64, 65, 66, 67, 68, 69, 70, 71, 72, 73, 74, 75, 76, 77, 78, 79, 9, 10, 11, 12, 13, 14] rfl rfl 16 rfl (w2 := fC g q u RQ (va_up (va_up C 4 (va_up (C 4) 2 v.2.1)) 6 (va_up (va_up (C 6) 0 (fun _ => v.2.2.1)) 1 (fun _ => v.2.2.2.1))) CL ++ wX0 g (RQ kk 7) (RQ kk) (va_up (va_up (va_up (va_up (va_up (va_up (va_up (RF kk) 0 (fun _ => v.2.2.2.2.1)) 1 (fun _ => v.2.2.2.2.2.1)) 2 v.2.2.2.2.2.2.1) 3 v.2.2.2.2.2.2.2.1) 4 v.2.2.2.2.2.2.2.2.1) 5 v.2.2.2.2.2.2.2.2.2.1) 6 v.2.2.2.2.2.2.2.2.2.2)) rfl rfl (As := [.int (xs (x3 + 1).toNatClampNeg)]) (rest := []) rfl hl.1 rfl rfl dL_law_456 (fun H locs hP hD hS => ?_)
  have hP := P_perm (perm_back hkk _ _ _ _ _) hP
  have hD := D_perm (perm_back hkk _ _ _ _ _) hD
  have hP := P_perm (List.perm_append_comm_assoc _ _ _) hP
  have hD := D_perm (List.perm_append_comm_assoc _ _ _) hD
  refine lv_aload_n hx hb dL_law_459 rfl (lv_at hl 2 rfl) ?_
  refine lv_aload_n hx hb dL_law_460 rfl (lv_at hl 0 rfl) ?_
  refine lv_iload_n hx hb dL_law_461 rfl (lv_at hl 3 rfl) ?_
  refine lv_iconst (v := (1 : Int32)) hx hb dL_law_462 (by decide) ?_
  refine lv_iadd hx hb dL_law_463 ?_
  refine va_sld hx hb hX hbl hbA hS h1 dL_law_464 ?_
  refine kLi (X := fC g q u RQ (va_up (va_up C 4 (va_up (C 4) 2 v.2.1)) 6 (va_up (va_up (C 6) 0 (fun _ => v.2.2.1)) 1 (fun _ => v.2.2.2.1))) CL ++ pF g 20 RQ (va_up RF kk (va_up (va_up (va_up (va_up (va_up (va_up (va_up (RF kk) 0 (fun _ => v.2.2.2.2.1)) 1 (fun _ => v.2.2.2.2.2.1)) 2 v.2.2.2.2.2.2.1) 3 v.2.2.2.2.2.2.2.1) 4 v.2.2.2.2.2.2.2.2.1) 5 v.2.2.2.2.2.2.2.2.2.1) 6 v.2.2.2.2.2.2.2.2.2.2))) (ws := wX10 g qm Qm M ML) ⟨hx, hb, hml, hown, hts⟩ (c_X10_clear l g qm Qm N M (xs (x3 + 1).toNatClampNeg) w hw H.size) (gV u_ml_L_60 u_im_X10_clear u_se_X10_clear u_ini_X10 u_co_X10_clear) hd_X10_clear ⟨rfl, rfl⟩ hcs hK hP hD hS hA 0 10 rfl rfl [0, 6, 8] [0, 4, 5, 6, 7, 8, 1, 10, 2, 12, 13, 14, 15, 16, 17, 18, 19, 20, 21, 22] rfl rfl 3 rfl (w2 := wX10 g qm Qm (va_up (va_up (va_up M 20 w.2.1) 22 w.2.2.1) 23 (fun _ => w.2.2.2)) ML) rfl rfl (As := [.int (xs (x3 + 1).toNatClampNeg)]) (rest := [.int v.1]) rfl hl.1 rfl rfl dL_law_465 (fun H locs hP hD hS => ?_)
  have hP := P_perm (List.perm_append_comm_assoc _ _ _) hP
  have hD := D_perm (List.perm_append_comm_assoc _ _ _) hD
  refine lv_icmp_eq (tgt := 1082) hx hb dL_law_468 (by decide) (fun _ => ?_) (fun c9 => absurd heq c9)
  exact kn H locs ls hP hD hS hl
set_option maxHeartbeats 8000000 in
set_option maxRecDepth 100000 in
theorem L_crack {p : Program} {l : Launch} {e : Env} {s : State} {m : MethodId} {below : List Frame} {meth : Method} {c : Code} {g : gG} {A : Nat → Prop} {Q : State → Prop} {cells slots b L : Nat} {xs : Nat → Int32} (E : EL p s m meth c b L xs g A) (hcs : cells ≤ 600000 ∧ slots ≤ 7302250) (N q qm : Nat) (x3 : Int32) (u RQ : Nat → Ad) (C : Nat → St) (CL : Nat → SL) (RF : Nat → St) (Qm : Ad) (M : St) (ML : SL) (h1 : vp_in (x3 + 1) L) (h2 : vp_in (x3 + 2) L) (kk : Nat) (hkk : kk < 20) (v : Int32 × (Nat → Int32) × Int32 × Int32 × Int32 × Int32 × (Nat → Int32) × (Nat → Int32) × (Nat → Int32) × (Nat → Int32) × (Nat → Int32)) (w : Int32 × (Nat → Int32) × (Nat → Int32) × Int32) (hv : x_X9_crack (RQ kk 7) (C 0) (C 4) (C 6) (fun i => some (RQ i 7)) (RF kk) (C 2) (xs (x3 + 1).toNatClampNeg) (xs (x3 + 2).toNatClampNeg) = some v) (hw : x_X10_crack N M (xs (x3 + 1).toNatClampNeg) (xs (x3 + 2).toNatClampNeg) = some w) (heq : v.1 = w.1) (kn : WL p l e s m below meth c g A Q cells slots 1082 b q qm x3 u RQ (va_up (va_up C 4 (va_up (C 4) 3 v.2.1)) 6 (va_up (va_up (C 6) 0 (fun _ => v.2.2.1)) 1 (fun _ => v.2.2.2.1))) CL (va_up RF kk (va_up (va_up (va_up (va_up (va_up (va_up (va_up (RF kk) 0 (fun _ => v.2.2.2.2.1)) 1 (fun _ => v.2.2.2.2.2.1)) 2 v.2.2.2.2.2.2.1) 3 v.2.2.2.2.2.2.2.1) 4 v.2.2.2.2.2.2.2.2.1) 5 v.2.2.2.2.2.2.2.2.2.1) 6 v.2.2.2.2.2.2.2.2.2.2)) Qm (va_up (va_up (va_up M 20 w.2.1) 22 w.2.2.1) 23 (fun _ => w.2.2.2)) ML) : WL p l e s m below meth c g A Q cells slots 473 b q qm x3 u RQ C CL RF Qm M ML := by
  obtain ⟨⟨hx, hb, hml, hown, hts⟩, hr, hK, hA, hlk, hX, hbl, hbA, hL⟩ := id E
  intro H locs ls hP hD hS hl
  refine lv_aload_n hx hb dL_law_473 rfl (lv_at hl 1 rfl) ?_
  refine lv_aload_n hx hb dL_law_474 rfl (lv_at hl 0 rfl) ?_
  refine lv_iload_n hx hb dL_law_475 rfl (lv_at hl 3 rfl) ?_
  refine lv_iconst (v := (1 : Int32)) hx hb dL_law_476 (by decide) ?_
  refine lv_iadd hx hb dL_law_477 ?_
  refine va_sld hx hb hX hbl hbA hS h1 dL_law_478 ?_
  refine lv_aload_n hx hb dL_law_479 rfl (lv_at hl 0 rfl) ?_
  refine lv_iload_n hx hb dL_law_480 rfl (lv_at hl 3 rfl) ?_
  refine lv_iconst (v := (2 : Int32)) hx hb dL_law_481 (by decide) ?_
  refine lv_iadd hx hb dL_law_482 ?_
  refine va_sld hx hb hX hbl hbA hS h2 dL_law_483 ?_
  have hP := P_perm (perm_out hkk _ _ _ _) hP
  have hD := D_perm (perm_out hkk _ _ _ _) hD
  refine kLi (X := wX10 g qm Qm M ML ++ pX g kk RQ RF) (ws := fC g q u RQ C CL ++ wX0 g (RQ kk 7) (RQ kk) (RF kk)) ⟨hx, hb, hml, hown, hts⟩ (c_X9_crack l g q (u 0) (u 4) (u 6) (RQ kk) (u 2) (RQ kk 7) (C 0) (C 4) (C 6) (fun i => some (RQ i 7)) (RF kk) (C 2) (xs (x3 + 1).toNatClampNeg) (xs (x3 + 2).toNatClampNeg) v hv H.size) (gV u_ml_L_61 u_im_X9_crack u_se_X9_crack u_ini_X9 u_co_X9_crack) hd_X9_crack ⟨rfl, rfl⟩ hcs hK hP hD hS hA 0 9 rfl rfl [0, 17, 18, 19, 20, 21, 22, 29, 30, 64, 65, 66, 67, 68, 69, 3] [0, 17, 18, 15, 20, 21, 22, 23, 24, 25, 26, 27, 28, 29, 30, 31, 32, 1, 2, 3, 4, 5, 6, 39, 40, 41, 42, 43, 44, 7, 8, 47, 48, 49, 50, 51, 52, 53, 54, 55, 56, 57, 58, 59, 60, 61, 62, 63, 64, 65, 66, 67, 68, 69, 70, 71, 72, 73, 74, 75, 76, 77, 78, 79, 9, 10, 11, 12, 13, 14] rfl rfl 16 rfl (w2 := fC g q u RQ (va_up (va_up C 4 (va_up (C 4) 3 v.2.1)) 6 (va_up (va_up (C 6) 0 (fun _ => v.2.2.1)) 1 (fun _ => v.2.2.2.1))) CL ++ wX0 g (RQ kk 7) (RQ kk) (va_up (va_up (va_up (va_up (va_up (va_up (va_up (RF kk) 0 (fun _ => v.2.2.2.2.1)) 1 (fun _ => v.2.2.2.2.2.1)) 2 v.2.2.2.2.2.2.1) 3 v.2.2.2.2.2.2.2.1) 4 v.2.2.2.2.2.2.2.2.1) 5 v.2.2.2.2.2.2.2.2.2.1) 6 v.2.2.2.2.2.2.2.2.2.2)) rfl rfl (As := [.int (xs (x3 + 1).toNatClampNeg), .int (xs (x3 + 2).toNatClampNeg)]) (rest := []) rfl hl.1 rfl rfl dL_law_484 (fun H locs hP hD hS => ?_)
  have hP := P_perm (perm_back hkk _ _ _ _ _) hP
  have hD := D_perm (perm_back hkk _ _ _ _ _) hD
  have hP := P_perm (List.perm_append_comm_assoc _ _ _) hP
  have hD := D_perm (List.perm_append_comm_assoc _ _ _) hD
  refine lv_aload_n hx hb dL_law_487 rfl (lv_at hl 2 rfl) ?_
  refine lv_aload_n hx hb dL_law_488 rfl (lv_at hl 0 rfl) ?_
  refine lv_iload_n hx hb dL_law_489 rfl (lv_at hl 3 rfl) ?_
  refine lv_iconst (v := (1 : Int32)) hx hb dL_law_490 (by decide) ?_
  refine lv_iadd hx hb dL_law_491 ?_
  refine va_sld hx hb hX hbl hbA hS h1 dL_law_492 ?_
  refine lv_aload_n hx hb dL_law_493 rfl (lv_at hl 0 rfl) ?_
  refine lv_iload_n hx hb dL_law_494 rfl (lv_at hl 3 rfl) ?_
  refine lv_iconst (v := (2 : Int32)) hx hb dL_law_495 (by decide) ?_
  refine lv_iadd hx hb dL_law_496 ?_
  refine va_sld hx hb hX hbl hbA hS h2 dL_law_497 ?_
  refine kLi (X := fC g q u RQ (va_up (va_up C 4 (va_up (C 4) 3 v.2.1)) 6 (va_up (va_up (C 6) 0 (fun _ => v.2.2.1)) 1 (fun _ => v.2.2.2.1))) CL ++ pF g 20 RQ (va_up RF kk (va_up (va_up (va_up (va_up (va_up (va_up (va_up (RF kk) 0 (fun _ => v.2.2.2.2.1)) 1 (fun _ => v.2.2.2.2.2.1)) 2 v.2.2.2.2.2.2.1) 3 v.2.2.2.2.2.2.2.1) 4 v.2.2.2.2.2.2.2.2.1) 5 v.2.2.2.2.2.2.2.2.2.1) 6 v.2.2.2.2.2.2.2.2.2.2))) (ws := wX10 g qm Qm M ML) ⟨hx, hb, hml, hown, hts⟩ (c_X10_crack l g qm Qm N M (xs (x3 + 1).toNatClampNeg) (xs (x3 + 2).toNatClampNeg) w hw H.size) (gV u_ml_L_64 u_im_X10_crack u_se_X10_crack u_ini_X10 u_co_X10_crack) hd_X10_crack ⟨rfl, rfl⟩ hcs hK hP hD hS hA 0 10 rfl rfl [0, 6, 8] [0, 4, 5, 6, 7, 8, 1, 10, 2, 12, 13, 14, 15, 16, 17, 18, 19, 20, 21, 22] rfl rfl 3 rfl (w2 := wX10 g qm Qm (va_up (va_up (va_up M 20 w.2.1) 22 w.2.2.1) 23 (fun _ => w.2.2.2)) ML) rfl rfl (As := [.int (xs (x3 + 1).toNatClampNeg), .int (xs (x3 + 2).toNatClampNeg)]) (rest := [.int v.1]) rfl hl.1 rfl rfl dL_law_498 (fun H locs hP hD hS => ?_)
  have hP := P_perm (List.perm_append_comm_assoc _ _ _) hP
  have hD := D_perm (List.perm_append_comm_assoc _ _ _) hD
  refine lv_icmp_eq (tgt := 1082) hx hb dL_law_501 (by decide) (fun _ => ?_) (fun c9 => absurd heq c9)
  exact kn H locs ls hP hD hS hl
