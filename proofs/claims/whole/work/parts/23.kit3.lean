/-! making: new cells, constructors' calls -/
abbrev rC (fr ce sl lo : Nat) : Room := { frames := fr, cells := ce, slots := sl, locals := lo }
abbrev z0 : St := fun _ _ => 0
abbrev zL : SL := fun _ _ => 0
abbrev Fi (vc vf : Nat → Int32) : St := va_up (va_up z0 3 vc) 5 vf
abbrev QC (g : gG) (A : Nat → Prop) (w1 : (Nat → Ad) → va_W) : Array Value → State → Outcome → State → Prop := va_Qv (fun (_ : Nat → Ad) => True) (fun u t => cPost g A (w1 u) t) A
abbrev MetC (l : Launch) (y : MethodName) (cc : ByteArray) (maxL fr lo mc ms b : Nat) (g : gG) (wc : va_W) (w1 : (Nat → Ad) → va_W) (sz : Nat) : Prop :=
  Met l y (.code y cc maxL none :: gW) (rC fr mc ms lo) (va_Pc [.ref b] (cPre g wc sz)) (QC g (va_A wc sz) w1) mc ms (va_A wc sz)
theorem arrV_eq {c : ClassId} {n : Nat} {f k : Nat → Value} (h : ∀ j, j < n → f j = k j) : arrV c n f = arrV c n k := by
  unfold arrV
  have e : (fun j : Fin n => f j.val) = (fun j : Fin n => k j.val) := funext fun j => h j.1 j.2
  rw [e]
/-- an array's contents beyond its length are of no matter -/
theorem P_rq {D : va_G} {cl : List vw_C} {ws : va_W} {H : Heap} {a n : Nat} {c : ClassId} {f f' : Nat → Option Nat} (hP : va_P D cl ws H) (k : Nat) (hk : ws[k]? = some (a, .inl (c, n, .inr (.inr (.inr (.inr f)))))) (h : ∀ j, j < n → f j = f' j) : va_P D cl (ws.set k (a, .inl (c, n, .inr (.inr (.inr (.inr f')))))) H := by
  intro i q hq
  by_cases hi : i = k
  · subst hi
    have hl : i < ws.length := (List.getElem?_eq_some_iff.mp hk).1
    rw [List.getElem?_set_self hl] at hq
    cases hq
    have h1 : H[a]? = some (vp_cell c (n, .inr (.inr (.inr (.inr f))))) := hP i _ hk
    show H[a]? = some (vp_cell c (n, .inr (.inr (.inr (.inr f')))))
    rw [h1, vp_cell_q, vp_cell_q, arrV_eq (fun j hj => by rw [h j hj])]
  · rw [List.getElem?_set_ne (Ne.symm hi)] at hq
    exact hP i q hq
theorem P_split {D : va_G} {cl : List vw_C} {a b : va_W} {H : Heap} (h : va_P D cl (a ++ b) H) : va_P D cl a H ∧ va_P D cl b H :=
  ⟨fun k q hq => h k q (by rw [List.getElem?_append_left (List.getElem?_eq_some_iff.mp hq).1]; exact hq), fun k q hq => h (a.length + k) q (by rw [List.getElem?_append_right (Nat.le_add_right _ _), Nat.add_sub_cancel_left]; exact hq)⟩
theorem D_split {A : Nat → Prop} {a b : va_W} (h : va_D A (a ++ b)) : va_D A a ∧ va_D A b ∧ ∀ (i j : Nat) (x y : Nat × va_E), a[i]? = some x → b[j]? = some y → x.1 ≠ y.1 := by
  have la : ∀ {k : Nat} {q : Nat × va_E}, a[k]? = some q → (a ++ b)[k]? = some q := fun hq => by rw [List.getElem?_append_left (List.getElem?_eq_some_iff.mp hq).1]; exact hq
  have lb : ∀ {k : Nat} {q : Nat × va_E}, b[k]? = some q → (a ++ b)[a.length + k]? = some q := fun hq => by rw [List.getElem?_append_right (Nat.le_add_right _ _), Nat.add_sub_cancel_left]; exact hq
  refine ⟨⟨fun i j x y hx hy e => h.1 i j x y (la hx) (la hy) e, fun k q hq => h.2 k q (la hq)⟩, ⟨fun i j x y hx hy e => ?_, fun k q hq => h.2 _ q (lb hq)⟩, fun i j x y hx hy e => ?_⟩
  · have := h.1 _ _ x y (lb hx) (lb hy) e
    omega
  · have h1 := h.1 _ _ x y (la hx) (lb hy) e
    have h2 := (List.getElem?_eq_some_iff.mp hx).1
    omega
theorem D_sw {A : Nat → Prop} {a b : va_W} (h : va_D A (a ++ b)) : va_D A (b ++ a) := by
  obtain ⟨h1, h2, h3⟩ := D_split h
  exact va_D.app h2 h1 (fun i j x y hx hy e => h3 j i y x hy hx e.symm)
theorem wjl {A0 : Nat → Prop} {D : va_G} {cl : List vw_C} {ws wc w1 : va_W} {H H1 : Heap} (hP : va_P D cl (ws ++ wc) H) (hD : va_D A0 (ws ++ wc))
    (hk : ∀ q : Nat, q < H.size → ¬ va_A wc H.size q → H1[q]? = H[q]?) (hF : ∀ q, va_A wc H.size q → A0 q) (hP1 : va_P D cl w1 H1) (hD1 : va_D (va_A wc H.size) w1) : va_P D cl (ws ++ w1) H1 ∧ va_D A0 (ws ++ w1) := by
  obtain ⟨p1, p2⟩ := P_split hP
  obtain ⟨d1, d2, d3⟩ := D_split hD
  have ap : ∀ (k : Nat) (q : Nat × va_E), ws[k]? = some q → q.1 < H.size ∧ ¬ va_A wc H.size q.1 := by
    intro k q hq
    have hl := (p1 k q hq).lt
    refine ⟨hl, fun h => ?_⟩
    rcases h with ⟨k2, e, h⟩ | h
    · exact d3 k k2 q (q.1, e) hq h rfl
    · omega
  refine ⟨va_P.app (fun k q hq => (p1 k q hq).kept (hk q.1 (ap k q hq).1 (ap k q hq).2)) hP1, va_D.app d1 (hD1.weaken (fun k q _ h => hF q.1 h)) (fun i j x y hx hy hxy => ?_)⟩
  exact (ap i x hx).2 (by rw [hxy]; exact hD1.2 j y hy)
theorem free_l {A0 : Nat → Prop} {ws wc : va_W} {H0 H : Heap} {locs : List Loc} (hD : va_D A0 (ws ++ wc)) (hS : va_S A0 H0 H locs) (hA : ∀ q, H0.size ≤ q → A0 q) : ∀ q, va_A wc H.size q → A0 q := by
  intro q h
  rcases h with ⟨k, e, h⟩ | h
  · exact (D_split hD).2.1.2 k (q, e) h
  · exact hA q (Nat.le_trans hS.1 h)
theorem P_iff {D : va_G} {cl : List vw_C} {ws : va_W} {H : Heap} : va_P D cl ws H ↔ ∀ q ∈ ws, va_at D cl q H :=
  ⟨fun h q hq => by obtain ⟨k, hk⟩ := List.getElem?_of_mem hq; exact h k q hk, fun h k q hk => h q (List.mem_of_getElem? hk)⟩
theorem D_iff {A : Nat → Prop} {ws : va_W} : va_D A ws ↔ (ws.map (fun q => q.1)).Nodup ∧ ∀ q ∈ ws, A q.1 := by
  constructor
  · intro h
    refine ⟨?_, fun q hq => by obtain ⟨k, hk⟩ := List.getElem?_of_mem hq; exact h.2 k q hk⟩
    unfold List.Nodup
    rw [List.pairwise_iff_getElem]
    intro i j hi hj hij e
    have hi' : i < ws.length := by simpa using hi
    have hj' : j < ws.length := by simpa using hj
    have := h.1 i j ws[i] ws[j] (List.getElem?_eq_getElem hi') (List.getElem?_eq_getElem hj') (by simpa using e)
    omega
  · intro h
    refine ⟨fun i j p q hp hq e => ?_, fun k q hk => h.2 q (List.mem_of_getElem? hk)⟩
    have h1 := h.1
    unfold List.Nodup at h1
    rw [List.pairwise_iff_getElem] at h1
    obtain ⟨hi, ei⟩ := List.getElem?_eq_some_iff.mp hp
    obtain ⟨hj, ej⟩ := List.getElem?_eq_some_iff.mp hq
    rcases Nat.lt_trichotomy i j with hlt | heq | hlt
    · exact (h1 i j (by simpa using hi) (by simpa using hj) hlt (by simp [ei, ej, e])).elim
    · exact heq
    · exact (h1 j i (by simpa using hj) (by simpa using hi) hlt (by simp [ei, ej, e])).elim
theorem P_perm {D : va_G} {cl : List vw_C} {ws ws' : va_W} {H : Heap} (h : ws.Perm ws') (hP : va_P D cl ws H) : va_P D cl ws' H := P_iff.mpr (fun q hq => P_iff.mp hP q (h.mem_iff.mpr hq))
theorem D_perm {A : Nat → Prop} {ws ws' : va_W} (h : ws.Perm ws') (hD : va_D A ws) : va_D A ws' := by
  obtain ⟨h1, h2⟩ := D_iff.mp hD
  exact D_iff.mpr ⟨(h.map _).nodup_iff.mp h1, fun q hq => h2 q (h.mem_iff.mpr hq)⟩
theorem perm_mv (a pa pl b : va_W) : ((a ++ (pa ++ pl)) ++ b).Perm (((a ++ pa) ++ b) ++ pl) := by
  simp only [List.append_assoc]
  refine List.Perm.append_left _ (List.Perm.append_left _ ?_)
  exact List.perm_append_comm
section OWN3
variable {p : Program} {l : Launch} {e : Env} {R : Room} {s : State} {m : MethodId} {args : Array Value} {below : List Frame} {meth : Method} {c : Code} {H : Heap} {locs : List Loc} {cells slots : Nat} {Q : State → Prop} {g : gG} {A : Nat → Prop}
variable {cc : ByteArray} {pc nL : Nat} {ls : Array Slot} {rest st0 : List Value} {ws : va_W} {c0 : Cond}
theorem k_newi (hx : p.tables.exec = Jvm.exec) (hb : c.code = cc) (hts : ∀ w ∈ (c0 :: gW), w.before args s = true) (hK : gK g s) (hP : va_P g.1 vwCl ws H) (hD : va_D A ws) (hS : va_S A s.heap H locs) (hA : ∀ q, s.heap.size ≤ q → A q) {n : Int32} {N' : Nat} (hn : ¬ n < 0) (hN : n.toNatClampNeg = N') (hby : N' * 4 ≤ 536870912) (hce : cells + 1 ≤ R.cells) (hsl : slots + N' ≤ R.slots) (hdg : decode cc pc = .ok (.newarray .int, 2))
    (kk : ∀ (q : Nat) (H1 : Heap), va_P g.1 vwCl (ws ++ [ia g q N' (fun _ => 0)]) H1 → va_D A (ws ++ [ia g q N' (fun _ => 0)]) → va_S A s.heap H1 locs → W p l e R s m args below meth c H1 locs (cells + 1) (slots + N') Q (F0 m (pc + 2) ls (.ref q :: rest))) : W p l e R s m args below meth c H locs cells slots Q (F0 m pc ls (.int n :: rest)) := by
  refine va_newa (atype := .int) hx hb (hts _ (.tail _ u_ac_int)) rfl hK.1 hP hD hS hA (a0 := (N', .inl (fun _ => 0))) (fun cA => rfl) hn hN hby hce hsl hdg (fun q cA H1 hK' hP hD hS => ?_)
  have h1 : s.vm.findClass _ = some cA := (hK'.2 5 (cA, .int) rfl).2
  have h2 : s.vm.findClass _ = some g.2.1 := (hK.1.2 0 (g.2.1, .int) rfl).2
  have e := Option.some.inj (h1.symm.trans h2)
  subst e
  exact kk q H1 hP hD hS
theorem k_newl (hx : p.tables.exec = Jvm.exec) (hb : c.code = cc) (hts : ∀ w ∈ (c0 :: gW), w.before args s = true) (hK : gK g s) (hP : va_P g.1 vwCl ws H) (hD : va_D A ws) (hS : va_S A s.heap H locs) (hA : ∀ q, s.heap.size ≤ q → A q) {n : Int32} {N' : Nat} (hn : ¬ n < 0) (hN : n.toNatClampNeg = N') (hby : N' * 8 ≤ 536870912) (hce : cells + 1 ≤ R.cells) (hsl : slots + N' ≤ R.slots) (hdg : decode cc pc = .ok (.newarray .long, 2))
    (kk : ∀ (q : Nat) (H1 : Heap), va_P g.1 vwCl (ws ++ [la g q N' (fun _ => 0)]) H1 → va_D A (ws ++ [la g q N' (fun _ => 0)]) → va_S A s.heap H1 locs → W p l e R s m args below meth c H1 locs (cells + 1) (slots + N') Q (F0 m (pc + 2) ls (.ref q :: rest))) : W p l e R s m args below meth c H locs cells slots Q (F0 m pc ls (.int n :: rest)) := by
  refine va_newa (atype := .long) hx hb (hts _ (.tail _ u_ac_long)) rfl hK.1 hP hD hS hA (a0 := (N', .inr (.inl (fun _ => 0)))) (fun cA => rfl) hn hN hby hce hsl hdg (fun q cA H1 hK' hP hD hS => ?_)
  have h1 : s.vm.findClass _ = some cA := (hK'.2 5 (cA, .long) rfl).2
  have h2 : s.vm.findClass _ = some g.2.2.1 := (hK.1.2 1 (g.2.2.1, .long) rfl).2
  have e := Option.some.inj (h1.symm.trans h2)
  subst e
  exact kk q H1 hP hD hS
theorem k_newz (hx : p.tables.exec = Jvm.exec) (hb : c.code = cc) (hts : ∀ w ∈ (c0 :: gW), w.before args s = true) (hK : gK g s) (hP : va_P g.1 vwCl ws H) (hD : va_D A ws) (hS : va_S A s.heap H locs) (hA : ∀ q, s.heap.size ≤ q → A q) {n : Int32} {N' : Nat} (hn : ¬ n < 0) (hN : n.toNatClampNeg = N') (hby : N' * 1 ≤ 536870912) (hce : cells + 1 ≤ R.cells) (hsl : slots + N' ≤ R.slots) (hdg : decode cc pc = .ok (.newarray .boolean, 2))
    (kk : ∀ (q : Nat) (H1 : Heap), va_P g.1 vwCl (ws ++ [za g q N' (fun _ => 0)]) H1 → va_D A (ws ++ [za g q N' (fun _ => 0)]) → va_S A s.heap H1 locs → W p l e R s m args below meth c H1 locs (cells + 1) (slots + N') Q (F0 m (pc + 2) ls (.ref q :: rest))) : W p l e R s m args below meth c H locs cells slots Q (F0 m pc ls (.int n :: rest)) := by
  refine va_newa (atype := .boolean) hx hb (hts _ (.tail _ u_ac_boolean)) rfl hK.1 hP hD hS hA (a0 := (N', .inl (fun _ => 0))) (fun cA => rfl) hn hN hby hce hsl hdg (fun q cA H1 hK' hP hD hS => ?_)
  have h1 : s.vm.findClass _ = some cA := (hK'.2 5 (cA, .boolean) rfl).2
  have h2 : s.vm.findClass _ = some g.2.2.2.1 := (hK.1.2 2 (g.2.2.2.1, .boolean) rfl).2
  have e := Option.some.inj (h1.symm.trans h2)
  subst e
  exact kk q H1 hP hD hS
theorem k_newF {own : String} {idx : Nat} (hx : p.tables.exec = Jvm.exec) (hb : c.code = cc) (hts : ∀ w ∈ (c0 :: gW), w.before args s = true) (hown : s.vm.findClass own = some m.cls) (hcl : (.classLink own idx RX0 : Cond) ∈ gW) (hK : gK g s) (hP : va_P g.1 vwCl ws H) (hD : va_D A ws) (hS : va_S A s.heap H locs) (hA : ∀ q, s.heap.size ≤ q → A q) {n : Int32} {N' : Nat} (hn : ¬ n < 0) (hN : n.toNatClampNeg = N') (hby : N' * 4 ≤ 536870912) (hce : cells + 1 ≤ R.cells) (hsl : slots + N' ≤ R.slots) (hdg : decode cc pc = .ok (.anewarray idx, 3))
    (kk : ∀ (q : Nat) (H1 : Heap), va_P g.1 vwCl (ws ++ [raF g q N' (fun _ => none)]) H1 → va_D A (ws ++ [raF g q N' (fun _ => none)]) → va_S A s.heap H1 locs → W p l e R s m args below meth c H1 locs (cells + 1) (slots + N') Q (F0 m (pc + 3) ls (.ref q :: rest))) : W p l e R s m args below meth c H locs cells slots Q (F0 m pc ls (.int n :: rest)) := by
  refine va_newq hx hb hown (hts _ (.tail _ hcl)) hK.2.2.1 hK.1 hP hD hS hA hn hN hby hce hsl hdg (fun q cA H1 hK' hP hD hS => ?_)
  obtain ⟨_, _, _, _, _, h1⟩ := (hK'.2 5 (cA, .object RX0) rfl).2
  obtain ⟨_, _, _, _, _, h2⟩ := (hK.1.2 3 (g.2.2.2.2.1, .object RX0) rfl).2
  have e := Option.some.inj (h1.symm.trans h2)
  subst e
  exact kk q H1 hP hD hS
theorem k_newI {own : String} {idx : Nat} (hx : p.tables.exec = Jvm.exec) (hb : c.code = cc) (hts : ∀ w ∈ (c0 :: gW), w.before args s = true) (hown : s.vm.findClass own = some m.cls) (hcl : (.classLink own idx RX1 : Cond) ∈ gW) (hK : gK g s) (hP : va_P g.1 vwCl ws H) (hD : va_D A ws) (hS : va_S A s.heap H locs) (hA : ∀ q, s.heap.size ≤ q → A q) {n : Int32} {N' : Nat} (hn : ¬ n < 0) (hN : n.toNatClampNeg = N') (hby : N' * 4 ≤ 536870912) (hce : cells + 1 ≤ R.cells) (hsl : slots + N' ≤ R.slots) (hdg : decode cc pc = .ok (.anewarray idx, 3))
    (kk : ∀ (q : Nat) (H1 : Heap), va_P g.1 vwCl (ws ++ [raI g q N' (fun _ => none)]) H1 → va_D A (ws ++ [raI g q N' (fun _ => none)]) → va_S A s.heap H1 locs → W p l e R s m args below meth c H1 locs (cells + 1) (slots + N') Q (F0 m (pc + 3) ls (.ref q :: rest))) : W p l e R s m args below meth c H locs cells slots Q (F0 m pc ls (.int n :: rest)) := by
  refine va_newq hx hb hown (hts _ (.tail _ hcl)) hK.2.2.2 hK.1 hP hD hS hA hn hN hby hce hsl hdg (fun q cA H1 hK' hP hD hS => ?_)
  obtain ⟨_, _, _, _, _, h1⟩ := (hK'.2 5 (cA, .object RX1) rfl).2
  obtain ⟨_, _, _, _, _, h2⟩ := (hK.1.2 4 (g.2.2.2.2.2, .object RX1) rfl).2
  have e := Option.some.inj (h1.symm.trans h2)
  subst e
  exact kk q H1 hP hD hS
variable {y : MethodName} {bytes : ByteArray} {maxL n idx fr lo fR cR sR lR mc ms : Nat} {own : String} {b : Addr} {As : List Value} {x : Nat × va_E} {w1 : (Nat → Ad) → va_W}
/-- behind a constructor's call: what was the last cell of the world is now its world -/
theorem k_c {a : Array Value} (hr : va_Run p l e R s m args below meth c H locs cells slots mc ms (F0 m pc ls st0) rest (QC g (va_A [x] H.size) w1 a) (va_A [x] H.size)) (hP : va_P g.1 vwCl (ws ++ [x]) H) (hD : va_D A (ws ++ [x])) (hS : va_S A s.heap H locs) (hA : ∀ q, s.heap.size ≤ q → A q)
    (kk : ∀ (u : Nat → Ad) (H : Heap) (locs : List Loc), va_P g.1 vwCl (ws ++ w1 u) H → va_D A (ws ++ w1 u) → va_S A s.heap H locs → W p l e R s m args below meth c H locs (cells + mc) (slots + ms) Q (F0 m (pc + 3) ls rest)) : W p l e R s m args below meth c H locs cells slots Q (F0 m pc ls st0) := by
  have hF := free_l hD hS hA
  refine va_callv hr hS (fun q _ h => hF q h) hF (fun u t H1 locs1 ht hvm hw hB hz1 hk1 hS1 => ?_)
  obtain ⟨hP1, hD1⟩ := hB
  rw [ht] at hP1
  obtain ⟨hP2, hD2⟩ := wjl hP hD hk1 hF hP1 hD1
  exact kk u H1 locs1 hP2 hD2 hS1
theorem kIc (S : CallFix p m c cc nL s args (c0 :: gW) own) (hM : MetC l y bytes maxL fr lo mc ms b g [x] w1 H.size) (hco : (.code y bytes maxL none : Cond) ∈ gW) (hml : (.methodLink own idx y : Cond) ∈ gW) (him : (.instanceMethod y : Cond) ∈ gW) (hini : (.initialized y.cls : Cond) ∈ gW) (hyn : y.name = "<init>")
    (hd : y.cls ≠ "java/lang/invoke/MethodHandle" ∧ y.cls ≠ "java/lang/invoke/VarHandle" ∧ (parseMethodDescriptor y.desc).map (fun d => d.parameters.length) = some 0) (hR : Nat.ble (fr + 1) fR = true ∧ Nat.ble (8 + (maxL + 11) + lo) lR = true) (hcs : Nat.ble (cells + mc) cR = true ∧ Nat.ble (slots + ms) sR = true) (hK : gK g s) (hP : va_P g.1 vwCl (ws ++ [x]) H) (hD : va_D A (ws ++ [x])) (hS : va_S A s.heap H locs) (hA : ∀ q, s.heap.size ≤ q → A q)
    (hsize : ls.size = nL) (hst : st0 = .ref b :: rest) (hW : Nat.ble (rest.map fun v => v.category).sum 8 = true) (hdg : decode cc pc = .ok (.invokespecial idx, 3))
    (kk : ∀ (u : Nat → Ad) (H : Heap) (locs : List Loc), va_P g.1 vwCl (ws ++ w1 u) H → va_D A (ws ++ w1 u) → va_S A s.heap H locs → W p l e (rC fR cR sR lR) s m args below meth c H locs (cells + mc) (slots + ms) Q (F0 m (pc + 3) ls rest)) : W p l e (rC fR cR sR lR) s m args below meth c H locs cells slots Q (F0 m pc ls st0) := by
  have hts := S.2.2.2.2
  exact k_c (va_runI (As := []) S hM (cwI 0 hts (gN hco) rfl rfl rfl (hts _ (.tail _ hini)) (hts _ (.tail _ hml)) (hts _ (.tail _ him)) hyn hd ⟨Nat.le_of_ble_eq_true hR.1, Nat.le_of_ble_eq_true hR.2⟩) ⟨cPre_blind, cPre_of (av := [.ref b]) rfl hK (P_split hP).2 (D_split hD).2.1⟩ rfl rfl hsize hst (lv_room (Nat.le_of_ble_eq_true hW)) hdg ⟨Nat.le_of_ble_eq_true hcs.1, Nat.le_of_ble_eq_true hcs.2⟩) hP hD hS hA kk
theorem kIn {host : String} (S : CallFix p m c cc nL s args (c0 :: gW) own) (hM : MetC l y bytes maxL fr lo mc ms b g [x] w1 H.size) (hco : (.code y bytes maxL none : Cond) ∈ gW) (hnl : (own, idx, y, host) ∈ gNt) (him : (.instanceMethod y : Cond) ∈ gW) (hini : (.initialized y.cls : Cond) ∈ gW) (hyn : y.name = "<init>")
    (hd : y.cls ≠ "java/lang/invoke/MethodHandle" ∧ y.cls ≠ "java/lang/invoke/VarHandle" ∧ (parseMethodDescriptor y.desc).map (fun d => d.parameters.length) = some 0) (hR : Nat.ble (fr + 1) fR = true ∧ Nat.ble (8 + (maxL + 11) + lo) lR = true) (hcs : Nat.ble (cells + mc) cR = true ∧ Nat.ble (slots + ms) sR = true) (hK : gK g s) (hP : va_P g.1 vwCl (ws ++ [x]) H) (hD : va_D A (ws ++ [x])) (hS : va_S A s.heap H locs) (hA : ∀ q, s.heap.size ≤ q → A q)
    (hsize : ls.size = nL) (hst : st0 = .ref b :: rest) (hW : Nat.ble (rest.map fun v => v.category).sum 8 = true) (hdg : decode cc pc = .ok (.invokespecial idx, 3))
    (kk : ∀ (u : Nat → Ad) (H : Heap) (locs : List Loc), va_P g.1 vwCl (ws ++ w1 u) H → va_D A (ws ++ w1 u) → va_S A s.heap H locs → W p l e (rC fR cR sR lR) s m args below meth c H locs (cells + mc) (slots + ms) Q (F0 m (pc + 3) ls rest)) : W p l e (rC fR cR sR lR) s m args below meth c H locs cells slots Q (F0 m pc ls st0) := by
  have hts := S.2.2.2.2
  exact k_c (va_runIN (As := []) S hM ⟨va_cnB 0 hts (gN hco) rfl rfl rfl (hK.2.1 _ hnl) (hts _ (.tail _ hini)) hd ⟨Nat.le_of_ble_eq_true hR.1, Nat.le_of_ble_eq_true hR.2⟩, hyn, hts _ (.tail _ him)⟩ ⟨cPre_blind, cPre_of (av := [.ref b]) rfl hK (P_split hP).2 (D_split hD).2.1⟩ rfl rfl hsize hst (lv_room (Nat.le_of_ble_eq_true hW)) hdg ⟨Nat.le_of_ble_eq_true hcs.1, Nat.le_of_ble_eq_true hcs.2⟩) hP hD hS hA kk
/-- a call that makes nothing, from where something was made -/
theorem kSvC {wc w1 w2 : va_W} {ret : Option FieldType} (S : CallFix p m c cc nL s args (c0 :: gW) own) (hM : MetV l y (.code y bytes maxL ret :: gW) fr lo As g wc w1 H.size) (hG : GoodIn (c0 :: gW) (va_wsS own idx y (.code y bytes maxL ret :: gW)))
    (hd : y.cls ≠ "java/lang/invoke/MethodHandle" ∧ y.cls ≠ "java/lang/invoke/VarHandle" ∧ (parseMethodDescriptor y.desc).map (fun d => d.parameters.length) = some n) (hR : Nat.ble (fr + 1) fR = true ∧ Nat.ble (8 + (maxL + 11) + lo) lR = true) (hcs : Nat.ble cells cR = true ∧ Nat.ble slots sR = true) (hK : gK g s) (hP : va_P g.1 vwCl ws H) (hD : va_D A ws) (hS : va_S A s.heap H locs) (hA : ∀ q, s.heap.size ≤ q → A q)
    (isC ks : List Nat) (hnC : va_nd isC = true) (hC : isC.map (fun i => ws[i]?) = wc.map some) (n1 : Nat) (hn1 : w1.length = n1) (hk2 : ks.map (fun j => (w1 ++ ws)[j]?) = w2.map some) (hok : okk n1 isC ks = true)
    (hn : As.length = n) (hsize : ls.size = nL) (hst : st0 = As.reverse ++ rest) (hW : Nat.ble (rest.map fun v => v.category).sum 8 = true) (hdg : decode cc pc = .ok (.invokestatic idx, 3))
    (kk : ∀ (H : Heap) (locs : List Loc), va_P g.1 vwCl w2 H → va_D A w2 → va_S A s.heap H locs → W p l e (rC fR cR sR lR) s m args below meth c H locs cells slots Q (F0 m (pc + 3) ls rest)) : W p l e (rC fR cR sR lR) s m args below meth c H locs cells slots Q (F0 m pc ls st0) := by
  have hDc := hD.sub isC hnC hC
  have hPc : va_P g.1 vwCl wc H := hP.sub isC (fm_of hC)
  have hF := va_free (wc := wc) hD hS hA isC hC
  refine va_callv (va_runS S hM (va_cwS n S.2.2.2.2 hG rfl rfl rfl hd ⟨Nat.le_of_ble_eq_true hR.1, Nat.le_of_ble_eq_true hR.2⟩) ⟨cPre_blind, cPre_of rfl hK hPc hDc⟩ rfl hn hsize hst (lv_room (Nat.le_of_ble_eq_true hW)) hdg ⟨Nat.le_of_ble_eq_true hcs.1, Nat.le_of_ble_eq_true hcs.2⟩) hS (fun q _ h => hF q h) hF (fun u t H1 locs1 ht hvm hw hB hz1 hk1 hS1 => ?_)
  obtain ⟨hP1, hD1⟩ := hB
  rw [ht] at hP1
  obtain ⟨hP2, hD2⟩ := wj hP hD isC ks hC n1 hn1 hk2 hok hk1 hF hP1 hD1
  exact kk H1 locs1 hP2 hD2 hS1
theorem kVvC {C : String} {wc w1 w2 : va_W} {ret : Option FieldType} (S : CallFix p m c cc nL s args (c0 :: gW) own) (hM : MetV l y (.code y bytes maxL ret :: gW) fr lo (.ref b :: As) g wc w1 H.size) (hG : GoodIn (c0 :: gW) (wsV own idx C y (.code y bytes maxL ret :: gW)))
    (hd : y.cls = C ∧ y.cls ≠ "java/lang/invoke/MethodHandle" ∧ y.cls ≠ "java/lang/invoke/VarHandle" ∧ (parseMethodDescriptor y.desc).map (fun d => d.parameters.length) = some n) (hR : Nat.ble (fr + 1) fR = true ∧ Nat.ble (8 + (maxL + 11) + lo) lR = true) (hcs : Nat.ble cells cR = true ∧ Nat.ble slots sR = true) (hK : gK g s) (hP : va_P g.1 vwCl ws H) (hD : va_D A ws) (hS : va_S A s.heap H locs) (hA : ∀ q, s.heap.size ≤ q → A q)
    (q0 ci : Nat) {fs : List Value} {T : u_T} {N : Nat} (he : ws[q0]? = some (b, .inr (ci, fs))) (hc : vwCl[ci]? = some (C, T, N)) (isC ks : List Nat) (hnC : va_nd isC = true) (hC : isC.map (fun i => ws[i]?) = wc.map some) (n1 : Nat) (hn1 : w1.length = n1) (hk2 : ks.map (fun j => (w1 ++ ws)[j]?) = w2.map some) (hok : okk n1 isC ks = true)
    (hn : As.length = n) (hsize : ls.size = nL) (hst : st0 = As.reverse ++ .ref b :: rest) (hW : Nat.ble (rest.map fun v => v.category).sum 8 = true) (hdg : decode cc pc = .ok (.invokevirtual idx, 3))
    (kk : ∀ (H : Heap) (locs : List Loc), va_P g.1 vwCl w2 H → va_D A w2 → va_S A s.heap H locs → W p l e (rC fR cR sR lR) s m args below meth c H locs cells slots Q (F0 m (pc + 3) ls rest)) : W p l e (rC fR cR sR lR) s m args below meth c H locs cells slots Q (F0 m pc ls st0) := by
  have hDc := hD.sub isC hnC hC
  have hPc : va_P g.1 vwCl wc H := hP.sub isC (fm_of hC)
  have hF := va_free (wc := wc) hD hS hA isC hC
  refine va_callv (va_runV S hM (cwV n S.2.2.2.2 hG rfl rfl rfl hd ⟨Nat.le_of_ble_eq_true hR.1, Nat.le_of_ble_eq_true hR.2⟩) ⟨cPre_blind, va_recv hK.1 hP hc he, cPre_of rfl hK hPc hDc⟩ rfl hn hsize hst (lv_room (Nat.le_of_ble_eq_true hW)) hdg ⟨Nat.le_of_ble_eq_true hcs.1, Nat.le_of_ble_eq_true hcs.2⟩) hS (fun q _ h => hF q h) hF (fun u t H1 locs1 ht hvm hw hB hz1 hk1 hS1 => ?_)
  obtain ⟨hP1, hD1⟩ := hB
  rw [ht] at hP1
  obtain ⟨hP2, hD2⟩ := wj hP hD isC ks hC n1 hn1 hk2 hok hk1 hF hP1 hD1
  exact kk H1 locs1 hP2 hD2 hS1
theorem k_cret (u : Nat → Ad) (hx : p.tables.exec = Jvm.exec) (hb : c.code = cc) (hr : meth.sig.returnType = none) (hlk : meth.locks = false) (hP : va_P g.1 vwCl (w1 u) H) (hD : va_D A (w1 u)) (hS : va_S A s.heap H locs) (hdg : decode cc pc = .ok (.return_, 1)) : W p l e R s m args below meth c H locs mc ms (MQ below (QC g A w1) args s mc ms A) (F0 m pc ls []) :=
  W.vret hx hb hr (fun t ht hW => ⟨⟨u, rfl, trivial, by rw [ht]; exact hP, hD⟩, hS.F ht⟩) hS.2.2 hdg
end OWN3
theorem mkC {l : Launch} {y : MethodName} {cc : ByteArray} {maxL fr lo mc ms b : Nat} {g : gG} {x : Nat × va_E} {w1 : (Nat → Ad) → va_W} (hy : plainName y.cls = true) (hyn : y.name = "<init>") (hav : Nat.ble 1 maxL = true)
    (hk : ∀ (p : Program) (e : Env) (s : State) (m : MethodId) (below : List Frame) (meth : Method) (c : Code) (A : Nat → Prop) (ls : Array Slot), En p s m [Value.ref b].toArray meth c g A cc maxL (.code y cc maxL none :: gW) y.cls none → meth.name = "<init>" → va_P g.1 vwCl [x] s.heap → va_D A [x] → va_S A s.heap s.heap [] → lv_has ls maxL [(0, .ref b)] → W p l e (rC fr mc ms lo) s m [Value.ref b].toArray below meth c s.heap [] 0 0 (MQ below (QC g A w1) [Value.ref b].toArray s mc ms A) (F0 m 0 ls [])) (sz : Nat) : MetC l y cc maxL fr lo mc ms b g [x] w1 sz := by
  refine Met.ofW (cc := cc) (maxL := maxL) (ret := none) hy rfl ?_
  intro p e s m args below meth c s₁ B hml hv
  obtain ⟨rfl, hsz, hP, hK, hD0⟩ := hv
  have hts := atoms_spec (ws := (.code y cc maxL none :: gW)) B.pre
  have hown : s.vm.findClass y.cls = some m.cls := findClass_of_methodNamed B.named
  have hin : meth.name = "<init>" := (name_of_methodNamed B.named B.method).1.trans hyn
  subst hsz
  have hD := hD0.self (sz := s.heap.size)
  have hA : ∀ q : Nat, s.heap.size ≤ q → va_A [x] s.heap.size q := fun q h => Or.inr h
  have hl := lv_entry [.ref b] (n := maxL) (Nat.le_of_ble_eq_true hav)
  rw [lg_entry_eq]
  exact hk p e s m below meth c (va_A [x] s.heap.size) _ ⟨⟨B.exec, B.bytes, hml, hown, hts⟩, B.returns, hK, hA, B.notSynchronized⟩ hin hP hD va_S.rf hl
