/-! the law: calls in its one world -/
theorem wjX {A0 : Nat → Prop} {D : va_G} {cl : List vw_C} {ws X wc w1 w2 : va_W} {H H1 : Heap} (hP : va_P D cl (ws ++ X) H) (hD : va_D A0 (ws ++ X)) (isC ks : List Nat) (hC : isC.map (fun i => ws[i]?) = wc.map some) (n1 : Nat) (hn1 : w1.length = n1) (hk2 : ks.map (fun j => (w1 ++ ws)[j]?) = w2.map some) (hok : okk n1 isC ks = true)
    (hk : ∀ q : Nat, q < H.size → ¬ va_A wc H.size q → H1[q]? = H[q]?) (hF : ∀ q, va_A wc H.size q → A0 q) (hP1 : va_P D cl w1 H1) (hD1 : va_D (va_A wc H.size) w1) : va_P D cl (w2 ++ X) H1 ∧ va_D A0 (w2 ++ X) := by
  obtain ⟨p1, p2⟩ := P_split hP
  obtain ⟨d1, d2, d3⟩ := D_split hD
  obtain ⟨q1, q2⟩ := wj p1 d1 isC ks hC n1 hn1 hk2 hok hk hF hP1 hD1
  have cc : ∀ (k : Nat) (q : Nat × va_E), wc[k]? = some q → ∃ i : Nat, ws[i]? = some q := by
    intro k q hq
    have h1 : (isC.map (fun i => ws[i]?))[k]? = some (some q) := by rw [hC, List.getElem?_map, hq]; rfl
    rw [List.getElem?_map] at h1
    cases hi : isC[k]? with
    | none => rw [hi] at h1; cases h1
    | some i => rw [hi] at h1; exact ⟨i, Option.some.inj h1⟩
  have apX : ∀ (k : Nat) (q : Nat × va_E), X[k]? = some q → q.1 < H.size ∧ ¬ va_A wc H.size q.1 := by
    intro k q hq
    have hl := (p2 k q hq).lt
    refine ⟨hl, fun h => ?_⟩
    rcases h with ⟨k2, e, h⟩ | h
    · obtain ⟨i, hi⟩ := cc k2 (q.1, e) h
      exact d3 i k (q.1, e) q hi hq rfl
    · omega
  refine ⟨va_P.app q1 (fun k q hq => (p2 k q hq).kept (hk q.1 (apX k q hq).1 (apX k q hq).2)), va_D.app q2 d2 (fun i j x y hx hy hxy => ?_)⟩
  have h1 : (ks.map (fun j => (w1 ++ ws)[j]?))[i]? = some (some x) := by rw [hk2, List.getElem?_map, hx]; rfl
  rw [List.getElem?_map] at h1
  cases hi : ks[i]? with
  | none => rw [hi] at h1; cases h1
  | some a =>
    rw [hi] at h1
    have h2 : (w1 ++ ws)[a]? = some x := Option.some.inj h1
    by_cases hlt : a < w1.length
    · rw [List.getElem?_append_left hlt] at h2
      exact (apX j y hy).2 (by rw [← hxy]; exact hD1.2 a x h2)
    · rw [List.getElem?_append_right (by omega)] at h2
      exact d3 _ j x y h2 hy hxy
def pX (g : gG) (k : Nat) (RQ : Nat → Ad) (RF : Nat → St) : va_W := ((List.range 20).erase k).flatMap (fun i => wX0 g (RQ i 7) (RQ i) (RF i))
theorem pF_out {g : gG} {k : Nat} (hk : k < 20) (RQ : Nat → Ad) (RF : Nat → St) : (pF g 20 RQ RF).Perm (wX0 g (RQ k 7) (RQ k) (RF k) ++ pX g k RQ RF) := by
  have h := (List.perm_cons_erase (List.mem_range.mpr hk)).flatMap_right (fun i => wX0 g (RQ i 7) (RQ i) (RF i))
  simpa [pF, pX] using h
theorem flatMap_eq {α β : Type} {l : List α} {f k : α → List β} (h : ∀ a ∈ l, f a = k a) : l.flatMap f = l.flatMap k := by
  induction l with
  | nil => rfl
  | cons a l ih => rw [List.flatMap_cons, List.flatMap_cons, h a List.mem_cons_self, ih (fun b hb => h b (List.mem_cons_of_mem _ hb))]
theorem pX_up {g : gG} {k : Nat} {RQ : Nat → Ad} {RF : Nat → St} {F : St} : pX g k RQ (va_up RF k F) = pX g k RQ RF := by
  unfold pX
  refine flatMap_eq (fun i hi => ?_)
  have hne : i ≠ k := by
    intro e
    subst e
    exact ((List.nodup_range (n := 20)).mem_erase_iff.mp hi).1 rfl
  rw [show va_up RF k F i = RF i from if_neg hne]
/-- a ring flow taken out, and laid back -/
theorem perm_out {g : gG} {k : Nat} (hk : k < 20) (a b : va_W) (RQ : Nat → Ad) (RF : Nat → St) : (a ++ (b ++ pF g 20 RQ RF)).Perm ((a ++ wX0 g (RQ k 7) (RQ k) (RF k)) ++ (b ++ pX g k RQ RF)) := by
  have h1 := ((pF_out (g := g) hk RQ RF).append_left b).append_left a
  refine h1.trans ?_
  rw [List.append_assoc]
  exact List.Perm.append_left _ (by rw [← List.append_assoc, ← List.append_assoc]; exact List.Perm.append_right _ List.perm_append_comm)
theorem perm_back {g : gG} {k : Nat} (hk : k < 20) (a b : va_W) (RQ : Nat → Ad) (RF : Nat → St) (F : St) : ((a ++ wX0 g (RQ k 7) (RQ k) F) ++ (b ++ pX g k RQ RF)).Perm (a ++ (b ++ pF g 20 RQ (va_up RF k F))) := by
  have h := (perm_out (g := g) hk a b RQ (va_up RF k F)).symm
  rw [pX_up, show va_up RF k F k = F from if_pos rfl] at h
  exact h
section OWN4
variable {p : Program} {l : Launch} {e : Env} {s : State} {m : MethodId} {args : Array Value} {below : List Frame} {meth : Method} {c : Code} {H : Heap} {locs : List Loc} {cells slots : Nat} {Q : State → Prop} {g : gG} {A : Nat → Prop}
variable {cc : ByteArray} {pc nL : Nat} {ls : Array Slot} {rest st0 : List Value} {y : MethodName} {bytes : ByteArray} {maxL n idx fr lo : Nat} {ret : Option FieldType} {own C : String} {b : Addr} {As : List Value} {c0 : Cond} {r : Int32} {ws X wc w1 w2 : va_W}
theorem kLi (S : CallFix p m c cc nL s args (c0 :: gW) own) (hM : MetI l y (.code y bytes maxL ret :: gW) fr lo (.ref b :: As) r g wc w1 H.size) (hG : GoodIn (c0 :: gW) (wsV own idx C y (.code y bytes maxL ret :: gW)))
    (hd : y.cls = C ∧ y.cls ≠ "java/lang/invoke/MethodHandle" ∧ y.cls ≠ "java/lang/invoke/VarHandle" ∧ (parseMethodDescriptor y.desc).map (fun d => d.parameters.length) = some n) (hR : Nat.ble (fr + 1) 9 = true ∧ Nat.ble (8 + (maxL + 11) + lo) 320 = true) (hcs : cells ≤ 600000 ∧ slots ≤ 7302250) (hK : gK g s) (hP : va_P g.1 vwCl (ws ++ X) H) (hD : va_D A (ws ++ X)) (hS : va_S A s.heap H locs) (hA : ∀ q, s.heap.size ≤ q → A q)
    (q0 ci : Nat) {fs : List Value} {T : u_T} {N : Nat} (he : ws[q0]? = some (b, .inr (ci, fs))) (hc : vwCl[ci]? = some (C, T, N)) (isC ks : List Nat) (hnC : va_nd isC = true) (hC : isC.map (fun i => ws[i]?) = wc.map some) (n1 : Nat) (hn1 : w1.length = n1) (hk2 : ks.map (fun j => (w1 ++ ws)[j]?) = w2.map some) (hok : okk n1 isC ks = true)
    (hn : As.length = n) (hsize : ls.size = nL) (hst : st0 = As.reverse ++ .ref b :: rest) (hW : Nat.ble (rest.map fun v => v.category).sum 8 = true) (hdg : decode cc pc = .ok (.invokevirtual idx, 3))
    (kk : ∀ (H : Heap) (locs : List Loc), va_P g.1 vwCl (w2 ++ X) H → va_D A (w2 ++ X) → va_S A s.heap H locs → W p l e room_1 s m args below meth c H locs cells slots Q (F0 m (pc + 3) ls (.int r :: rest))) : W p l e room_1 s m args below meth c H locs cells slots Q (F0 m pc ls st0) := by
  obtain ⟨hP1, _⟩ := P_split hP
  have hD1 := (D_split hD).1
  have hDc := hD1.sub isC hnC hC
  have hPc : va_P g.1 vwCl wc H := hP1.sub isC (fm_of hC)
  have hF := va_free (wc := wc) hD1 hS hA isC hC
  refine va_calli (va_runV S hM (cwV n S.2.2.2.2 hG rfl rfl rfl hd ⟨Nat.le_of_ble_eq_true hR.1, Nat.le_of_ble_eq_true hR.2⟩) ⟨cPre_blind, va_recv hK.1 hP1 hc he, cPre_of rfl hK hPc hDc⟩ rfl hn hsize hst (lv_room (Nat.le_of_ble_eq_true hW)) hdg hcs) hS (fun q _ h => hF q h) hF (fun r' u t H1 locs1 ht hvm hw hB hz1 hk1 hS1 => ?_)
  obtain ⟨hP1, hD1⟩ := hB
  rw [ht] at hP1
  subst hw
  obtain ⟨hP2, hD2⟩ := wjX hP hD isC ks hC n1 hn1 hk2 hok hk1 hF hP1 hD1
  exact kk H1 locs1 hP2 hD2 hS1
end OWN4
