/-! ===== this claim's own kit: states as functions, worlds, named values, loops, calls ===== -/
abbrev St : Type := Nat → Nat → Int32
abbrev SL : Type := Nat → Nat → Int64
abbrev Ad : Type := Nat → Nat
/-- what is the same all along: the classes' numbers and slots; the classes of int[], long[], boolean[], Flow[], Image[] -/
abbrev gG : Type := va_G × (ClassId × ClassId × ClassId × ClassId × ClassId)
abbrev gT (g : gG) : List (ClassId × FieldType) := [(g.2.1, .int), (g.2.2.1, .long), (g.2.2.2.1, .boolean), (g.2.2.2.2.1, .object RX0), (g.2.2.2.2.2, .object RX1)]
def gNt : List (String × Nat × MethodName × String) := [(RX9, 11, yX5_init, RX9), (RX9, 18, yX4_init, RX9), (RX9, 51, yX2_init, RX9), (RX9, 58, yX7_init, RX9), (RX9, 65, yX6_init, RX9), (RX9, 74, yX1_init, RX9), (RX0, 81, yX9_has, RX9), (RX6, 39, yX9_has, RX9), (RX7, 100, yX9_has, RX9), (RX7, 11, yX8_init, RX9), (RX8, 40, yX9_has, RX9)]
def gK (g : gG) (s : State) : Prop := va_K g.1 vwCl (gT g) s ∧ (∀ q ∈ gNt, va_Nw (.methodLinkNest q.1 q.2.1 q.2.2.1 q.2.2.2) s) ∧ va_AO RX0 s ∧ va_AO RX1 s
theorem gK.warm {g : gG} {s U : State} (h : gK g s) (hW : s.WarmedH U.vm) : gK g U := ⟨va_K.moved hW.alike h.1, fun q hq => va_Nw.warmM hW (h.2.1 q hq), va_AO.moved hW.alike h.2.2.1, va_AO.moved hW.alike h.2.2.2⟩
theorem gK.calling {g : gG} {U : State} {f : JFrame} {mk : MethodId} {a : Array Value} (h : gK g U) : gK g (U.calling f mk a) := ⟨va_K.moved (u := U) (U := U.calling f mk a) (Vm.Alike.refl U.vm) h.1, fun q hq => va_Nw.same rfl (u := U) (U := U.calling f mk a) rfl (h.2.1 q hq), va_AO.moved (Vm.Alike.refl U.vm) h.2.2.1, va_AO.moved (Vm.Alike.refl U.vm) h.2.2.2⟩
/-- arrays as cells -/
abbrev ia (g : gG) (q n : Nat) (f : Nat → Int32) : Nat × va_E := (q, .inl (g.2.1, n, .inl f))
abbrev la (g : gG) (q n : Nat) (f : Nat → Int64) : Nat × va_E := (q, .inl (g.2.2.1, n, .inr (.inl f)))
abbrev za (g : gG) (q n : Nat) (f : Nat → Int32) : Nat × va_E := (q, .inl (g.2.2.2.1, n, .inl f))
/-- a named value -/
def xl {α β : Type} (a : α) (f : α → β) : β := f a
theorem xl_at {α β : Type} {a x : α} {f : α → Option β} {r : β} (e : x = a) (h : xl a f = some r) : f x = some r := by subst e; exact h
theorem ox_chk {α : Type} {c : Prop} [Decidable c] {a : Option α} {r : α} (h : (if c then none else a) = some r) : ¬ c ∧ a = some r := by
  by_cases hc : c
  · rw [if_pos hc] at h; cases h
  · rw [if_neg hc] at h; exact ⟨hc, h⟩
theorem ox_ok {α : Type} {c : Prop} [Decidable c] {a : Option α} {r : α} (h : (if c then a else none) = some r) : c ∧ a = some r := by
  by_cases hc : c
  · rw [if_pos hc] at h; exact ⟨hc, h⟩
  · rw [if_neg hc] at h; cases h
theorem ox_t {α : Type} {c : Prop} [Decidable c] {a b : Option α} {r : α} (hc : c) (h : (if c then a else b) = some r) : a = some r := by rw [if_pos hc] at h; exact h
theorem ox_f {α : Type} {c : Prop} [Decidable c] {a b : Option α} {r : α} (hc : ¬ c) (h : (if c then a else b) = some r) : b = some r := by rw [if_neg hc] at h; exact h
theorem ox_bind {α β : Type} {a : Option α} {f : α → Option β} {r : β} (h : a.bind f = some r) : ∃ v, a = some v ∧ f v = some r := Option.bind_eq_some_iff.mp h
theorem ox_inl {α β γ : Type} {f : α → Option γ} {k : β → Option γ} {v : α} {r : γ} (h : Sum.elim f k (.inl v) = some r) : f v = some r := h
theorem ox_inr {α β γ : Type} {f : α → Option γ} {k : β → Option γ} {v : β} {r : γ} (h : Sum.elim f k (.inr v) = some r) : k v = some r := h
theorem tsw_out {x : Int32} {hi : Nat} (h : ∀ k, k < hi + 1 → ¬ x = Int32.ofNat k) : x.toInt < 0 ∨ (hi : Int) < x.toInt := by
  by_cases h0 : x.toInt < 0
  · exact Or.inl h0
  · by_cases h1 : (hi : Int) < x.toInt
    · exact Or.inr h1
    · exfalso
      have e : x = Int32.ofInt x.toInt := (Int32.ofInt_toInt x).symm
      refine h x.toInt.toNat (by omega) ?_
      rw [← Int32.ofInt_eq_ofNat, Int.toNat_of_nonneg (by omega)]
      exact e
/-- a loop: the body goes on with a new state, or leaves -/
def lpc {σ ε : Type} (body : σ → Option (σ ⊕ ε)) : Nat → σ → Option ε
  | 0, _ => none
  | n + 1, z => (body z).bind (fun r => match r with
    | .inl z' => lpc body n z'
    | .inr x => some x)
theorem lpc_W {σ ε : Type} {body : σ → Option (σ ⊕ ε)} {Wh : σ → Prop} {We : ε → Prop} (hstep : ∀ z r, body z = some r → (∀ z', r = .inl z' → Wh z') → (∀ x, r = .inr x → We x) → Wh z) : ∀ (n : Nat) (z : σ) (x : ε), lpc body n z = some x → We x → Wh z := by
  intro n
  induction n with
  | zero => intro z x h; cases h
  | succ n ih =>
    intro z x h hx
    obtain ⟨r, hr, h⟩ := ox_bind h
    refine hstep z r hr (fun z' e => ?_) (fun y e => ?_)
    · subst e; exact ih z' x h hx
    · subst e; cases h; exact hx
/-- a boolean that is one -/
theorem nar_z {v : Int32} (h : v = 0 ∨ v = 1) : narrow .boolean (.int v) = .int v := by
  rcases h with rfl | rfl <;> rfl
def cPre (g : gG) (ws : va_W) (sz : Nat) (U : State) : Prop := U.heap.size = sz ∧ va_P g.1 vwCl ws U.heap ∧ gK g U ∧ va_D (fun _ => True) ws
def cPost (g : gG) (A : Nat → Prop) (w1 : va_W) (t : State) : Prop := va_P g.1 vwCl w1 t.heap ∧ va_D A w1
abbrev QI (g : gG) (A : Nat → Prop) (r : Int32) (w1 : va_W) : Array Value → State → Outcome → State → Prop := va_Qi (fun (r' : Int32) (_ : Unit) => r' = r) (fun _ t => cPost g A w1 t) A
abbrev QV (g : gG) (A : Nat → Prop) (w1 : va_W) : Array Value → State → Outcome → State → Prop := va_Qv (fun (_ : Unit) => True) (fun _ t => cPost g A w1 t) A
abbrev rM (fr lo : Nat) : Room := { frames := fr, cells := 0, slots := 0, locals := lo }
abbrev MetI (l : Launch) (y : MethodName) (ws : List Cond) (fr lo : Nat) (av : List Value) (r : Int32) (g : gG) (wc w1 : va_W) (sz : Nat) : Prop :=
  Met l y ws (rM fr lo) (va_Pc av (cPre g wc sz)) (QI g (va_A wc sz) r w1) 0 0 (va_A wc sz)
abbrev MetV (l : Launch) (y : MethodName) (ws : List Cond) (fr lo : Nat) (av : List Value) (g : gG) (wc w1 : va_W) (sz : Nat) : Prop :=
  Met l y ws (rM fr lo) (va_Pc av (cPre g wc sz)) (QV g (va_A wc sz) w1) 0 0 (va_A wc sz)
theorem cPre_blind {g : gG} {av : List Value} {ws : va_W} {sz : Nat} : FrameBlind (va_Pc av (cPre g ws sz)) := fun a U f mk q => by
  obtain ⟨q0, q1, qP, qK, qD⟩ := q
  exact ⟨q0, q1, qP, qK.calling, qD⟩
theorem cPre_of {g : gG} {av : List Value} {wc : va_W} {s : State} {H : Heap} {sz : Nat} (hz : H.size = sz) (hK : gK g s) (hP : va_P g.1 vwCl wc H) {A : Nat → Prop} (hD : va_D A wc) : ∀ U : State, U.heap = H → s.WarmedH U.vm → va_Pc av (cPre g wc sz) av.toArray U := fun U hU hW => ⟨rfl, by rw [hU]; exact hz, by rw [hU]; exact hP, hK.warm hW, hD.weaken (fun _ _ _ _ => trivial)⟩
theorem fm_of {ws wc : va_W} {isC : List Nat} (h : isC.map (fun i => ws[i]?) = wc.map some) : isC.filterMap (fun i => ws[i]?) = wc := by
  have e : isC.filterMap (fun i => ws[i]?) = (isC.map (fun i => ws[i]?)).filterMap id := by rw [List.filterMap_map]; rfl
  rw [e, h, List.filterMap_map]
  simp
/-- the places of a new world: from the callee's end (below n1), or from the rest, none of the callee's own -/
def okk (n1 : Nat) (isC ks : List Nat) : Bool := va_nd ks && ks.all (fun j => decide (j < n1) || !(isC.contains (j - n1)))
theorem wj {A0 : Nat → Prop} {D : va_G} {cl : List vw_C} {ws wc w1 w2 : va_W} {H H1 : Heap} (hP : va_P D cl ws H) (hD : va_D A0 ws) (isC ks : List Nat) (hC : isC.map (fun i => ws[i]?) = wc.map some) (n1 : Nat) (hn1 : w1.length = n1) (hk2 : ks.map (fun j => (w1 ++ ws)[j]?) = w2.map some) (hok : okk n1 isC ks = true)
    (hk : ∀ q : Nat, q < H.size → ¬ va_A wc H.size q → H1[q]? = H[q]?) (hF : ∀ q, va_A wc H.size q → A0 q) (hP1 : va_P D cl w1 H1) (hD1 : va_D (va_A wc H.size) w1) : va_P D cl w2 H1 ∧ va_D A0 w2 := by
  obtain ⟨hnd, hall⟩ := Bool.and_eq_true_iff.mp hok
  have hall := List.all_eq_true.mp hall
  have at' : ∀ (k : Nat) (q : Nat × va_E), w2[k]? = some q → ∃ j, ks[k]? = some j ∧ (w1 ++ ws)[j]? = some q := by
    intro k q hq
    have h1 : (ks.map (fun j => (w1 ++ ws)[j]?))[k]? = some (some q) := by rw [hk2, List.getElem?_map, hq]; rfl
    rw [List.getElem?_map] at h1
    cases hi : ks[k]? with
    | none => rw [hi] at h1; cases h1
    | some i => rw [hi] at h1; exact ⟨i, rfl, Option.some.inj h1⟩
  have cc : ∀ (k : Nat) (q : Nat × va_E), wc[k]? = some q → ∃ i, isC[k]? = some i ∧ ws[i]? = some q := by
    intro k q hq
    have h1 : (isC.map (fun i => ws[i]?))[k]? = some (some q) := by rw [hC, List.getElem?_map, hq]; rfl
    rw [List.getElem?_map] at h1
    cases hi : isC[k]? with
    | none => rw [hi] at h1; cases h1
    | some i => rw [hi] at h1; exact ⟨i, rfl, Option.some.inj h1⟩
  have old : ∀ (k j : Nat) (q : Nat × va_E), ks[k]? = some j → ¬ j < n1 → (w1 ++ ws)[j]? = some q → ws[j - n1]? = some q ∧ q.1 < H.size ∧ ¬ va_A wc H.size q.1 := by
    intro k j q hj hlt hq
    have hw : ws[j - n1]? = some q := by
      rw [List.getElem?_append_right (by omega), hn1] at hq
      exact hq
    have hl := (hP _ q hw).lt
    refine ⟨hw, hl, fun h => ?_⟩
    rcases h with ⟨k2, e, h⟩ | h
    · obtain ⟨i, h3, h4⟩ := cc k2 (q.1, e) h
      have hij := hD.1 (j - n1) i q (q.1, e) hw h4 rfl
      have h5 := hall j (List.mem_of_getElem? hj)
      simp [hlt] at h5
      exact h5 (by rw [hij]; exact List.mem_of_getElem? h3)
    · omega
  have new : ∀ (j : Nat) (q : Nat × va_E), j < n1 → (w1 ++ ws)[j]? = some q → w1[j]? = some q := by
    intro j q hlt hq
    rw [List.getElem?_append_left (by omega)] at hq
    exact hq
  refine ⟨fun k q hq => ?_, fun i j p q hp hq hpq => ?_, fun k q hq => ?_⟩
  · obtain ⟨j, h1, h2⟩ := at' k q hq
    by_cases hlt : j < n1
    · exact hP1 j q (new j q hlt h2)
    · obtain ⟨a, b, c⟩ := old k j q h1 hlt h2
      exact (hP _ q a).kept (hk q.1 b c)
  · obtain ⟨a, h1, h2⟩ := at' i p hp
    obtain ⟨b, h3, h4⟩ := at' j q hq
    have hab : a = b := by
      by_cases ha : a < n1
      · by_cases hb : b < n1
        · exact hD1.1 a b p q (new a p ha h2) (new b q hb h4) hpq
        · exact absurd (by rw [← hpq]; exact hD1.2 a p (new a p ha h2)) (old j b q h3 hb h4).2.2
      · by_cases hb : b < n1
        · exact absurd (by rw [hpq]; exact hD1.2 b q (new b q hb h4)) (old i a p h1 ha h2).2.2
        · have := hD.1 (a - n1) (b - n1) p q (old i a p h1 ha h2).1 (old j b q h3 hb h4).1 hpq
          omega
    subst hab
    exact va_nd_inj ks hnd i j a h1 h3
  · obtain ⟨j, h1, h2⟩ := at' k q hq
    by_cases hlt : j < n1
    · exact hF q.1 (hD1.2 j q (new j q hlt h2))
    · exact hD.2 _ q (old k j q h1 hlt h2).1
section OWN
variable {p : Program} {l : Launch} {e : Env} {R : Room} {s : State} {m : MethodId} {args : Array Value} {below : List Frame} {meth : Method} {c : Code} {H : Heap} {locs : List Loc} {Q : State → Prop} {g : gG} {A : Nat → Prop}
variable {cc : ByteArray} {pc nL : Nat} {ls : Array Slot} {rest st0 : List Value}
/-- at a place of a method: whatever the heap that holds the world ws, with these locals and this stack -/
def WA (p : Program) (l : Launch) (e : Env) (R : Room) (s : State) (m : MethodId) (args : Array Value) (below : List Frame) (meth : Method) (c : Code) (g : gG) (A : Nat → Prop) (Q : State → Prop) (nL pc : Nat) (ws : va_W) (lv : List (Nat × Value)) (st : List Value) : Prop :=
  ∀ (H : Heap) (locs : List Loc) (ls : Array Slot), va_P g.1 vwCl ws H → va_D A ws → va_S A s.heap H locs → lv_has ls nL lv → W p l e R s m args below meth c H locs 0 0 Q (F0 m pc ls st)
/-- what a walk rests on -/
def En (p : Program) (s : State) (m : MethodId) (args : Array Value) (meth : Method) (c : Code) (g : gG) (A : Nat → Prop) (cc : ByteArray) (nL : Nat) (Ts : List Cond) (own : String) (ret : Option FieldType) : Prop :=
  CallFix p m c cc nL s args Ts own ∧ meth.sig.returnType = ret ∧ gK g s ∧ (∀ q, s.heap.size ≤ q → A q) ∧ meth.locks = false
theorem k_iret {v : Int32} {w1 : va_W} (hx : p.tables.exec = Jvm.exec) (hb : c.code = cc) (hr : meth.sig.returnType = some .int) (hlk : meth.locks = false) (hP : va_P g.1 vwCl w1 H) (hD : va_D A w1) (hS : va_S A s.heap H locs) (hdg : decode cc pc = .ok (.ireturn, 1)) : W p l e R s m args below meth c H locs 0 0 (MQ below (QI g A v w1) args s 0 0 A) (F0 m pc ls [.int v]) :=
  W.iret (v := v) hx hb hr (fun t ht hW => ⟨⟨v, (), rfl, rfl, by rw [ht]; exact hP, hD⟩, hS.F ht⟩) hS.2.2 hdg
theorem k_zret {v : Int32} {w1 : va_W} (hx : p.tables.exec = Jvm.exec) (hb : c.code = cc) (hr : meth.sig.returnType = some .boolean) (hlk : meth.locks = false) (hv : v = 0 ∨ v = 1) (hP : va_P g.1 vwCl w1 H) (hD : va_D A w1) (hS : va_S A s.heap H locs) (hdg : decode cc pc = .ok (.ireturn, 1)) : W p l e R s m args below meth c H locs 0 0 (MQ below (QI g A v w1) args s 0 0 A) (F0 m pc ls [.int v]) :=
  W.zret (v := v) hx hb hr (nar_z hv) (fun t ht hW => ⟨⟨v, (), rfl, rfl, by rw [ht]; exact hP, hD⟩, hS.F ht⟩) hS.2.2 hdg
theorem k_vret {w1 : va_W} (hx : p.tables.exec = Jvm.exec) (hb : c.code = cc) (hr : meth.sig.returnType = none) (hlk : meth.locks = false) (hP : va_P g.1 vwCl w1 H) (hD : va_D A w1) (hS : va_S A s.heap H locs) (hdg : decode cc pc = .ok (.return_, 1)) : W p l e R s m args below meth c H locs 0 0 (MQ below (QV g A w1) args s 0 0 A) (F0 m pc ls []) :=
  W.vret hx hb hr (fun t ht hW => ⟨⟨(), rfl, trivial, by rw [ht]; exact hP, hD⟩, hS.F ht⟩) hS.2.2 hdg
/-- behind a call that answers an int -/
theorem k_i {r : Int32} {ws wc w1 w2 : va_W} {a : Array Value} (hr : va_Run p l e R s m args below meth c H locs 0 0 0 0 (F0 m pc ls st0) rest (QI g (va_A wc H.size) r w1 a) (va_A wc H.size)) (hP : va_P g.1 vwCl ws H) (hD : va_D A ws) (hS : va_S A s.heap H locs) (hA : ∀ q, s.heap.size ≤ q → A q) (isC ks : List Nat) (hC : isC.map (fun i => ws[i]?) = wc.map some) (n1 : Nat) (hn1 : w1.length = n1) (hk2 : ks.map (fun j => (w1 ++ ws)[j]?) = w2.map some) (hok : okk n1 isC ks = true)
    (kk : ∀ (H : Heap) (locs : List Loc), va_P g.1 vwCl w2 H → va_D A w2 → va_S A s.heap H locs → W p l e R s m args below meth c H locs 0 0 Q (F0 m (pc + 3) ls (.int r :: rest))) : W p l e R s m args below meth c H locs 0 0 Q (F0 m pc ls st0) := by
  have hF := va_free (wc := wc) hD hS hA isC hC
  refine va_calli hr hS (fun q _ h => hF q h) hF (fun r' u t H1 locs1 ht hvm hw hB hz1 hk1 hS1 => ?_)
  obtain ⟨hP1, hD1⟩ := hB
  rw [ht] at hP1
  subst hw
  obtain ⟨hP2, hD2⟩ := wj hP hD isC ks hC n1 hn1 hk2 hok hk1 hF hP1 hD1
  exact kk H1 locs1 hP2 hD2 hS1
theorem k_v {ws wc w1 w2 : va_W} {a : Array Value} (hr : va_Run p l e R s m args below meth c H locs 0 0 0 0 (F0 m pc ls st0) rest (QV g (va_A wc H.size) w1 a) (va_A wc H.size)) (hP : va_P g.1 vwCl ws H) (hD : va_D A ws) (hS : va_S A s.heap H locs) (hA : ∀ q, s.heap.size ≤ q → A q) (isC ks : List Nat) (hC : isC.map (fun i => ws[i]?) = wc.map some) (n1 : Nat) (hn1 : w1.length = n1) (hk2 : ks.map (fun j => (w1 ++ ws)[j]?) = w2.map some) (hok : okk n1 isC ks = true)
    (kk : ∀ (H : Heap) (locs : List Loc), va_P g.1 vwCl w2 H → va_D A w2 → va_S A s.heap H locs → W p l e R s m args below meth c H locs 0 0 Q (F0 m (pc + 3) ls rest)) : W p l e R s m args below meth c H locs 0 0 Q (F0 m pc ls st0) := by
  have hF := va_free (wc := wc) hD hS hA isC hC
  refine va_callv hr hS (fun q _ h => hF q h) hF (fun u t H1 locs1 ht hvm hw hB hz1 hk1 hS1 => ?_)
  obtain ⟨hP1, hD1⟩ := hB
  rw [ht] at hP1
  obtain ⟨hP2, hD2⟩ := wj hP hD isC ks hC n1 hn1 hk2 hok hk1 hF hP1 hD1
  exact kk H1 locs1 hP2 hD2 hS1
/-- the words of a call -/
theorem gN {c0 co : Cond} (h5 : co ∈ gW) : GoodIn (c0 :: gW) (co :: gW) := fun w hw => by
  have h : w ∈ gW := by
    rcases List.mem_cons.mp hw with rfl | h
    · exact h5
    · exact h
  exact ⟨List.mem_cons_of_mem _ h, good_of_word (gW_good w h)⟩
theorem gW_two {c0 : Cond} {l1 l2 : List Cond} (h1 : ∀ w ∈ l1, w ∈ gW) (h2 : GoodIn (c0 :: gW) l2) : GoodIn (c0 :: gW) (l1 ++ l2) := fun w hw => by
  rcases List.mem_append.mp hw with h | h
  · exact ⟨List.mem_cons_of_mem _ (h1 w h), good_of_word (gW_good w (h1 w h))⟩
  · exact h2 w h
theorem gV {c0 co : Cond} {own C : String} {idx : Nat} {y : MethodName} (h1 : (.methodLink own idx y : Cond) ∈ gW) (h2 : (.instanceMethod y : Cond) ∈ gW) (h3 : (.selects C y y : Cond) ∈ gW) (h4 : (.initialized C : Cond) ∈ gW) (h5 : co ∈ gW) : GoodIn (c0 :: gW) (wsV own idx C y (co :: gW)) :=
  gW_two (List.forall_mem_cons.mpr ⟨h1, List.forall_mem_cons.mpr ⟨h2, List.forall_mem_cons.mpr ⟨h3, List.forall_mem_cons.mpr ⟨h4, fun _ h => absurd h List.not_mem_nil⟩⟩⟩⟩) (gN h5)
theorem gS {c0 co : Cond} {own : String} {idx : Nat} {y : MethodName} (h1 : (.methodLink own idx y : Cond) ∈ gW) (h2 : (.static y : Cond) ∈ gW) (h3 : (.initialized y.cls : Cond) ∈ gW) (h5 : co ∈ gW) : GoodIn (c0 :: gW) (va_wsS own idx y (co :: gW)) :=
  gW_two (List.forall_mem_cons.mpr ⟨h1, List.forall_mem_cons.mpr ⟨h2, List.forall_mem_cons.mpr ⟨h3, fun _ h => absurd h List.not_mem_nil⟩⟩⟩) (gN h5)
variable {y : MethodName} {bytes : ByteArray} {maxL n idx fr lo fR lR : Nat} {ret : Option FieldType} {own C : String} {b : Addr} {As : List Value} {c0 : Cond} {r : Int32} {ws wc w1 w2 : va_W}
theorem kVi (S : CallFix p m c cc nL s args (c0 :: gW) own) (hM : MetI l y (.code y bytes maxL ret :: gW) fr lo (.ref b :: As) r g wc w1 H.size) (hG : GoodIn (c0 :: gW) (wsV own idx C y (.code y bytes maxL ret :: gW)))
    (hd : y.cls = C ∧ y.cls ≠ "java/lang/invoke/MethodHandle" ∧ y.cls ≠ "java/lang/invoke/VarHandle" ∧ (parseMethodDescriptor y.desc).map (fun d => d.parameters.length) = some n) (hR : Nat.ble (fr + 1) fR = true ∧ Nat.ble (8 + (maxL + 11) + lo) lR = true) (hK : gK g s) (hP : va_P g.1 vwCl ws H) (hD : va_D A ws) (hS : va_S A s.heap H locs) (hA : ∀ q, s.heap.size ≤ q → A q)
    (q0 ci : Nat) {fs : List Value} {T : u_T} {N : Nat} (he : ws[q0]? = some (b, .inr (ci, fs))) (hc : vwCl[ci]? = some (C, T, N)) (isC ks : List Nat) (hnC : va_nd isC = true) (hC : isC.map (fun i => ws[i]?) = wc.map some) (n1 : Nat) (hn1 : w1.length = n1) (hk2 : ks.map (fun j => (w1 ++ ws)[j]?) = w2.map some) (hok : okk n1 isC ks = true)
    (hn : As.length = n) (hsize : ls.size = nL) (hst : st0 = As.reverse ++ .ref b :: rest) (hW : Nat.ble (rest.map fun v => v.category).sum 8 = true) (hdg : decode cc pc = .ok (.invokevirtual idx, 3))
    (kk : ∀ (H : Heap) (locs : List Loc), va_P g.1 vwCl w2 H → va_D A w2 → va_S A s.heap H locs → W p l e (rM fR lR) s m args below meth c H locs 0 0 Q (F0 m (pc + 3) ls (.int r :: rest))) : W p l e (rM fR lR) s m args below meth c H locs 0 0 Q (F0 m pc ls st0) := by
  have hDc := hD.sub isC hnC hC
  have hPc : va_P g.1 vwCl wc H := hP.sub isC (fm_of hC)
  exact k_i (va_runV S hM (cwV n S.2.2.2.2 hG rfl rfl rfl hd ⟨Nat.le_of_ble_eq_true hR.1, Nat.le_of_ble_eq_true hR.2⟩) ⟨cPre_blind, va_recv hK.1 hP hc he, cPre_of rfl hK hPc hDc⟩ rfl hn hsize hst (lv_room (Nat.le_of_ble_eq_true hW)) hdg ⟨Nat.le_refl _, Nat.le_refl _⟩) hP hD hS hA isC ks hC n1 hn1 hk2 hok kk
theorem kVv (S : CallFix p m c cc nL s args (c0 :: gW) own) (hM : MetV l y (.code y bytes maxL ret :: gW) fr lo (.ref b :: As) g wc w1 H.size) (hG : GoodIn (c0 :: gW) (wsV own idx C y (.code y bytes maxL ret :: gW)))
    (hd : y.cls = C ∧ y.cls ≠ "java/lang/invoke/MethodHandle" ∧ y.cls ≠ "java/lang/invoke/VarHandle" ∧ (parseMethodDescriptor y.desc).map (fun d => d.parameters.length) = some n) (hR : Nat.ble (fr + 1) fR = true ∧ Nat.ble (8 + (maxL + 11) + lo) lR = true) (hK : gK g s) (hP : va_P g.1 vwCl ws H) (hD : va_D A ws) (hS : va_S A s.heap H locs) (hA : ∀ q, s.heap.size ≤ q → A q)
    (q0 ci : Nat) {fs : List Value} {T : u_T} {N : Nat} (he : ws[q0]? = some (b, .inr (ci, fs))) (hc : vwCl[ci]? = some (C, T, N)) (isC ks : List Nat) (hnC : va_nd isC = true) (hC : isC.map (fun i => ws[i]?) = wc.map some) (n1 : Nat) (hn1 : w1.length = n1) (hk2 : ks.map (fun j => (w1 ++ ws)[j]?) = w2.map some) (hok : okk n1 isC ks = true)
    (hn : As.length = n) (hsize : ls.size = nL) (hst : st0 = As.reverse ++ .ref b :: rest) (hW : Nat.ble (rest.map fun v => v.category).sum 8 = true) (hdg : decode cc pc = .ok (.invokevirtual idx, 3))
    (kk : ∀ (H : Heap) (locs : List Loc), va_P g.1 vwCl w2 H → va_D A w2 → va_S A s.heap H locs → W p l e (rM fR lR) s m args below meth c H locs 0 0 Q (F0 m (pc + 3) ls rest)) : W p l e (rM fR lR) s m args below meth c H locs 0 0 Q (F0 m pc ls st0) := by
  have hDc := hD.sub isC hnC hC
  have hPc : va_P g.1 vwCl wc H := hP.sub isC (fm_of hC)
  exact k_v (va_runV S hM (cwV n S.2.2.2.2 hG rfl rfl rfl hd ⟨Nat.le_of_ble_eq_true hR.1, Nat.le_of_ble_eq_true hR.2⟩) ⟨cPre_blind, va_recv hK.1 hP hc he, cPre_of rfl hK hPc hDc⟩ rfl hn hsize hst (lv_room (Nat.le_of_ble_eq_true hW)) hdg ⟨Nat.le_refl _, Nat.le_refl _⟩) hP hD hS hA isC ks hC n1 hn1 hk2 hok kk
theorem kSi (S : CallFix p m c cc nL s args (c0 :: gW) own) (hM : MetI l y (.code y bytes maxL ret :: gW) fr lo As r g wc w1 H.size) (hG : GoodIn (c0 :: gW) (va_wsS own idx y (.code y bytes maxL ret :: gW)))
    (hd : y.cls ≠ "java/lang/invoke/MethodHandle" ∧ y.cls ≠ "java/lang/invoke/VarHandle" ∧ (parseMethodDescriptor y.desc).map (fun d => d.parameters.length) = some n) (hR : Nat.ble (fr + 1) fR = true ∧ Nat.ble (8 + (maxL + 11) + lo) lR = true) (hK : gK g s) (hP : va_P g.1 vwCl ws H) (hD : va_D A ws) (hS : va_S A s.heap H locs) (hA : ∀ q, s.heap.size ≤ q → A q)
    (isC ks : List Nat) (hnC : va_nd isC = true) (hC : isC.map (fun i => ws[i]?) = wc.map some) (n1 : Nat) (hn1 : w1.length = n1) (hk2 : ks.map (fun j => (w1 ++ ws)[j]?) = w2.map some) (hok : okk n1 isC ks = true)
    (hn : As.length = n) (hsize : ls.size = nL) (hst : st0 = As.reverse ++ rest) (hW : Nat.ble (rest.map fun v => v.category).sum 8 = true) (hdg : decode cc pc = .ok (.invokestatic idx, 3))
    (kk : ∀ (H : Heap) (locs : List Loc), va_P g.1 vwCl w2 H → va_D A w2 → va_S A s.heap H locs → W p l e (rM fR lR) s m args below meth c H locs 0 0 Q (F0 m (pc + 3) ls (.int r :: rest))) : W p l e (rM fR lR) s m args below meth c H locs 0 0 Q (F0 m pc ls st0) := by
  have hDc := hD.sub isC hnC hC
  have hPc : va_P g.1 vwCl wc H := hP.sub isC (fm_of hC)
  exact k_i (va_runS S hM (va_cwS n S.2.2.2.2 hG rfl rfl rfl hd ⟨Nat.le_of_ble_eq_true hR.1, Nat.le_of_ble_eq_true hR.2⟩) ⟨cPre_blind, cPre_of rfl hK hPc hDc⟩ rfl hn hsize hst (lv_room (Nat.le_of_ble_eq_true hW)) hdg ⟨Nat.le_refl _, Nat.le_refl _⟩) hP hD hS hA isC ks hC n1 hn1 hk2 hok kk
theorem kSv (S : CallFix p m c cc nL s args (c0 :: gW) own) (hM : MetV l y (.code y bytes maxL ret :: gW) fr lo As g wc w1 H.size) (hG : GoodIn (c0 :: gW) (va_wsS own idx y (.code y bytes maxL ret :: gW)))
    (hd : y.cls ≠ "java/lang/invoke/MethodHandle" ∧ y.cls ≠ "java/lang/invoke/VarHandle" ∧ (parseMethodDescriptor y.desc).map (fun d => d.parameters.length) = some n) (hR : Nat.ble (fr + 1) fR = true ∧ Nat.ble (8 + (maxL + 11) + lo) lR = true) (hK : gK g s) (hP : va_P g.1 vwCl ws H) (hD : va_D A ws) (hS : va_S A s.heap H locs) (hA : ∀ q, s.heap.size ≤ q → A q)
    (isC ks : List Nat) (hnC : va_nd isC = true) (hC : isC.map (fun i => ws[i]?) = wc.map some) (n1 : Nat) (hn1 : w1.length = n1) (hk2 : ks.map (fun j => (w1 ++ ws)[j]?) = w2.map some) (hok : okk n1 isC ks = true)
    (hn : As.length = n) (hsize : ls.size = nL) (hst : st0 = As.reverse ++ rest) (hW : Nat.ble (rest.map fun v => v.category).sum 8 = true) (hdg : decode cc pc = .ok (.invokestatic idx, 3))
    (kk : ∀ (H : Heap) (locs : List Loc), va_P g.1 vwCl w2 H → va_D A w2 → va_S A s.heap H locs → W p l e (rM fR lR) s m args below meth c H locs 0 0 Q (F0 m (pc + 3) ls rest)) : W p l e (rM fR lR) s m args below meth c H locs 0 0 Q (F0 m pc ls st0) := by
  have hDc := hD.sub isC hnC hC
  have hPc : va_P g.1 vwCl wc H := hP.sub isC (fm_of hC)
  exact k_v (va_runS S hM (va_cwS n S.2.2.2.2 hG rfl rfl rfl hd ⟨Nat.le_of_ble_eq_true hR.1, Nat.le_of_ble_eq_true hR.2⟩) ⟨cPre_blind, cPre_of rfl hK hPc hDc⟩ rfl hn hsize hst (lv_room (Nat.le_of_ble_eq_true hW)) hdg ⟨Nat.le_refl _, Nat.le_refl _⟩) hP hD hS hA isC ks hC n1 hn1 hk2 hok kk
/-- a nest mate's static method -/
theorem kNi {host : String} (S : CallFix p m c cc nL s args (c0 :: gW) own) (hM : MetI l y (.code y bytes maxL ret :: gW) fr lo As r g wc w1 H.size) (hco : (.code y bytes maxL ret : Cond) ∈ gW) (hsta : (.static y : Cond) ∈ gW) (hini : (.initialized y.cls : Cond) ∈ gW) (hnl : (own, idx, y, host) ∈ gNt)
    (hd : y.cls ≠ "java/lang/invoke/MethodHandle" ∧ y.cls ≠ "java/lang/invoke/VarHandle" ∧ (parseMethodDescriptor y.desc).map (fun d => d.parameters.length) = some n) (hR : Nat.ble (fr + 1) fR = true ∧ Nat.ble (8 + (maxL + 11) + lo) lR = true) (hK : gK g s) (hP : va_P g.1 vwCl ws H) (hD : va_D A ws) (hS : va_S A s.heap H locs) (hA : ∀ q, s.heap.size ≤ q → A q)
    (isC ks : List Nat) (hnC : va_nd isC = true) (hC : isC.map (fun i => ws[i]?) = wc.map some) (n1 : Nat) (hn1 : w1.length = n1) (hk2 : ks.map (fun j => (w1 ++ ws)[j]?) = w2.map some) (hok : okk n1 isC ks = true)
    (hn : As.length = n) (hsize : ls.size = nL) (hst : st0 = As.reverse ++ rest) (hW : Nat.ble (rest.map fun v => v.category).sum 8 = true) (hdg : decode cc pc = .ok (.invokestatic idx, 3))
    (kk : ∀ (H : Heap) (locs : List Loc), va_P g.1 vwCl w2 H → va_D A w2 → va_S A s.heap H locs → W p l e (rM fR lR) s m args below meth c H locs 0 0 Q (F0 m (pc + 3) ls (.int r :: rest))) : W p l e (rM fR lR) s m args below meth c H locs 0 0 Q (F0 m pc ls st0) := by
  have hDc := hD.sub isC hnC hC
  have hPc : va_P g.1 vwCl wc H := hP.sub isC (fm_of hC)
  have hts := S.2.2.2.2
  exact k_i (va_runSN S hM ⟨va_cnB n hts (gN hco) rfl rfl rfl (hK.2.1 _ hnl) (hts _ (List.mem_cons_of_mem _ hini)) hd ⟨Nat.le_of_ble_eq_true hR.1, Nat.le_of_ble_eq_true hR.2⟩, hts _ (List.mem_cons_of_mem _ hsta), trivial⟩ ⟨cPre_blind, cPre_of rfl hK hPc hDc⟩ rfl hn hsize hst (lv_room (Nat.le_of_ble_eq_true hW)) hdg ⟨Nat.le_refl _, Nat.le_refl _⟩) hP hD hS hA isC ks hC n1 hn1 hk2 hok kk
end OWN
theorem mkI {l : Launch} {y : MethodName} {cc : ByteArray} {maxL fr lo : Nat} {ret : Option FieldType} {av : List Value} {r : Int32} {g : gG} {wc w1 : va_W} (hy : plainName y.cls = true) (hav : Nat.ble (lg_sl av).length maxL = true)
    (hk : ∀ (p : Program) (e : Env) (s : State) (m : MethodId) (below : List Frame) (meth : Method) (c : Code) (A : Nat → Prop), En p s m av.toArray meth c g A cc maxL (.code y cc maxL ret :: gW) y.cls ret → WA p l e (rM fr lo) s m av.toArray below meth c g A (MQ below (QI g A r w1) av.toArray s 0 0 A) maxL 0 wc (lv_args 0 av) []) (sz : Nat) : MetI l y (.code y cc maxL ret :: gW) fr lo av r g wc w1 sz := by
  refine Met.ofW (cc := cc) (maxL := maxL) (ret := ret) hy rfl ?_
  intro p e s m args below meth c s₁ B hml hv
  obtain ⟨rfl, hsz, hP, hK, hD0⟩ := hv
  have hts := atoms_spec (ws := (.code y cc maxL ret :: gW)) B.pre
  have hown : s.vm.findClass y.cls = some m.cls := findClass_of_methodNamed B.named
  subst hsz
  have hD := hD0.self (sz := s.heap.size)
  have hA : ∀ q : Nat, s.heap.size ≤ q → va_A wc s.heap.size q := fun q h => Or.inr h
  have hl := lv_entry av (n := maxL) (Nat.le_of_ble_eq_true hav)
  rw [lg_entry_eq]
  exact hk p e s m below meth c (va_A wc s.heap.size) ⟨⟨B.exec, B.bytes, hml, hown, hts⟩, B.returns, hK, hA, B.notSynchronized⟩ s.heap [] _ hP hD va_S.rf hl
theorem mkV {l : Launch} {y : MethodName} {cc : ByteArray} {maxL fr lo : Nat} {av : List Value} {g : gG} {wc w1 : va_W} (hy : plainName y.cls = true) (hav : Nat.ble (lg_sl av).length maxL = true)
    (hk : ∀ (p : Program) (e : Env) (s : State) (m : MethodId) (below : List Frame) (meth : Method) (c : Code) (A : Nat → Prop), En p s m av.toArray meth c g A cc maxL (.code y cc maxL none :: gW) y.cls none → WA p l e (rM fr lo) s m av.toArray below meth c g A (MQ below (QV g A w1) av.toArray s 0 0 A) maxL 0 wc (lv_args 0 av) []) (sz : Nat) : MetV l y (.code y cc maxL none :: gW) fr lo av g wc w1 sz := by
  refine Met.ofW (cc := cc) (maxL := maxL) (ret := none) hy rfl ?_
  intro p e s m args below meth c s₁ B hml hv
  obtain ⟨rfl, hsz, hP, hK, hD0⟩ := hv
  have hts := atoms_spec (ws := (.code y cc maxL none :: gW)) B.pre
  have hown : s.vm.findClass y.cls = some m.cls := findClass_of_methodNamed B.named
  subst hsz
  have hD := hD0.self (sz := s.heap.size)
  have hA : ∀ q : Nat, s.heap.size ≤ q → va_A wc s.heap.size q := fun q h => Or.inr h
  have hl := lv_entry av (n := maxL) (Nat.le_of_ble_eq_true hav)
  rw [lg_entry_eq]
  exact hk p e s m below meth c (va_A wc s.heap.size) ⟨⟨B.exec, B.bytes, hml, hown, hts⟩, B.returns, hK, hA, B.notSynchronized⟩ s.heap [] _ hP hD va_S.rf hl
theorem n_X9_11 : ((RX9, 11, yX5_init, RX9) : String × Nat × MethodName × String) ∈ gNt := List.mem_of_getElem? (i := 0) rfl
theorem n_X9_18 : ((RX9, 18, yX4_init, RX9) : String × Nat × MethodName × String) ∈ gNt := List.mem_of_getElem? (i := 1) rfl
theorem n_X9_51 : ((RX9, 51, yX2_init, RX9) : String × Nat × MethodName × String) ∈ gNt := List.mem_of_getElem? (i := 2) rfl
theorem n_X9_58 : ((RX9, 58, yX7_init, RX9) : String × Nat × MethodName × String) ∈ gNt := List.mem_of_getElem? (i := 3) rfl
theorem n_X9_65 : ((RX9, 65, yX6_init, RX9) : String × Nat × MethodName × String) ∈ gNt := List.mem_of_getElem? (i := 4) rfl
theorem n_X9_74 : ((RX9, 74, yX1_init, RX9) : String × Nat × MethodName × String) ∈ gNt := List.mem_of_getElem? (i := 5) rfl
theorem n_X0_81 : ((RX0, 81, yX9_has, RX9) : String × Nat × MethodName × String) ∈ gNt := List.mem_of_getElem? (i := 6) rfl
theorem n_X6_39 : ((RX6, 39, yX9_has, RX9) : String × Nat × MethodName × String) ∈ gNt := List.mem_of_getElem? (i := 7) rfl
theorem n_X7_100 : ((RX7, 100, yX9_has, RX9) : String × Nat × MethodName × String) ∈ gNt := List.mem_of_getElem? (i := 8) rfl
theorem n_X7_11 : ((RX7, 11, yX8_init, RX9) : String × Nat × MethodName × String) ∈ gNt := List.mem_of_getElem? (i := 9) rfl
theorem n_X8_40 : ((RX8, 40, yX9_has, RX9) : String × Nat × MethodName × String) ∈ gNt := List.mem_of_getElem? (i := 10) rfl
abbrev oX0 (q : Nat) (Q : Ad) (i0 : Int32) (i1 : Int32) : Nat × va_E := (q, .inr (0, [.int i0, .int i1, .ref (Q 2), .ref (Q 3), .ref (Q 4), .ref (Q 5), .ref (Q 6)]))
abbrev oX1 (q : Nat) (Q : Ad) (i0 : Int32) (i1 : Int32) : Nat × va_E := (q, .inr (1, [.int i0, .int i1, .ref (Q 2)]))
abbrev oX2 (q : Nat) (Q : Ad) (i0 : Int32) (i1 : Int32) : Nat × va_E := (q, .inr (2, [.int i0, .int i1, .ref (Q 2), .ref (Q 3), .ref (Q 4), .ref (Q 5), .ref (Q 6)]))
abbrev oX3 (q : Nat) (Q : Ad) (i0 : Int32) (i1 : Int32) : Nat × va_E := (q, .inr (3, [.int i0, .int i1, .ref (Q 2)]))
abbrev oX4 (q : Nat) (Q : Ad) (i0 : Int32) (i1 : Int32) (i2 : Int32) : Nat × va_E := (q, .inr (4, [.int i0, .int i1, .int i2, .ref (Q 3), .ref (Q 4), .ref (Q 5), .ref (Q 6), .ref (Q 7), .ref (Q 8)]))
abbrev oX5 (q : Nat) (Q : Ad) (i1 : Int32) (i2 : Int32) (i3 : Int32) (i4 : Int32) (i5 : Int32) : Nat × va_E := (q, .inr (5, [.ref (Q 0), .int i1, .int i2, .int i3, .int i4, .int i5]))
abbrev oX6 (q : Nat) (Q : Ad) : Nat × va_E := (q, .inr (6, [.ref (Q 0), .ref (Q 1)]))
abbrev oX7 (q : Nat) (Q : Ad) : Nat × va_E := (q, .inr (7, [.ref (Q 0), .ref (Q 1), .ref (Q 2), .ref (Q 3)]))
abbrev oX8 (q : Nat) (Q : Ad) : Nat × va_E := (q, .inr (8, [.ref (Q 0), .ref (Q 1)]))
abbrev oX9 (q : Nat) (Q : Ad) (i10 : Int32) : Nat × va_E := (q, .inr (9, [.ref (Q 0), .ref (Q 1), .ref (Q 2), .ref (Q 3), .ref (Q 4), .ref (Q 5), .ref (Q 6), .ref (Q 7), .ref (Q 8), .ref (Q 9), .int i10]))
abbrev oX10 (q : Nat) (Q : Ad) (i0 : Int32) (i2 : Int32) (i3 : Int32) (i4 : Int32) (i5 : Int32) (i6 : Int32) (i7 : Int32) (i8 : Int32) (i9 : Int32) (i10 : Int32) (i11 : Int32) (i12 : Int32) (i15 : Int32) (i16 : Int32) (i17 : Int32) (i23 : Int32) (i27 : Int32) (i28 : Int32) (i30 : Int32) : Nat × va_E := (q, .inr (10, [.int i0, .ref (Q 1), .int i2, .int i3, .int i4, .int i5, .int i6, .int i7, .int i8, .int i9, .int i10, .int i11, .int i12, .ref (Q 13), .ref (Q 14), .int i15, .int i16, .int i17, .ref (Q 18), .ref (Q 19), .ref (Q 20), .ref (Q 21), .ref (Q 22), .int i23, .ref (Q 24), .ref (Q 25), .ref (Q 26), .int i27, .int i28, .ref (Q 29), .int i30, .ref (Q 31), .ref (Q 32), .ref (Q 33), .ref (Q 34), .ref (Q 35), .ref (Q 36), .ref (Q 37)]))
theorem hd_X0_init : yX0_init.cls = RX0 ∧ yX0_init.cls ≠ "java/lang/invoke/MethodHandle" ∧ yX0_init.cls ≠ "java/lang/invoke/VarHandle" ∧ (parseMethodDescriptor yX0_init.desc).map (fun d => d.parameters.length) = some 0 := by decide +kernel
theorem hd_X0_begin : yX0_begin.cls = RX0 ∧ yX0_begin.cls ≠ "java/lang/invoke/MethodHandle" ∧ yX0_begin.cls ≠ "java/lang/invoke/VarHandle" ∧ (parseMethodDescriptor yX0_begin.desc).map (fun d => d.parameters.length) = some 0 := by decide +kernel
theorem hd_X0_drain : yX0_drain.cls = RX0 ∧ yX0_drain.cls ≠ "java/lang/invoke/MethodHandle" ∧ yX0_drain.cls ≠ "java/lang/invoke/VarHandle" ∧ (parseMethodDescriptor yX0_drain.desc).map (fun d => d.parameters.length) = some 0 := by decide +kernel
theorem hd_X0_copyFrom : yX0_copyFrom.cls = RX0 ∧ yX0_copyFrom.cls ≠ "java/lang/invoke/MethodHandle" ∧ yX0_copyFrom.cls ≠ "java/lang/invoke/VarHandle" ∧ (parseMethodDescriptor yX0_copyFrom.desc).map (fun d => d.parameters.length) = some 1 := by decide +kernel
theorem hd_X0_blocked : yX0_blocked.cls = RX0 ∧ yX0_blocked.cls ≠ "java/lang/invoke/MethodHandle" ∧ yX0_blocked.cls ≠ "java/lang/invoke/VarHandle" ∧ (parseMethodDescriptor yX0_blocked.desc).map (fun d => d.parameters.length) = some 1 := by decide +kernel
theorem hd_X0_yetToCome : yX0_yetToCome.cls = RX0 ∧ yX0_yetToCome.cls ≠ "java/lang/invoke/MethodHandle" ∧ yX0_yetToCome.cls ≠ "java/lang/invoke/VarHandle" ∧ (parseMethodDescriptor yX0_yetToCome.desc).map (fun d => d.parameters.length) = some 0 := by decide +kernel
theorem hd_X0_soonestAt : yX0_soonestAt.cls = RX0 ∧ yX0_soonestAt.cls ≠ "java/lang/invoke/MethodHandle" ∧ yX0_soonestAt.cls ≠ "java/lang/invoke/VarHandle" ∧ (parseMethodDescriptor yX0_soonestAt.desc).map (fun d => d.parameters.length) = some 1 := by decide +kernel
theorem hd_X0_comeToSpring : yX0_comeToSpring.cls = RX0 ∧ yX0_comeToSpring.cls ≠ "java/lang/invoke/MethodHandle" ∧ yX0_comeToSpring.cls ≠ "java/lang/invoke/VarHandle" ∧ (parseMethodDescriptor yX0_comeToSpring.desc).map (fun d => d.parameters.length) = some 1 := by decide +kernel
theorem hd_X0_passHour : yX0_passHour.cls = RX0 ∧ yX0_passHour.cls ≠ "java/lang/invoke/MethodHandle" ∧ yX0_passHour.cls ≠ "java/lang/invoke/VarHandle" ∧ (parseMethodDescriptor yX0_passHour.desc).map (fun d => d.parameters.length) = some 1 := by decide +kernel
theorem hd_X0_sendOn : yX0_sendOn.cls = RX0 ∧ yX0_sendOn.cls ≠ "java/lang/invoke/MethodHandle" ∧ yX0_sendOn.cls ≠ "java/lang/invoke/VarHandle" ∧ (parseMethodDescriptor yX0_sendOn.desc).map (fun d => d.parameters.length) = some 3 := by decide +kernel
theorem hd_X0_hearAt : yX0_hearAt.cls = RX0 ∧ yX0_hearAt.cls ≠ "java/lang/invoke/MethodHandle" ∧ yX0_hearAt.cls ≠ "java/lang/invoke/VarHandle" ∧ (parseMethodDescriptor yX0_hearAt.desc).map (fun d => d.parameters.length) = some 2 := by decide +kernel
theorem hd_X1_init : yX1_init.cls = RX1 ∧ yX1_init.cls ≠ "java/lang/invoke/MethodHandle" ∧ yX1_init.cls ≠ "java/lang/invoke/VarHandle" ∧ (parseMethodDescriptor yX1_init.desc).map (fun d => d.parameters.length) = some 0 := by decide +kernel
theorem hd_X2_init : yX2_init.cls = RX2 ∧ yX2_init.cls ≠ "java/lang/invoke/MethodHandle" ∧ yX2_init.cls ≠ "java/lang/invoke/VarHandle" ∧ (parseMethodDescriptor yX2_init.desc).map (fun d => d.parameters.length) = some 0 := by decide +kernel
theorem hd_X2_tearOut : yX2_tearOut.cls = RX2 ∧ yX2_tearOut.cls ≠ "java/lang/invoke/MethodHandle" ∧ yX2_tearOut.cls ≠ "java/lang/invoke/VarHandle" ∧ (parseMethodDescriptor yX2_tearOut.desc).map (fun d => d.parameters.length) = some 0 := by decide +kernel
theorem hd_X2_addDrip : yX2_addDrip.cls = RX2 ∧ yX2_addDrip.cls ≠ "java/lang/invoke/MethodHandle" ∧ yX2_addDrip.cls ≠ "java/lang/invoke/VarHandle" ∧ (parseMethodDescriptor yX2_addDrip.desc).map (fun d => d.parameters.length) = some 3 := by decide +kernel
theorem hd_X2_addEntry : yX2_addEntry.cls = RX2 ∧ yX2_addEntry.cls ≠ "java/lang/invoke/MethodHandle" ∧ yX2_addEntry.cls ≠ "java/lang/invoke/VarHandle" ∧ (parseMethodDescriptor yX2_addEntry.desc).map (fun d => d.parameters.length) = some 2 := by decide +kernel
theorem hd_X2_firstWrong : yX2_firstWrong.cls = RX2 ∧ yX2_firstWrong.cls ≠ "java/lang/invoke/MethodHandle" ∧ yX2_firstWrong.cls ≠ "java/lang/invoke/VarHandle" ∧ (parseMethodDescriptor yX2_firstWrong.desc).map (fun d => d.parameters.length) = some 1 := by decide +kernel
theorem hd_X3_init : yX3_init.cls = RX3 ∧ yX3_init.cls ≠ "java/lang/invoke/MethodHandle" ∧ yX3_init.cls ≠ "java/lang/invoke/VarHandle" ∧ (parseMethodDescriptor yX3_init.desc).map (fun d => d.parameters.length) = some 0 := by decide +kernel
theorem hd_X3_forget : yX3_forget.cls = RX3 ∧ yX3_forget.cls ≠ "java/lang/invoke/MethodHandle" ∧ yX3_forget.cls ≠ "java/lang/invoke/VarHandle" ∧ (parseMethodDescriptor yX3_forget.desc).map (fun d => d.parameters.length) = some 0 := by decide +kernel
theorem hd_X3_push : yX3_push.cls = RX3 ∧ yX3_push.cls ≠ "java/lang/invoke/MethodHandle" ∧ yX3_push.cls ≠ "java/lang/invoke/VarHandle" ∧ (parseMethodDescriptor yX3_push.desc).map (fun d => d.parameters.length) = some 1 := by decide +kernel
theorem hd_X3_pop : yX3_pop.cls = RX3 ∧ yX3_pop.cls ≠ "java/lang/invoke/MethodHandle" ∧ yX3_pop.cls ≠ "java/lang/invoke/VarHandle" ∧ (parseMethodDescriptor yX3_pop.desc).map (fun d => d.parameters.length) = some 1 := by decide +kernel
theorem hd_X4_init : yX4_init.cls = RX4 ∧ yX4_init.cls ≠ "java/lang/invoke/MethodHandle" ∧ yX4_init.cls ≠ "java/lang/invoke/VarHandle" ∧ (parseMethodDescriptor yX4_init.desc).map (fun d => d.parameters.length) = some 0 := by decide +kernel
theorem hd_X4_wipe : yX4_wipe.cls = RX4 ∧ yX4_wipe.cls ≠ "java/lang/invoke/MethodHandle" ∧ yX4_wipe.cls ≠ "java/lang/invoke/VarHandle" ∧ (parseMethodDescriptor yX4_wipe.desc).map (fun d => d.parameters.length) = some 0 := by decide +kernel
theorem hd_X4_hasPlace : yX4_hasPlace.cls = RX4 ∧ yX4_hasPlace.cls ≠ "java/lang/invoke/MethodHandle" ∧ yX4_hasPlace.cls ≠ "java/lang/invoke/VarHandle" ∧ (parseMethodDescriptor yX4_hasPlace.desc).map (fun d => d.parameters.length) = some 1 := by decide +kernel
theorem hd_X4_hasChannel : yX4_hasChannel.cls = RX4 ∧ yX4_hasChannel.cls ≠ "java/lang/invoke/MethodHandle" ∧ yX4_hasChannel.cls ≠ "java/lang/invoke/VarHandle" ∧ (parseMethodDescriptor yX4_hasChannel.desc).map (fun d => d.parameters.length) = some 1 := by decide +kernel
theorem hd_X4_joins : yX4_joins.cls = RX4 ∧ yX4_joins.cls ≠ "java/lang/invoke/MethodHandle" ∧ yX4_joins.cls ≠ "java/lang/invoke/VarHandle" ∧ (parseMethodDescriptor yX4_joins.desc).map (fun d => d.parameters.length) = some 2 := by decide +kernel
theorem hd_X4_mayJoin : yX4_mayJoin.cls = RX4 ∧ yX4_mayJoin.cls ≠ "java/lang/invoke/MethodHandle" ∧ yX4_mayJoin.cls ≠ "java/lang/invoke/VarHandle" ∧ (parseMethodDescriptor yX4_mayJoin.desc).map (fun d => d.parameters.length) = some 2 := by decide +kernel
theorem hd_X4_addPlace : yX4_addPlace.cls = RX4 ∧ yX4_addPlace.cls ≠ "java/lang/invoke/MethodHandle" ∧ yX4_addPlace.cls ≠ "java/lang/invoke/VarHandle" ∧ (parseMethodDescriptor yX4_addPlace.desc).map (fun d => d.parameters.length) = some 2 := by decide +kernel
theorem hd_X4_addChannel : yX4_addChannel.cls = RX4 ∧ yX4_addChannel.cls ≠ "java/lang/invoke/MethodHandle" ∧ yX4_addChannel.cls ≠ "java/lang/invoke/VarHandle" ∧ (parseMethodDescriptor yX4_addChannel.desc).map (fun d => d.parameters.length) = some 3 := by decide +kernel
theorem hd_X4_goingOn : yX4_goingOn.cls = RX4 ∧ yX4_goingOn.cls ≠ "java/lang/invoke/MethodHandle" ∧ yX4_goingOn.cls ≠ "java/lang/invoke/VarHandle" ∧ (parseMethodDescriptor yX4_goingOn.desc).map (fun d => d.parameters.length) = some 2 := by decide +kernel
theorem hd_X5_init : yX5_init.cls = RX5 ∧ yX5_init.cls ≠ "java/lang/invoke/MethodHandle" ∧ yX5_init.cls ≠ "java/lang/invoke/VarHandle" ∧ (parseMethodDescriptor yX5_init.desc).map (fun d => d.parameters.length) = some 0 := by decide +kernel
theorem hd_X5_add : yX5_add.cls = RX5 ∧ yX5_add.cls ≠ "java/lang/invoke/MethodHandle" ∧ yX5_add.cls ≠ "java/lang/invoke/VarHandle" ∧ (parseMethodDescriptor yX5_add.desc).map (fun d => d.parameters.length) = some 1 := by decide +kernel
theorem hd_X5_read : yX5_read.cls = RX5 ∧ yX5_read.cls ≠ "java/lang/invoke/MethodHandle" ∧ yX5_read.cls ≠ "java/lang/invoke/VarHandle" ∧ (parseMethodDescriptor yX5_read.desc).map (fun d => d.parameters.length) = some 1 := by decide +kernel
theorem hd_X5_readClause : yX5_readClause.cls = RX5 ∧ yX5_readClause.cls ≠ "java/lang/invoke/MethodHandle" ∧ yX5_readClause.cls ≠ "java/lang/invoke/VarHandle" ∧ (parseMethodDescriptor yX5_readClause.desc).map (fun d => d.parameters.length) = some 1 := by decide +kernel
theorem hd_X5_hasRoomFor : yX5_hasRoomFor.cls = RX5 ∧ yX5_hasRoomFor.cls ≠ "java/lang/invoke/MethodHandle" ∧ yX5_hasRoomFor.cls ≠ "java/lang/invoke/VarHandle" ∧ (parseMethodDescriptor yX5_hasRoomFor.desc).map (fun d => d.parameters.length) = some 2 := by decide +kernel
theorem hd_X5_readRoom : yX5_readRoom.cls = RX5 ∧ yX5_readRoom.cls ≠ "java/lang/invoke/MethodHandle" ∧ yX5_readRoom.cls ≠ "java/lang/invoke/VarHandle" ∧ (parseMethodDescriptor yX5_readRoom.desc).map (fun d => d.parameters.length) = some 1 := by decide +kernel
theorem hd_X5_readPlace : yX5_readPlace.cls = RX5 ∧ yX5_readPlace.cls ≠ "java/lang/invoke/MethodHandle" ∧ yX5_readPlace.cls ≠ "java/lang/invoke/VarHandle" ∧ (parseMethodDescriptor yX5_readPlace.desc).map (fun d => d.parameters.length) = some 1 := by decide +kernel
theorem hd_X5_readChannel : yX5_readChannel.cls = RX5 ∧ yX5_readChannel.cls ≠ "java/lang/invoke/MethodHandle" ∧ yX5_readChannel.cls ≠ "java/lang/invoke/VarHandle" ∧ (parseMethodDescriptor yX5_readChannel.desc).map (fun d => d.parameters.length) = some 1 := by decide +kernel
theorem hd_X5_number : yX5_number.cls = RX5 ∧ yX5_number.cls ≠ "java/lang/invoke/MethodHandle" ∧ yX5_number.cls ≠ "java/lang/invoke/VarHandle" ∧ (parseMethodDescriptor yX5_number.desc).map (fun d => d.parameters.length) = some 2 := by decide +kernel
theorem hd_X5_closes : yX5_closes.cls = RX5 ∧ yX5_closes.cls ≠ "java/lang/invoke/MethodHandle" ∧ yX5_closes.cls ≠ "java/lang/invoke/VarHandle" ∧ (parseMethodDescriptor yX5_closes.desc).map (fun d => d.parameters.length) = some 0 := by decide +kernel
theorem hd_X5_skipBlanks : yX5_skipBlanks.cls = RX5 ∧ yX5_skipBlanks.cls ≠ "java/lang/invoke/MethodHandle" ∧ yX5_skipBlanks.cls ≠ "java/lang/invoke/VarHandle" ∧ (parseMethodDescriptor yX5_skipBlanks.desc).map (fun d => d.parameters.length) = some 0 := by decide +kernel
theorem hd_X5_current : yX5_current.cls = RX5 ∧ yX5_current.cls ≠ "java/lang/invoke/MethodHandle" ∧ yX5_current.cls ≠ "java/lang/invoke/VarHandle" ∧ (parseMethodDescriptor yX5_current.desc).map (fun d => d.parameters.length) = some 0 := by decide +kernel
theorem hd_X5_isFigure : yX5_isFigure.cls ≠ "java/lang/invoke/MethodHandle" ∧ yX5_isFigure.cls ≠ "java/lang/invoke/VarHandle" ∧ (parseMethodDescriptor yX5_isFigure.desc).map (fun d => d.parameters.length) = some 1 := by decide +kernel
theorem hd_X5_blame : yX5_blame.cls = RX5 ∧ yX5_blame.cls ≠ "java/lang/invoke/MethodHandle" ∧ yX5_blame.cls ≠ "java/lang/invoke/VarHandle" ∧ (parseMethodDescriptor yX5_blame.desc).map (fun d => d.parameters.length) = some 2 := by decide +kernel
theorem hd_X6_init : yX6_init.cls = RX6 ∧ yX6_init.cls ≠ "java/lang/invoke/MethodHandle" ∧ yX6_init.cls ≠ "java/lang/invoke/VarHandle" ∧ (parseMethodDescriptor yX6_init.desc).map (fun d => d.parameters.length) = some 0 := by decide +kernel
theorem hd_X6_follow : yX6_follow.cls = RX6 ∧ yX6_follow.cls ≠ "java/lang/invoke/MethodHandle" ∧ yX6_follow.cls ≠ "java/lang/invoke/VarHandle" ∧ (parseMethodDescriptor yX6_follow.desc).map (fun d => d.parameters.length) = some 2 := by decide +kernel
theorem hd_X7_init : yX7_init.cls = RX7 ∧ yX7_init.cls ≠ "java/lang/invoke/MethodHandle" ∧ yX7_init.cls ≠ "java/lang/invoke/VarHandle" ∧ (parseMethodDescriptor yX7_init.desc).map (fun d => d.parameters.length) = some 0 := by decide +kernel
theorem hd_X7_fewestGates : yX7_fewestGates.cls = RX7 ∧ yX7_fewestGates.cls ≠ "java/lang/invoke/MethodHandle" ∧ yX7_fewestGates.cls ≠ "java/lang/invoke/VarHandle" ∧ (parseMethodDescriptor yX7_fewestGates.desc).map (fun d => d.parameters.length) = some 5 := by decide +kernel
theorem hd_X7_meetingHour : yX7_meetingHour.cls = RX7 ∧ yX7_meetingHour.cls ≠ "java/lang/invoke/MethodHandle" ∧ yX7_meetingHour.cls ≠ "java/lang/invoke/VarHandle" ∧ (parseMethodDescriptor yX7_meetingHour.desc).map (fun d => d.parameters.length) = some 5 := by decide +kernel
theorem hd_X7_fittingCracks : yX7_fittingCracks.cls = RX7 ∧ yX7_fittingCracks.cls ≠ "java/lang/invoke/MethodHandle" ∧ yX7_fittingCracks.cls ≠ "java/lang/invoke/VarHandle" ∧ (parseMethodDescriptor yX7_fittingCracks.desc).map (fun d => d.parameters.length) = some 4 := by decide +kernel
theorem hd_X7_fits : yX7_fits.cls = RX7 ∧ yX7_fits.cls ≠ "java/lang/invoke/MethodHandle" ∧ yX7_fits.cls ≠ "java/lang/invoke/VarHandle" ∧ (parseMethodDescriptor yX7_fits.desc).map (fun d => d.parameters.length) = some 5 := by decide +kernel
theorem hd_X7_crackAlone : yX7_crackAlone.cls = RX7 ∧ yX7_crackAlone.cls ≠ "java/lang/invoke/MethodHandle" ∧ yX7_crackAlone.cls ≠ "java/lang/invoke/VarHandle" ∧ (parseMethodDescriptor yX7_crackAlone.desc).map (fun d => d.parameters.length) = some 2 := by decide +kernel
theorem hd_X7_bestListener : yX7_bestListener.cls = RX7 ∧ yX7_bestListener.cls ≠ "java/lang/invoke/MethodHandle" ∧ yX7_bestListener.cls ≠ "java/lang/invoke/VarHandle" ∧ (parseMethodDescriptor yX7_bestListener.desc).map (fun d => d.parameters.length) = some 4 := by decide +kernel
theorem hd_X7_noteHours : yX7_noteHours.cls = RX7 ∧ yX7_noteHours.cls ≠ "java/lang/invoke/MethodHandle" ∧ yX7_noteHours.cls ≠ "java/lang/invoke/VarHandle" ∧ (parseMethodDescriptor yX7_noteHours.desc).map (fun d => d.parameters.length) = some 4 := by decide +kernel
theorem hd_X7_greatestPart : yX7_greatestPart.cls = RX7 ∧ yX7_greatestPart.cls ≠ "java/lang/invoke/MethodHandle" ∧ yX7_greatestPart.cls ≠ "java/lang/invoke/VarHandle" ∧ (parseMethodDescriptor yX7_greatestPart.desc).map (fun d => d.parameters.length) = some 2 := by decide +kernel
theorem hd_X8_init : yX8_init.cls = RX8 ∧ yX8_init.cls ≠ "java/lang/invoke/MethodHandle" ∧ yX8_init.cls ≠ "java/lang/invoke/VarHandle" ∧ (parseMethodDescriptor yX8_init.desc).map (fun d => d.parameters.length) = some 0 := by decide +kernel
theorem hd_X8_run : yX8_run.cls = RX8 ∧ yX8_run.cls ≠ "java/lang/invoke/MethodHandle" ∧ yX8_run.cls ≠ "java/lang/invoke/VarHandle" ∧ (parseMethodDescriptor yX8_run.desc).map (fun d => d.parameters.length) = some 4 := by decide +kernel
theorem hd_X8_firstHour : yX8_firstHour.cls = RX8 ∧ yX8_firstHour.cls ≠ "java/lang/invoke/MethodHandle" ∧ yX8_firstHour.cls ≠ "java/lang/invoke/VarHandle" ∧ (parseMethodDescriptor yX8_firstHour.desc).map (fun d => d.parameters.length) = some 1 := by decide +kernel
theorem hd_X8_heardAtPlaces : yX8_heardAtPlaces.cls = RX8 ∧ yX8_heardAtPlaces.cls ≠ "java/lang/invoke/MethodHandle" ∧ yX8_heardAtPlaces.cls ≠ "java/lang/invoke/VarHandle" ∧ (parseMethodDescriptor yX8_heardAtPlaces.desc).map (fun d => d.parameters.length) = some 0 := by decide +kernel
theorem hd_X9_init : yX9_init.cls = RX9 ∧ yX9_init.cls ≠ "java/lang/invoke/MethodHandle" ∧ yX9_init.cls ≠ "java/lang/invoke/VarHandle" ∧ (parseMethodDescriptor yX9_init.desc).map (fun d => d.parameters.length) = some 0 := by decide +kernel
theorem hd_X9_feed : yX9_feed.cls = RX9 ∧ yX9_feed.cls ≠ "java/lang/invoke/MethodHandle" ∧ yX9_feed.cls ≠ "java/lang/invoke/VarHandle" ∧ (parseMethodDescriptor yX9_feed.desc).map (fun d => d.parameters.length) = some 1 := by decide +kernel
theorem hd_X9_works : yX9_works.cls = RX9 ∧ yX9_works.cls ≠ "java/lang/invoke/MethodHandle" ∧ yX9_works.cls ≠ "java/lang/invoke/VarHandle" ∧ (parseMethodDescriptor yX9_works.desc).map (fun d => d.parameters.length) = some 0 := by decide +kernel
theorem hd_X9_fault : yX9_fault.cls = RX9 ∧ yX9_fault.cls ≠ "java/lang/invoke/MethodHandle" ∧ yX9_fault.cls ≠ "java/lang/invoke/VarHandle" ∧ (parseMethodDescriptor yX9_fault.desc).map (fun d => d.parameters.length) = some 0 := by decide +kernel
theorem hd_X9_told : yX9_told.cls = RX9 ∧ yX9_told.cls ≠ "java/lang/invoke/MethodHandle" ∧ yX9_told.cls ≠ "java/lang/invoke/VarHandle" ∧ (parseMethodDescriptor yX9_told.desc).map (fun d => d.parameters.length) = some 1 := by decide +kernel
theorem hd_X9_place : yX9_place.cls = RX9 ∧ yX9_place.cls ≠ "java/lang/invoke/MethodHandle" ∧ yX9_place.cls ≠ "java/lang/invoke/VarHandle" ∧ (parseMethodDescriptor yX9_place.desc).map (fun d => d.parameters.length) = some 2 := by decide +kernel
theorem hd_X9_channel : yX9_channel.cls = RX9 ∧ yX9_channel.cls ≠ "java/lang/invoke/MethodHandle" ∧ yX9_channel.cls ≠ "java/lang/invoke/VarHandle" ∧ (parseMethodDescriptor yX9_channel.desc).map (fun d => d.parameters.length) = some 2 := by decide +kernel
theorem hd_X9_first : yX9_first.cls = RX9 ∧ yX9_first.cls ≠ "java/lang/invoke/MethodHandle" ∧ yX9_first.cls ≠ "java/lang/invoke/VarHandle" ∧ (parseMethodDescriptor yX9_first.desc).map (fun d => d.parameters.length) = some 2 := by decide +kernel
theorem hd_X9_letIn : yX9_letIn.cls = RX9 ∧ yX9_letIn.cls ≠ "java/lang/invoke/MethodHandle" ∧ yX9_letIn.cls ≠ "java/lang/invoke/VarHandle" ∧ (parseMethodDescriptor yX9_letIn.desc).map (fun d => d.parameters.length) = some 1 := by decide +kernel
theorem hd_X9_hour : yX9_hour.cls = RX9 ∧ yX9_hour.cls ≠ "java/lang/invoke/MethodHandle" ∧ yX9_hour.cls ≠ "java/lang/invoke/VarHandle" ∧ (parseMethodDescriptor yX9_hour.desc).map (fun d => d.parameters.length) = some 1 := by decide +kernel
theorem hd_X9_gate : yX9_gate.cls = RX9 ∧ yX9_gate.cls ≠ "java/lang/invoke/MethodHandle" ∧ yX9_gate.cls ≠ "java/lang/invoke/VarHandle" ∧ (parseMethodDescriptor yX9_gate.desc).map (fun d => d.parameters.length) = some 2 := by decide +kernel
theorem hd_X9_clear : yX9_clear.cls = RX9 ∧ yX9_clear.cls ≠ "java/lang/invoke/MethodHandle" ∧ yX9_clear.cls ≠ "java/lang/invoke/VarHandle" ∧ (parseMethodDescriptor yX9_clear.desc).map (fun d => d.parameters.length) = some 1 := by decide +kernel
theorem hd_X9_crack : yX9_crack.cls = RX9 ∧ yX9_crack.cls ≠ "java/lang/invoke/MethodHandle" ∧ yX9_crack.cls ≠ "java/lang/invoke/VarHandle" ∧ (parseMethodDescriptor yX9_crack.desc).map (fun d => d.parameters.length) = some 2 := by decide +kernel
theorem hd_X9_empty : yX9_empty.cls = RX9 ∧ yX9_empty.cls ≠ "java/lang/invoke/MethodHandle" ∧ yX9_empty.cls ≠ "java/lang/invoke/VarHandle" ∧ (parseMethodDescriptor yX9_empty.desc).map (fun d => d.parameters.length) = some 0 := by decide +kernel
theorem hd_X9_drift : yX9_drift.cls = RX9 ∧ yX9_drift.cls ≠ "java/lang/invoke/MethodHandle" ∧ yX9_drift.cls ≠ "java/lang/invoke/VarHandle" ∧ (parseMethodDescriptor yX9_drift.desc).map (fun d => d.parameters.length) = some 1 := by decide +kernel
theorem hd_X9_undo : yX9_undo.cls = RX9 ∧ yX9_undo.cls ≠ "java/lang/invoke/MethodHandle" ∧ yX9_undo.cls ≠ "java/lang/invoke/VarHandle" ∧ (parseMethodDescriptor yX9_undo.desc).map (fun d => d.parameters.length) = some 0 := by decide +kernel
theorem hd_X9_hears : yX9_hears.cls = RX9 ∧ yX9_hears.cls ≠ "java/lang/invoke/MethodHandle" ∧ yX9_hears.cls ≠ "java/lang/invoke/VarHandle" ∧ (parseMethodDescriptor yX9_hears.desc).map (fun d => d.parameters.length) = some 2 := by decide +kernel
theorem hd_X9_soonest : yX9_soonest.cls = RX9 ∧ yX9_soonest.cls ≠ "java/lang/invoke/MethodHandle" ∧ yX9_soonest.cls ≠ "java/lang/invoke/VarHandle" ∧ (parseMethodDescriptor yX9_soonest.desc).map (fun d => d.parameters.length) = some 2 := by decide +kernel
theorem hd_X9_gates : yX9_gates.cls = RX9 ∧ yX9_gates.cls ≠ "java/lang/invoke/MethodHandle" ∧ yX9_gates.cls ≠ "java/lang/invoke/VarHandle" ∧ (parseMethodDescriptor yX9_gates.desc).map (fun d => d.parameters.length) = some 3 := by decide +kernel
theorem hd_X9_cut : yX9_cut.cls = RX9 ∧ yX9_cut.cls ≠ "java/lang/invoke/MethodHandle" ∧ yX9_cut.cls ≠ "java/lang/invoke/VarHandle" ∧ (parseMethodDescriptor yX9_cut.desc).map (fun d => d.parameters.length) = some 3 := by decide +kernel
theorem hd_X9_meet : yX9_meet.cls = RX9 ∧ yX9_meet.cls ≠ "java/lang/invoke/MethodHandle" ∧ yX9_meet.cls ≠ "java/lang/invoke/VarHandle" ∧ (parseMethodDescriptor yX9_meet.desc).map (fun d => d.parameters.length) = some 3 := by decide +kernel
theorem hd_X9_longest : yX9_longest.cls = RX9 ∧ yX9_longest.cls ≠ "java/lang/invoke/MethodHandle" ∧ yX9_longest.cls ≠ "java/lang/invoke/VarHandle" ∧ (parseMethodDescriptor yX9_longest.desc).map (fun d => d.parameters.length) = some 1 := by decide +kernel
theorem hd_X9_ways : yX9_ways.cls = RX9 ∧ yX9_ways.cls ≠ "java/lang/invoke/MethodHandle" ∧ yX9_ways.cls ≠ "java/lang/invoke/VarHandle" ∧ (parseMethodDescriptor yX9_ways.desc).map (fun d => d.parameters.length) = some 1 := by decide +kernel
theorem hd_X9_firstBlocked : yX9_firstBlocked.cls = RX9 ∧ yX9_firstBlocked.cls ≠ "java/lang/invoke/MethodHandle" ∧ yX9_firstBlocked.cls ≠ "java/lang/invoke/VarHandle" ∧ (parseMethodDescriptor yX9_firstBlocked.desc).map (fun d => d.parameters.length) = some 0 := by decide +kernel
theorem hd_X9_share : yX9_share.cls = RX9 ∧ yX9_share.cls ≠ "java/lang/invoke/MethodHandle" ∧ yX9_share.cls ≠ "java/lang/invoke/VarHandle" ∧ (parseMethodDescriptor yX9_share.desc).map (fun d => d.parameters.length) = some 1 := by decide +kernel
theorem hd_X9_frost : yX9_frost.cls = RX9 ∧ yX9_frost.cls ≠ "java/lang/invoke/MethodHandle" ∧ yX9_frost.cls ≠ "java/lang/invoke/VarHandle" ∧ (parseMethodDescriptor yX9_frost.desc).map (fun d => d.parameters.length) = some 2 := by decide +kernel
theorem hd_X9_drip : yX9_drip.cls = RX9 ∧ yX9_drip.cls ≠ "java/lang/invoke/MethodHandle" ∧ yX9_drip.cls ≠ "java/lang/invoke/VarHandle" ∧ (parseMethodDescriptor yX9_drip.desc).map (fun d => d.parameters.length) = some 3 := by decide +kernel
theorem hd_X9_cracked : yX9_cracked.cls = RX9 ∧ yX9_cracked.cls ≠ "java/lang/invoke/MethodHandle" ∧ yX9_cracked.cls ≠ "java/lang/invoke/VarHandle" ∧ (parseMethodDescriptor yX9_cracked.desc).map (fun d => d.parameters.length) = some 1 := by decide +kernel
theorem hd_X9_listen : yX9_listen.cls = RX9 ∧ yX9_listen.cls ≠ "java/lang/invoke/MethodHandle" ∧ yX9_listen.cls ≠ "java/lang/invoke/VarHandle" ∧ (parseMethodDescriptor yX9_listen.desc).map (fun d => d.parameters.length) = some 1 := by decide +kernel
theorem hd_X9_write : yX9_write.cls = RX9 ∧ yX9_write.cls ≠ "java/lang/invoke/MethodHandle" ∧ yX9_write.cls ≠ "java/lang/invoke/VarHandle" ∧ (parseMethodDescriptor yX9_write.desc).map (fun d => d.parameters.length) = some 2 := by decide +kernel
theorem hd_X9_tear : yX9_tear.cls = RX9 ∧ yX9_tear.cls ≠ "java/lang/invoke/MethodHandle" ∧ yX9_tear.cls ≠ "java/lang/invoke/VarHandle" ∧ (parseMethodDescriptor yX9_tear.desc).map (fun d => d.parameters.length) = some 0 := by decide +kernel
theorem hd_X9_judge : yX9_judge.cls = RX9 ∧ yX9_judge.cls ≠ "java/lang/invoke/MethodHandle" ∧ yX9_judge.cls ≠ "java/lang/invoke/VarHandle" ∧ (parseMethodDescriptor yX9_judge.desc).map (fun d => d.parameters.length) = some 0 := by decide +kernel
theorem hd_X9_seed : yX9_seed.cls = RX9 ∧ yX9_seed.cls ≠ "java/lang/invoke/MethodHandle" ∧ yX9_seed.cls ≠ "java/lang/invoke/VarHandle" ∧ (parseMethodDescriptor yX9_seed.desc).map (fun d => d.parameters.length) = some 1 := by decide +kernel
theorem hd_X9_keep : yX9_keep.cls = RX9 ∧ yX9_keep.cls ≠ "java/lang/invoke/MethodHandle" ∧ yX9_keep.cls ≠ "java/lang/invoke/VarHandle" ∧ (parseMethodDescriptor yX9_keep.desc).map (fun d => d.parameters.length) = some 1 := by decide +kernel
theorem hd_X9_goBack : yX9_goBack.cls = RX9 ∧ yX9_goBack.cls ≠ "java/lang/invoke/MethodHandle" ∧ yX9_goBack.cls ≠ "java/lang/invoke/VarHandle" ∧ (parseMethodDescriptor yX9_goBack.desc).map (fun d => d.parameters.length) = some 1 := by decide +kernel
theorem hd_X9_isSaying : yX9_isSaying.cls ≠ "java/lang/invoke/MethodHandle" ∧ yX9_isSaying.cls ≠ "java/lang/invoke/VarHandle" ∧ (parseMethodDescriptor yX9_isSaying.desc).map (fun d => d.parameters.length) = some 1 := by decide +kernel
theorem hd_X9_has : yX9_has.cls ≠ "java/lang/invoke/MethodHandle" ∧ yX9_has.cls ≠ "java/lang/invoke/VarHandle" ∧ (parseMethodDescriptor yX9_has.desc).map (fun d => d.parameters.length) = some 2 := by decide +kernel
theorem hd_X9_refusalOfHours : yX9_refusalOfHours.cls = RX9 ∧ yX9_refusalOfHours.cls ≠ "java/lang/invoke/MethodHandle" ∧ yX9_refusalOfHours.cls ≠ "java/lang/invoke/VarHandle" ∧ (parseMethodDescriptor yX9_refusalOfHours.desc).map (fun d => d.parameters.length) = some 1 := by decide +kernel
theorem hd_X9_refusalOfTry : yX9_refusalOfTry.cls = RX9 ∧ yX9_refusalOfTry.cls ≠ "java/lang/invoke/MethodHandle" ∧ yX9_refusalOfTry.cls ≠ "java/lang/invoke/VarHandle" ∧ (parseMethodDescriptor yX9_refusalOfTry.desc).map (fun d => d.parameters.length) = some 2 := by decide +kernel
theorem hd_X9_tryOut : yX9_tryOut.cls = RX9 ∧ yX9_tryOut.cls ≠ "java/lang/invoke/MethodHandle" ∧ yX9_tryOut.cls ≠ "java/lang/invoke/VarHandle" ∧ (parseMethodDescriptor yX9_tryOut.desc).map (fun d => d.parameters.length) = some 1 := by decide +kernel
theorem hd_X9_drawThird : yX9_drawThird.cls = RX9 ∧ yX9_drawThird.cls ≠ "java/lang/invoke/MethodHandle" ∧ yX9_drawThird.cls ≠ "java/lang/invoke/VarHandle" ∧ (parseMethodDescriptor yX9_drawThird.desc).map (fun d => d.parameters.length) = some 0 := by decide +kernel
theorem hd_X9_drawSaying : yX9_drawSaying.cls = RX9 ∧ yX9_drawSaying.cls ≠ "java/lang/invoke/MethodHandle" ∧ yX9_drawSaying.cls ≠ "java/lang/invoke/VarHandle" ∧ (parseMethodDescriptor yX9_drawSaying.desc).map (fun d => d.parameters.length) = some 0 := by decide +kernel
theorem hd_X9_stepSeed : yX9_stepSeed.cls = RX9 ∧ yX9_stepSeed.cls ≠ "java/lang/invoke/MethodHandle" ∧ yX9_stepSeed.cls ≠ "java/lang/invoke/VarHandle" ∧ (parseMethodDescriptor yX9_stepSeed.desc).map (fun d => d.parameters.length) = some 0 := by decide +kernel
theorem hd_X10_init : yX10_init.cls = RX10 ∧ yX10_init.cls ≠ "java/lang/invoke/MethodHandle" ∧ yX10_init.cls ≠ "java/lang/invoke/VarHandle" ∧ (parseMethodDescriptor yX10_init.desc).map (fun d => d.parameters.length) = some 0 := by decide +kernel
theorem hd_X10_open : yX10_open.cls = RX10 ∧ yX10_open.cls ≠ "java/lang/invoke/MethodHandle" ∧ yX10_open.cls ≠ "java/lang/invoke/VarHandle" ∧ (parseMethodDescriptor yX10_open.desc).map (fun d => d.parameters.length) = some 0 := by decide +kernel
theorem hd_X10_dry : yX10_dry.cls ≠ "java/lang/invoke/MethodHandle" ∧ yX10_dry.cls ≠ "java/lang/invoke/VarHandle" ∧ (parseMethodDescriptor yX10_dry.desc).map (fun d => d.parameters.length) = some 1 := by decide +kernel
theorem hd_X10_in : yX10_in.cls ≠ "java/lang/invoke/MethodHandle" ∧ yX10_in.cls ≠ "java/lang/invoke/VarHandle" ∧ (parseMethodDescriptor yX10_in.desc).map (fun d => d.parameters.length) = some 3 := by decide +kernel
theorem hd_X10_has : yX10_has.cls ≠ "java/lang/invoke/MethodHandle" ∧ yX10_has.cls ≠ "java/lang/invoke/VarHandle" ∧ (parseMethodDescriptor yX10_has.desc).map (fun d => d.parameters.length) = some 2 := by decide +kernel
theorem hd_X10_bits : yX10_bits.cls ≠ "java/lang/invoke/MethodHandle" ∧ yX10_bits.cls ≠ "java/lang/invoke/VarHandle" ∧ (parseMethodDescriptor yX10_bits.desc).map (fun d => d.parameters.length) = some 1 := by decide +kernel
theorem hd_X10_isPlace : yX10_isPlace.cls = RX10 ∧ yX10_isPlace.cls ≠ "java/lang/invoke/MethodHandle" ∧ yX10_isPlace.cls ≠ "java/lang/invoke/VarHandle" ∧ (parseMethodDescriptor yX10_isPlace.desc).map (fun d => d.parameters.length) = some 1 := by decide +kernel
theorem hd_X10_isChannel : yX10_isChannel.cls = RX10 ∧ yX10_isChannel.cls ≠ "java/lang/invoke/MethodHandle" ∧ yX10_isChannel.cls ≠ "java/lang/invoke/VarHandle" ∧ (parseMethodDescriptor yX10_isChannel.desc).map (fun d => d.parameters.length) = some 1 := by decide +kernel
theorem hd_X10_isSaying : yX10_isSaying.cls ≠ "java/lang/invoke/MethodHandle" ∧ yX10_isSaying.cls ≠ "java/lang/invoke/VarHandle" ∧ (parseMethodDescriptor yX10_isSaying.desc).map (fun d => d.parameters.length) = some 1 := by decide +kernel
theorem hd_X10_feed : yX10_feed.cls = RX10 ∧ yX10_feed.cls ≠ "java/lang/invoke/MethodHandle" ∧ yX10_feed.cls ≠ "java/lang/invoke/VarHandle" ∧ (parseMethodDescriptor yX10_feed.desc).map (fun d => d.parameters.length) = some 1 := by decide +kernel
theorem hd_X10_nextToken : yX10_nextToken.cls = RX10 ∧ yX10_nextToken.cls ≠ "java/lang/invoke/MethodHandle" ∧ yX10_nextToken.cls ≠ "java/lang/invoke/VarHandle" ∧ (parseMethodDescriptor yX10_nextToken.desc).map (fun d => d.parameters.length) = some 0 := by decide +kernel
theorem hd_X10_fails : yX10_fails.cls = RX10 ∧ yX10_fails.cls ≠ "java/lang/invoke/MethodHandle" ∧ yX10_fails.cls ≠ "java/lang/invoke/VarHandle" ∧ (parseMethodDescriptor yX10_fails.desc).map (fun d => d.parameters.length) = some 1 := by decide +kernel
theorem hd_X10_isNumber : yX10_isNumber.cls = RX10 ∧ yX10_isNumber.cls ≠ "java/lang/invoke/MethodHandle" ∧ yX10_isNumber.cls ≠ "java/lang/invoke/VarHandle" ∧ (parseMethodDescriptor yX10_isNumber.desc).map (fun d => d.parameters.length) = some 2 := by decide +kernel
theorem hd_X10_isEnd : yX10_isEnd.cls = RX10 ∧ yX10_isEnd.cls ≠ "java/lang/invoke/MethodHandle" ∧ yX10_isEnd.cls ≠ "java/lang/invoke/VarHandle" ∧ (parseMethodDescriptor yX10_isEnd.desc).map (fun d => d.parameters.length) = some 0 := by decide +kernel
theorem hd_X10_isMostItem : yX10_isMostItem.cls = RX10 ∧ yX10_isMostItem.cls ≠ "java/lang/invoke/MethodHandle" ∧ yX10_isMostItem.cls ≠ "java/lang/invoke/VarHandle" ∧ (parseMethodDescriptor yX10_isMostItem.desc).map (fun d => d.parameters.length) = some 0 := by decide +kernel
theorem hd_X10_isPlaceItem : yX10_isPlaceItem.cls = RX10 ∧ yX10_isPlaceItem.cls ≠ "java/lang/invoke/MethodHandle" ∧ yX10_isPlaceItem.cls ≠ "java/lang/invoke/VarHandle" ∧ (parseMethodDescriptor yX10_isPlaceItem.desc).map (fun d => d.parameters.length) = some 0 := by decide +kernel
theorem hd_X10_isChannelItem : yX10_isChannelItem.cls = RX10 ∧ yX10_isChannelItem.cls ≠ "java/lang/invoke/MethodHandle" ∧ yX10_isChannelItem.cls ≠ "java/lang/invoke/VarHandle" ∧ (parseMethodDescriptor yX10_isChannelItem.desc).map (fun d => d.parameters.length) = some 0 := by decide +kernel
theorem hd_X10_isClause : yX10_isClause.cls = RX10 ∧ yX10_isClause.cls ≠ "java/lang/invoke/MethodHandle" ∧ yX10_isClause.cls ≠ "java/lang/invoke/VarHandle" ∧ (parseMethodDescriptor yX10_isClause.desc).map (fun d => d.parameters.length) = some 0 := by decide +kernel
theorem hd_X10_isRead : yX10_isRead.cls = RX10 ∧ yX10_isRead.cls ≠ "java/lang/invoke/MethodHandle" ∧ yX10_isRead.cls ≠ "java/lang/invoke/VarHandle" ∧ (parseMethodDescriptor yX10_isRead.desc).map (fun d => d.parameters.length) = some 0 := by decide +kernel
theorem hd_X10_works : yX10_works.cls = RX10 ∧ yX10_works.cls ≠ "java/lang/invoke/MethodHandle" ∧ yX10_works.cls ≠ "java/lang/invoke/VarHandle" ∧ (parseMethodDescriptor yX10_works.desc).map (fun d => d.parameters.length) = some 0 := by decide +kernel
theorem hd_X10_fault : yX10_fault.cls = RX10 ∧ yX10_fault.cls ≠ "java/lang/invoke/MethodHandle" ∧ yX10_fault.cls ≠ "java/lang/invoke/VarHandle" ∧ (parseMethodDescriptor yX10_fault.desc).map (fun d => d.parameters.length) = some 0 := by decide +kernel
theorem hd_X10_onTheWay : yX10_onTheWay.cls = RX10 ∧ yX10_onTheWay.cls ≠ "java/lang/invoke/MethodHandle" ∧ yX10_onTheWay.cls ≠ "java/lang/invoke/VarHandle" ∧ (parseMethodDescriptor yX10_onTheWay.desc).map (fun d => d.parameters.length) = some 0 := by decide +kernel
theorem hd_X10_blockedIn : yX10_blockedIn.cls = RX10 ∧ yX10_blockedIn.cls ≠ "java/lang/invoke/MethodHandle" ∧ yX10_blockedIn.cls ≠ "java/lang/invoke/VarHandle" ∧ (parseMethodDescriptor yX10_blockedIn.desc).map (fun d => d.parameters.length) = some 1 := by decide +kernel
theorem hd_X10_told : yX10_told.cls = RX10 ∧ yX10_told.cls ≠ "java/lang/invoke/MethodHandle" ∧ yX10_told.cls ≠ "java/lang/invoke/VarHandle" ∧ (parseMethodDescriptor yX10_told.desc).map (fun d => d.parameters.length) = some 1 := by decide +kernel
theorem hd_X10_place : yX10_place.cls = RX10 ∧ yX10_place.cls ≠ "java/lang/invoke/MethodHandle" ∧ yX10_place.cls ≠ "java/lang/invoke/VarHandle" ∧ (parseMethodDescriptor yX10_place.desc).map (fun d => d.parameters.length) = some 2 := by decide +kernel
theorem hd_X10_channel : yX10_channel.cls = RX10 ∧ yX10_channel.cls ≠ "java/lang/invoke/MethodHandle" ∧ yX10_channel.cls ≠ "java/lang/invoke/VarHandle" ∧ (parseMethodDescriptor yX10_channel.desc).map (fun d => d.parameters.length) = some 2 := by decide +kernel
theorem hd_X10_first : yX10_first.cls = RX10 ∧ yX10_first.cls ≠ "java/lang/invoke/MethodHandle" ∧ yX10_first.cls ≠ "java/lang/invoke/VarHandle" ∧ (parseMethodDescriptor yX10_first.desc).map (fun d => d.parameters.length) = some 2 := by decide +kernel
theorem hd_X10_copy : yX10_copy.cls ≠ "java/lang/invoke/MethodHandle" ∧ yX10_copy.cls ≠ "java/lang/invoke/VarHandle" ∧ (parseMethodDescriptor yX10_copy.desc).map (fun d => d.parameters.length) = some 4 := by decide +kernel
theorem hd_X10_note : yX10_note.cls = RX10 ∧ yX10_note.cls ≠ "java/lang/invoke/MethodHandle" ∧ yX10_note.cls ≠ "java/lang/invoke/VarHandle" ∧ (parseMethodDescriptor yX10_note.desc).map (fun d => d.parameters.length) = some 0 := by decide +kernel
theorem hd_X10_hearAt : yX10_hearAt.cls ≠ "java/lang/invoke/MethodHandle" ∧ yX10_hearAt.cls ≠ "java/lang/invoke/VarHandle" ∧ (parseMethodDescriptor yX10_hearAt.desc).map (fun d => d.parameters.length) = some 3 := by decide +kernel
theorem hd_X10_goesOn : yX10_goesOn.cls = RX10 ∧ yX10_goesOn.cls ≠ "java/lang/invoke/MethodHandle" ∧ yX10_goesOn.cls ≠ "java/lang/invoke/VarHandle" ∧ (parseMethodDescriptor yX10_goesOn.desc).map (fun d => d.parameters.length) = some 2 := by decide +kernel
theorem hd_X10_passHour : yX10_passHour.cls = RX10 ∧ yX10_passHour.cls ≠ "java/lang/invoke/MethodHandle" ∧ yX10_passHour.cls ≠ "java/lang/invoke/VarHandle" ∧ (parseMethodDescriptor yX10_passHour.desc).map (fun d => d.parameters.length) = some 1 := by decide +kernel
theorem hd_X10_letIn : yX10_letIn.cls = RX10 ∧ yX10_letIn.cls ≠ "java/lang/invoke/MethodHandle" ∧ yX10_letIn.cls ≠ "java/lang/invoke/VarHandle" ∧ (parseMethodDescriptor yX10_letIn.desc).map (fun d => d.parameters.length) = some 1 := by decide +kernel
theorem hd_X10_hour : yX10_hour.cls = RX10 ∧ yX10_hour.cls ≠ "java/lang/invoke/MethodHandle" ∧ yX10_hour.cls ≠ "java/lang/invoke/VarHandle" ∧ (parseMethodDescriptor yX10_hour.desc).map (fun d => d.parameters.length) = some 1 := by decide +kernel
theorem hd_X10_gate : yX10_gate.cls = RX10 ∧ yX10_gate.cls ≠ "java/lang/invoke/MethodHandle" ∧ yX10_gate.cls ≠ "java/lang/invoke/VarHandle" ∧ (parseMethodDescriptor yX10_gate.desc).map (fun d => d.parameters.length) = some 2 := by decide +kernel
theorem hd_X10_clear : yX10_clear.cls = RX10 ∧ yX10_clear.cls ≠ "java/lang/invoke/MethodHandle" ∧ yX10_clear.cls ≠ "java/lang/invoke/VarHandle" ∧ (parseMethodDescriptor yX10_clear.desc).map (fun d => d.parameters.length) = some 1 := by decide +kernel
theorem hd_X10_crack : yX10_crack.cls = RX10 ∧ yX10_crack.cls ≠ "java/lang/invoke/MethodHandle" ∧ yX10_crack.cls ≠ "java/lang/invoke/VarHandle" ∧ (parseMethodDescriptor yX10_crack.desc).map (fun d => d.parameters.length) = some 2 := by decide +kernel
theorem hd_X10_empty : yX10_empty.cls = RX10 ∧ yX10_empty.cls ≠ "java/lang/invoke/MethodHandle" ∧ yX10_empty.cls ≠ "java/lang/invoke/VarHandle" ∧ (parseMethodDescriptor yX10_empty.desc).map (fun d => d.parameters.length) = some 0 := by decide +kernel
theorem hd_X10_draw : yX10_draw.cls = RX10 ∧ yX10_draw.cls ≠ "java/lang/invoke/MethodHandle" ∧ yX10_draw.cls ≠ "java/lang/invoke/VarHandle" ∧ (parseMethodDescriptor yX10_draw.desc).map (fun d => d.parameters.length) = some 1 := by decide +kernel
theorem hd_X10_drift : yX10_drift.cls = RX10 ∧ yX10_drift.cls ≠ "java/lang/invoke/MethodHandle" ∧ yX10_drift.cls ≠ "java/lang/invoke/VarHandle" ∧ (parseMethodDescriptor yX10_drift.desc).map (fun d => d.parameters.length) = some 1 := by decide +kernel
theorem hd_X10_undo : yX10_undo.cls = RX10 ∧ yX10_undo.cls ≠ "java/lang/invoke/MethodHandle" ∧ yX10_undo.cls ≠ "java/lang/invoke/VarHandle" ∧ (parseMethodDescriptor yX10_undo.desc).map (fun d => d.parameters.length) = some 0 := by decide +kernel
theorem hd_X10_layTried : yX10_layTried.cls = RX10 ∧ yX10_layTried.cls ≠ "java/lang/invoke/MethodHandle" ∧ yX10_layTried.cls ≠ "java/lang/invoke/VarHandle" ∧ (parseMethodDescriptor yX10_layTried.desc).map (fun d => d.parameters.length) = some 1 := by decide +kernel
theorem hd_X10_hears : yX10_hears.cls = RX10 ∧ yX10_hears.cls ≠ "java/lang/invoke/MethodHandle" ∧ yX10_hears.cls ≠ "java/lang/invoke/VarHandle" ∧ (parseMethodDescriptor yX10_hears.desc).map (fun d => d.parameters.length) = some 2 := by decide +kernel
theorem hd_X10_soonest : yX10_soonest.cls = RX10 ∧ yX10_soonest.cls ≠ "java/lang/invoke/MethodHandle" ∧ yX10_soonest.cls ≠ "java/lang/invoke/VarHandle" ∧ (parseMethodDescriptor yX10_soonest.desc).map (fun d => d.parameters.length) = some 2 := by decide +kernel
theorem hd_X10_layComes : yX10_layComes.cls = RX10 ∧ yX10_layComes.cls ≠ "java/lang/invoke/MethodHandle" ∧ yX10_layComes.cls ≠ "java/lang/invoke/VarHandle" ∧ (parseMethodDescriptor yX10_layComes.desc).map (fun d => d.parameters.length) = some 4 := by decide +kernel
theorem hd_X10_gates : yX10_gates.cls = RX10 ∧ yX10_gates.cls ≠ "java/lang/invoke/MethodHandle" ∧ yX10_gates.cls ≠ "java/lang/invoke/VarHandle" ∧ (parseMethodDescriptor yX10_gates.desc).map (fun d => d.parameters.length) = some 3 := by decide +kernel
theorem hd_X10_cut : yX10_cut.cls = RX10 ∧ yX10_cut.cls ≠ "java/lang/invoke/MethodHandle" ∧ yX10_cut.cls ≠ "java/lang/invoke/VarHandle" ∧ (parseMethodDescriptor yX10_cut.desc).map (fun d => d.parameters.length) = some 3 := by decide +kernel
theorem hd_X10_layHours : yX10_layHours.cls = RX10 ∧ yX10_layHours.cls ≠ "java/lang/invoke/MethodHandle" ∧ yX10_layHours.cls ≠ "java/lang/invoke/VarHandle" ∧ (parseMethodDescriptor yX10_layHours.desc).map (fun d => d.parameters.length) = some 2 := by decide +kernel
theorem hd_X10_meet : yX10_meet.cls = RX10 ∧ yX10_meet.cls ≠ "java/lang/invoke/MethodHandle" ∧ yX10_meet.cls ≠ "java/lang/invoke/VarHandle" ∧ (parseMethodDescriptor yX10_meet.desc).map (fun d => d.parameters.length) = some 3 := by decide +kernel
theorem hd_X10_layOrder : yX10_layOrder.cls = RX10 ∧ yX10_layOrder.cls ≠ "java/lang/invoke/MethodHandle" ∧ yX10_layOrder.cls ≠ "java/lang/invoke/VarHandle" ∧ (parseMethodDescriptor yX10_layOrder.desc).map (fun d => d.parameters.length) = some 0 := by decide +kernel
theorem hd_X10_layWays : yX10_layWays.cls = RX10 ∧ yX10_layWays.cls ≠ "java/lang/invoke/MethodHandle" ∧ yX10_layWays.cls ≠ "java/lang/invoke/VarHandle" ∧ (parseMethodDescriptor yX10_layWays.desc).map (fun d => d.parameters.length) = some 0 := by decide +kernel
theorem hd_X10_longest : yX10_longest.cls = RX10 ∧ yX10_longest.cls ≠ "java/lang/invoke/MethodHandle" ∧ yX10_longest.cls ≠ "java/lang/invoke/VarHandle" ∧ (parseMethodDescriptor yX10_longest.desc).map (fun d => d.parameters.length) = some 1 := by decide +kernel
theorem hd_X10_ways : yX10_ways.cls = RX10 ∧ yX10_ways.cls ≠ "java/lang/invoke/MethodHandle" ∧ yX10_ways.cls ≠ "java/lang/invoke/VarHandle" ∧ (parseMethodDescriptor yX10_ways.desc).map (fun d => d.parameters.length) = some 1 := by decide +kernel
theorem hd_X10_firstBlocked : yX10_firstBlocked.cls = RX10 ∧ yX10_firstBlocked.cls ≠ "java/lang/invoke/MethodHandle" ∧ yX10_firstBlocked.cls ≠ "java/lang/invoke/VarHandle" ∧ (parseMethodDescriptor yX10_firstBlocked.desc).map (fun d => d.parameters.length) = some 0 := by decide +kernel
theorem hd_X10_share : yX10_share.cls = RX10 ∧ yX10_share.cls ≠ "java/lang/invoke/MethodHandle" ∧ yX10_share.cls ≠ "java/lang/invoke/VarHandle" ∧ (parseMethodDescriptor yX10_share.desc).map (fun d => d.parameters.length) = some 1 := by decide +kernel
theorem hd_X10_frost : yX10_frost.cls = RX10 ∧ yX10_frost.cls ≠ "java/lang/invoke/MethodHandle" ∧ yX10_frost.cls ≠ "java/lang/invoke/VarHandle" ∧ (parseMethodDescriptor yX10_frost.desc).map (fun d => d.parameters.length) = some 2 := by decide +kernel
theorem hd_X10_drip : yX10_drip.cls = RX10 ∧ yX10_drip.cls ≠ "java/lang/invoke/MethodHandle" ∧ yX10_drip.cls ≠ "java/lang/invoke/VarHandle" ∧ (parseMethodDescriptor yX10_drip.desc).map (fun d => d.parameters.length) = some 3 := by decide +kernel
theorem hd_X10_crackedBy : yX10_crackedBy.cls = RX10 ∧ yX10_crackedBy.cls ≠ "java/lang/invoke/MethodHandle" ∧ yX10_crackedBy.cls ≠ "java/lang/invoke/VarHandle" ∧ (parseMethodDescriptor yX10_crackedBy.desc).map (fun d => d.parameters.length) = some 1 := by decide +kernel
theorem hd_X10_cracked : yX10_cracked.cls = RX10 ∧ yX10_cracked.cls ≠ "java/lang/invoke/MethodHandle" ∧ yX10_cracked.cls ≠ "java/lang/invoke/VarHandle" ∧ (parseMethodDescriptor yX10_cracked.desc).map (fun d => d.parameters.length) = some 1 := by decide +kernel
theorem hd_X10_listen : yX10_listen.cls = RX10 ∧ yX10_listen.cls ≠ "java/lang/invoke/MethodHandle" ∧ yX10_listen.cls ≠ "java/lang/invoke/VarHandle" ∧ (parseMethodDescriptor yX10_listen.desc).map (fun d => d.parameters.length) = some 1 := by decide +kernel
theorem hd_X10_write : yX10_write.cls = RX10 ∧ yX10_write.cls ≠ "java/lang/invoke/MethodHandle" ∧ yX10_write.cls ≠ "java/lang/invoke/VarHandle" ∧ (parseMethodDescriptor yX10_write.desc).map (fun d => d.parameters.length) = some 2 := by decide +kernel
theorem hd_X10_tear : yX10_tear.cls = RX10 ∧ yX10_tear.cls ≠ "java/lang/invoke/MethodHandle" ∧ yX10_tear.cls ≠ "java/lang/invoke/VarHandle" ∧ (parseMethodDescriptor yX10_tear.desc).map (fun d => d.parameters.length) = some 0 := by decide +kernel
theorem hd_X10_judge : yX10_judge.cls = RX10 ∧ yX10_judge.cls ≠ "java/lang/invoke/MethodHandle" ∧ yX10_judge.cls ≠ "java/lang/invoke/VarHandle" ∧ (parseMethodDescriptor yX10_judge.desc).map (fun d => d.parameters.length) = some 0 := by decide +kernel
theorem hd_X10_seed : yX10_seed.cls = RX10 ∧ yX10_seed.cls ≠ "java/lang/invoke/MethodHandle" ∧ yX10_seed.cls ≠ "java/lang/invoke/VarHandle" ∧ (parseMethodDescriptor yX10_seed.desc).map (fun d => d.parameters.length) = some 1 := by decide +kernel
theorem hd_X10_keep : yX10_keep.cls = RX10 ∧ yX10_keep.cls ≠ "java/lang/invoke/MethodHandle" ∧ yX10_keep.cls ≠ "java/lang/invoke/VarHandle" ∧ (parseMethodDescriptor yX10_keep.desc).map (fun d => d.parameters.length) = some 1 := by decide +kernel
theorem hd_X10_goBack : yX10_goBack.cls = RX10 ∧ yX10_goBack.cls ≠ "java/lang/invoke/MethodHandle" ∧ yX10_goBack.cls ≠ "java/lang/invoke/VarHandle" ∧ (parseMethodDescriptor yX10_goBack.desc).map (fun d => d.parameters.length) = some 1 := by decide +kernel
theorem hd_J6_numberOfTrailingZeros_0f7a4 : yJ6_numberOfTrailingZeros_0f7a4.cls ≠ "java/lang/invoke/MethodHandle" ∧ yJ6_numberOfTrailingZeros_0f7a4.cls ≠ "java/lang/invoke/VarHandle" ∧ (parseMethodDescriptor yJ6_numberOfTrailingZeros_0f7a4.desc).map (fun d => d.parameters.length) = some 1 := by decide +kernel
theorem hd_J6_bitCount_0f7a4 : yJ6_bitCount_0f7a4.cls ≠ "java/lang/invoke/MethodHandle" ∧ yJ6_bitCount_0f7a4.cls ≠ "java/lang/invoke/VarHandle" ∧ (parseMethodDescriptor yJ6_bitCount_0f7a4.desc).map (fun d => d.parameters.length) = some 1 := by decide +kernel
theorem hd_J13_numberOfTrailingZeros_95d88 : yJ13_numberOfTrailingZeros_95d88.cls ≠ "java/lang/invoke/MethodHandle" ∧ yJ13_numberOfTrailingZeros_95d88.cls ≠ "java/lang/invoke/VarHandle" ∧ (parseMethodDescriptor yJ13_numberOfTrailingZeros_95d88.desc).map (fun d => d.parameters.length) = some 1 := by decide +kernel
theorem hd_J9_max_7cf53 : yJ9_max_7cf53.cls ≠ "java/lang/invoke/MethodHandle" ∧ yJ9_max_7cf53.cls ≠ "java/lang/invoke/VarHandle" ∧ (parseMethodDescriptor yJ9_max_7cf53.desc).map (fun d => d.parameters.length) = some 2 := by decide +kernel
theorem hd_J9_min_7cf53 : yJ9_min_7cf53.cls ≠ "java/lang/invoke/MethodHandle" ∧ yJ9_min_7cf53.cls ≠ "java/lang/invoke/VarHandle" ∧ (parseMethodDescriptor yJ9_min_7cf53.desc).map (fun d => d.parameters.length) = some 2 := by decide +kernel
theorem hd_J7_fill_d0a16 : yJ7_fill_d0a16.cls ≠ "java/lang/invoke/MethodHandle" ∧ yJ7_fill_d0a16.cls ≠ "java/lang/invoke/VarHandle" ∧ (parseMethodDescriptor yJ7_fill_d0a16.desc).map (fun d => d.parameters.length) = some 2 := by decide +kernel
theorem hd_J7_fill_53178 : yJ7_fill_53178.cls ≠ "java/lang/invoke/MethodHandle" ∧ yJ7_fill_53178.cls ≠ "java/lang/invoke/VarHandle" ∧ (parseMethodDescriptor yJ7_fill_53178.desc).map (fun d => d.parameters.length) = some 2 := by decide +kernel
