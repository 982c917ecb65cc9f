/-! ways: every channel once, from high to low -/
def maxN (f : Nat → Nat) : Nat → Nat
  | 0 => 0
  | k + 1 => max (maxN f k) (f k)
theorem sumN_congr {f g : Nat → Nat} : ∀ n, (∀ j, j < n → f j = g j) → sumN f n = sumN g n
  | 0, _ => rfl
  | n + 1, h => by
    show sumN f n + f n = sumN g n + g n
    rw [sumN_congr n (fun j hj => h j (by omega)), h n (by omega)]
theorem maxN_congr {f g : Nat → Nat} : ∀ n, (∀ j, j < n → f j = g j) → maxN f n = maxN g n
  | 0, _ => rfl
  | n + 1, h => by
    show max (maxN f n) (f n) = max (maxN g n) (g n)
    rw [maxN_congr n (fun j hj => h j (by omega)), h n (by omega)]
theorem sumN_pt {f g : Nat → Nat} {c : Nat} (h0 : f c = 0) : ∀ n, c < n → (∀ j, j < n → ¬ j = c → g j = f j) → sumN g n = sumN f n + g c
  | 0, h, _ => absurd h (Nat.not_lt_zero c)
  | n + 1, h, hj => by
    show sumN g n + g n = sumN f n + f n + g c
    by_cases hc : c = n
    · subst hc
      rw [sumN_congr (f := g) (g := f) c (fun j hj2 => hj j (by omega) (by omega)), h0]
      omega
    · rw [sumN_pt h0 n (by omega) (fun j hj2 => hj j (by omega)), hj n (by omega) (by omega)]
      omega
theorem maxN_pt {f g : Nat → Nat} {c : Nat} (h0 : f c = 0) : ∀ n, c < n → (∀ j, j < n → ¬ j = c → g j = f j) → maxN g n = max (maxN f n) (g c)
  | 0, h, _ => absurd h (Nat.not_lt_zero c)
  | n + 1, h, hj => by
    show max (maxN g n) (g n) = max (max (maxN f n) (f n)) (g c)
    by_cases hc : c = n
    · subst hc
      rw [maxN_congr (f := g) (g := f) c (fun j hj2 => hj j (by omega) (by omega)), h0]
      omega
    · rw [maxN_pt h0 n (by omega) (fun j hj2 => hj j (by omega)), hj n (by omega) (by omega)]
      omega
def cnt (dn : Nat → Bool) (ch : Nat) : Nat := sumN (fun c => if dn c = true then 1 else 0) ch
theorem cnt_le (dn : Nat → Bool) : ∀ ch, cnt dn ch ≤ ch
  | 0 => Nat.le_refl 0
  | n + 1 => by
    have := cnt_le dn n
    show cnt dn n + (if dn n = true then 1 else 0) ≤ n + 1
    split <;> omega
def tw (D : Nat → Nat → Nat) (op dn : Nat → Bool) (w : Nat → Nat) (p c : Nat) : Nat := if dn c = true ∧ op c = true ∧ D 3 c = p then w (D 2 c) else 0
def tl (D : Nat → Nat → Nat) (op dn : Nat → Bool) (l : Nat → Nat) (p c : Nat) : Nat := if dn c = true ∧ op c = true ∧ D 3 c = p ∧ 0 < l (D 2 c) then l (D 2 c) + D 4 c else 0
def b0 (p : Nat) : Nat := if p = 0 then 1 else 0
/-- the channels of dn are behind us -/
def WI (D : Nat → Nat → Nat) (op dn : Nat → Bool) (ch : Nat) (l w : Nat → Nat) : Prop :=
  (∀ p, w p = b0 p + sumN (tw D op dn w p) ch) ∧ (∀ p, l p = max (b0 p) (maxN (tl D op dn l p) ch)) ∧ (∀ p, l p = 0 ↔ w p = 0) ∧ (∀ p, w p ≤ 2 ^ cnt dn ch ∧ l p ≤ 1 + 9 * cnt dn ch)
def mk1 (dn : Nat → Bool) (c : Nat) : Nat → Bool := fun x => dn x || decide (x = c)
theorem mk1_c (dn : Nat → Bool) (c : Nat) : mk1 dn c c = true := by unfold mk1; rw [decide_eq_true rfl, Bool.or_true]
theorem mk1_n {dn : Nat → Bool} {c x : Nat} (h : ¬ x = c) : mk1 dn c x = dn x := by unfold mk1; rw [decide_eq_false h, Bool.or_false]
theorem cnt_mk {dn : Nat → Bool} {c ch : Nat} (hc : c < ch) (hd : dn c = false) : cnt (mk1 dn c) ch = cnt dn ch + 1 := by
  unfold cnt
  rw [sumN_pt (f := fun c => if dn c = true then 1 else 0) (g := fun x => if mk1 dn c x = true then 1 else 0) (c := c) (by simp [hd]) ch hc (fun j _ hn => by simp only [mk1_n hn])]
  simp only [mk1_c, if_true]
def up1 (f : Nat → Nat) (t x : Nat) : Nat → Nat := fun p => if p = t then x else f p
theorem up1_s (f : Nat → Nat) (t x : Nat) : up1 f t x t = x := if_pos rfl
theorem up1_n {f : Nat → Nat} {t x p : Nat} (h : ¬ p = t) : up1 f t x p = f p := if_neg h
theorem WI.skip {D : Nat → Nat → Nat} {op dn : Nat → Bool} {ch c : Nat} {l w : Nat → Nat} (g : WI D op dn ch l w) (hc : c < ch) (hd : dn c = false) (hs : op c = false ∨ l (D 2 c) = 0) : WI D op (mk1 dn c) ch l w := by
  obtain ⟨g1, g2, g3, g4⟩ := g
  have hw : op c = true → w (D 2 c) = 0 := fun h => by
    rcases hs with hs | hs
    · rw [hs] at h; exact absurd h (by decide)
    · exact (g3 _).mp hs
  refine ⟨fun p => ?_, fun p => ?_, g3, fun p => ?_⟩
  · rw [sumN_pt (f := tw D op dn w p) (g := tw D op (mk1 dn c) w p) (c := c) (by unfold tw; rw [if_neg]; intro h; rw [hd] at h; exact absurd h.1 (by decide)) ch hc (fun j _ hn => by unfold tw; rw [mk1_n hn])]
    have : tw D op (mk1 dn c) w p c = 0 := by
      unfold tw
      by_cases h : mk1 dn c c = true ∧ op c = true ∧ D 3 c = p
      · rw [if_pos h]; exact hw h.2.1
      · rw [if_neg h]
    rw [this]
    exact g1 p
  · rw [maxN_pt (f := tl D op dn l p) (g := tl D op (mk1 dn c) l p) (c := c) (by unfold tl; rw [if_neg]; intro h; rw [hd] at h; exact absurd h.1 (by decide)) ch hc (fun j _ hn => by unfold tl; rw [mk1_n hn])]
    have : tl D op (mk1 dn c) l p c = 0 := by
      unfold tl
      rw [if_neg]
      intro h
      rcases hs with hs | hs
      · rw [hs] at h; exact absurd h.2.1 (by decide)
      · omega
    rw [this, Nat.max_zero]
    exact g2 p
  · have := g4 p
    rw [cnt_mk hc hd]
    exact ⟨Nat.le_trans this.1 (Nat.pow_le_pow_right (by omega) (by omega)), by omega⟩
theorem WI.step {D : Nat → Nat → Nat} {op dn : Nat → Bool} {ch c : Nat} {l w : Nat → Nat} (g : WI D op dn ch l w) (hc : c < ch) (hd : dn c = false) (hop : op c = true) (hl : 0 < l (D 2 c)) (h4 : D 4 c ≤ 9) (hlv : D 1 (D 3 c) < D 1 (D 2 c)) (hord : ∀ x, dn x = true → D 1 (D 2 c) ≤ D 1 (D 2 x)) : WI D op (mk1 dn c) ch (up1 l (D 3 c) (max (l (D 3 c)) (l (D 2 c) + D 4 c))) (up1 w (D 3 c) (w (D 3 c) + w (D 2 c))) := by
  obtain ⟨g1, g2, g3, g4⟩ := g
  have hne : ∀ x, mk1 dn c x = true → ¬ D 2 x = D 3 c := by
    intro x hx h
    by_cases hxc : x = c
    · subst hxc; rw [h] at hlv; exact absurd hlv (Nat.lt_irrefl _)
    · rw [mk1_n hxc] at hx
      have := hord x hx
      rw [h] at this
      omega
  have hcs := hne c (mk1_c dn c)
  have hwp : 0 < w (D 2 c) := Nat.pos_of_ne_zero (fun h => by have := (g3 _).mpr h; omega)
  refine ⟨fun p => ?_, fun p => ?_, fun p => ?_, fun p => ?_⟩
  · rw [sumN_pt (f := tw D op dn w p) (g := tw D op (mk1 dn c) (up1 w (D 3 c) (w (D 3 c) + w (D 2 c))) p) (c := c) (by unfold tw; rw [if_neg]; intro h; rw [hd] at h; exact absurd h.1 (by decide)) ch hc (fun j _ hn => by
      unfold tw
      by_cases h : mk1 dn c j = true ∧ op j = true ∧ D 3 j = p
      · rw [if_pos h, up1_n (hne j h.1)]
        rw [mk1_n hn] at h
        rw [if_pos h]
      · rw [if_neg h]
        rw [mk1_n hn] at h
        rw [if_neg h])]
    by_cases hp : p = D 3 c
    · subst hp
      have : tw D op (mk1 dn c) (up1 w (D 3 c) (w (D 3 c) + w (D 2 c))) (D 3 c) c = w (D 2 c) := by
        unfold tw
        rw [if_pos ⟨mk1_c dn c, hop, rfl⟩, up1_n hcs]
      rw [this, up1_s]
      have := g1 (D 3 c)
      omega
    · have : tw D op (mk1 dn c) (up1 w (D 3 c) (w (D 3 c) + w (D 2 c))) p c = 0 := by
        unfold tw
        rw [if_neg (fun h => hp h.2.2.symm)]
      rw [this, up1_n hp]
      exact g1 p
  · rw [maxN_pt (f := tl D op dn l p) (g := tl D op (mk1 dn c) (up1 l (D 3 c) (max (l (D 3 c)) (l (D 2 c) + D 4 c))) p) (c := c) (by unfold tl; rw [if_neg]; intro h; rw [hd] at h; exact absurd h.1 (by decide)) ch hc (fun j _ hn => by
      unfold tl
      by_cases h : mk1 dn c j = true
      · rw [up1_n (hne j h), mk1_n hn]
      · have h' := h
        rw [mk1_n hn] at h'
        rw [if_neg (fun k => h k.1), if_neg (fun k => h' k.1)])]
    by_cases hp : p = D 3 c
    · subst hp
      have : tl D op (mk1 dn c) (up1 l (D 3 c) (max (l (D 3 c)) (l (D 2 c) + D 4 c))) (D 3 c) c = l (D 2 c) + D 4 c := by
        unfold tl
        rw [up1_n hcs, if_pos ⟨mk1_c dn c, hop, rfl, hl⟩]
      rw [this, up1_s]
      have := g2 (D 3 c)
      omega
    · have : tl D op (mk1 dn c) (up1 l (D 3 c) (max (l (D 3 c)) (l (D 2 c) + D 4 c))) p c = 0 := by
        unfold tl
        rw [if_neg (fun h => hp h.2.2.1.symm)]
      rw [this, up1_n hp, Nat.max_zero]
      exact g2 p
  · by_cases hp : p = D 3 c
    · subst hp
      rw [up1_s, up1_s]
      omega
    · rw [up1_n hp, up1_n hp]
      exact g3 p
  · rw [cnt_mk hc hd, Nat.pow_succ]
    have b1 := g4 p
    have b2 := g4 (D 3 c)
    have b3 := g4 (D 2 c)
    by_cases hp : p = D 3 c
    · subst hp
      rw [up1_s, up1_s]
      omega
    · rw [up1_n hp, up1_n hp]
      omega
/-- when all are behind us, there is but one answer -/
theorem WI.one {D : Nat → Nat → Nat} {op dn dn' : Nat → Bool} {ch pl : Nat} {l w l' w' : Nat → Nat} (g : WI D op dn ch l w) (g' : WI D op dn' ch l' w') (h1 : ∀ c, c < ch → dn c = true) (h2 : ∀ c, c < ch → dn' c = true) (hc : ∀ c, c < ch → D 2 c < pl ∧ D 1 (D 3 c) < D 1 (D 2 c)) (hlv : ∀ p, p < pl → D 1 p < 100) : ∀ m p, p < pl → 100 ≤ D 1 p + m → l p = l' p ∧ w p = w' p := by
  intro m
  induction m with
  | zero => intro p hp h; have := hlv p hp; omega
  | succ m ih =>
    intro p hp h
    have key : ∀ c, c < ch → D 3 c = p → l (D 2 c) = l' (D 2 c) ∧ w (D 2 c) = w' (D 2 c) := fun c hcc h3 => by
      obtain ⟨k1, k2⟩ := hc c hcc
      refine ih _ k1 ?_
      rw [h3] at k2
      omega
    refine ⟨?_, ?_⟩
    · rw [g.2.1 p, g'.2.1 p, maxN_congr (f := tl D op dn l p) (g := tl D op dn' l' p) ch (fun c hcc => ?_)]
      unfold tl
      rw [h1 c hcc, h2 c hcc]
      by_cases h3 : D 3 c = p
      · rw [(key c hcc h3).1]
      · rw [if_neg (fun k => h3 k.2.2.1), if_neg (fun k => h3 k.2.2.1)]
    · rw [g.1 p, g'.1 p, sumN_congr (f := tw D op dn w p) (g := tw D op dn' w' p) ch (fun c hcc => ?_)]
      unfold tw
      rw [h1 c hcc, h2 c hcc]
      by_cases h3 : D 3 c = p
      · rw [(key c hcc h3).2]
      · rw [if_neg (fun k => h3 k.2.2), if_neg (fun k => h3 k.2.2)]
theorem sumN_zero : ∀ n, ∀ f : Nat → Nat, (∀ j, f j = 0) → sumN f n = 0
  | 0, _, _ => rfl
  | n + 1, f, h => by show sumN f n + f n = 0; rw [sumN_zero n f h, h]
theorem maxN_zero : ∀ n, ∀ f : Nat → Nat, (∀ j, f j = 0) → maxN f n = 0
  | 0, _, _ => rfl
  | n + 1, f, h => by show max (maxN f n) (f n) = 0; rw [maxN_zero n f h, h]; rfl
theorem WI.zero (D : Nat → Nat → Nat) (op : Nat → Bool) (ch : Nat) : WI D op (fun _ => false) ch b0 b0 := by
  have hw : ∀ p, sumN (tw D op (fun _ => false) b0 p) ch = 0 := fun p => sumN_zero ch _ (fun j => by unfold tw; rw [if_neg (fun h => absurd h.1 Bool.false_ne_true)])
  have hl : ∀ p, maxN (tl D op (fun _ => false) b0 p) ch = 0 := fun p => maxN_zero ch _ (fun j => by unfold tl; rw [if_neg (fun h => absurd h.1 Bool.false_ne_true)])
  refine ⟨fun p => by rw [hw, Nat.add_zero], fun p => by rw [hl, Nat.max_zero], fun p => Iff.rfl, fun p => ?_⟩
  have : b0 p ≤ 1 := by unfold b0; split <;> omega
  exact ⟨Nat.le_trans this (Nat.one_le_two_pow), by omega⟩
