/-! what the class's state and the reference's have to do with each other -/
/-- a flow, and the reference's row of 174 that means the same: pl places, at most hb hours -/
def FR (pl hb : Nat) (F : St) (A : Nat → Int32) : Prop :=
  (∃ h, h ≤ hb ∧ F 0 0 = nI h ∧ A 173 = nI h ∧ ∀ p k, p < 8 → k < 10 → ∃ z, z < 256 ∧ A (10 * p + k) = nI z ∧ F 6 (10 * p + (h + k) % 10) = nI z ∧ (pl ≤ p → z = 0)) ∧
  (∃ z, z < 1024 ∧ F 1 0 = nI z ∧ A 172 = nI z) ∧
  (∀ c, c < 10 → F 2 c = A (152 + c)) ∧
  (∀ c, c < 10 → F 3 c = A (162 + c) ∧ (A (162 + c) = -1 ∨ ∃ q, q < pl ∧ A (162 + c) = nI q)) ∧
  (∀ p, p < 8 → ∃ z, z < 256 ∧ F 4 p = nI z ∧ A (80 + p) = nI z ∧ ∀ t, t < 8 → F 5 (8 * p + t) = A (88 + 8 * p + t) ∧ (z.testBit t = true ↔ ¬ A (88 + 8 * p + t) = -1))
/-- the plan: D 0 kinds, D 1 levels, D 2 from, D 3 to, D 4 hours, D 5 the falling order -/
def PR (pl ch : Nat) (D : Nat → Nat → Nat) (P : St) (m15 m16 m17 : Int32) (m18 m19 : Nat → Int32) : Prop :=
  pl ≤ 8 ∧ ch ≤ 10 ∧ P 0 0 = m15 ∧ P 1 0 = nI pl ∧ m16 = nI pl ∧ P 2 0 = nI ch ∧ m17 = nI ch ∧
  (∀ i, i < pl → D 0 i < 4 ∧ D 1 i < 100 ∧ P 3 i = nI (D 0 i) ∧ m18 (2 * i) = nI (D 0 i) ∧ P 4 i = nI (D 1 i) ∧ m18 (2 * i + 1) = nI (D 1 i)) ∧
  (∀ j, j < ch → D 2 j < pl ∧ D 3 j < pl ∧ 1 ≤ D 4 j ∧ D 4 j ≤ 9 ∧ D 1 (D 3 j) < D 1 (D 2 j) ∧ P 5 j = nI (D 2 j) ∧ m19 (3 * j) = nI (D 2 j) ∧ P 6 j = nI (D 3 j) ∧ m19 (3 * j + 1) = nI (D 3 j) ∧ P 7 j = nI (D 4 j) ∧ m19 (3 * j + 2) = nI (D 4 j)) ∧
  (∀ i, i < ch → D 5 i < ch ∧ P 8 i = nI (D 5 i)) ∧ (∀ i j, i < j → j < ch → D 1 (D 2 (D 5 j)) ≤ D 1 (D 2 (D 5 i)) ∧ ¬ D 5 i = D 5 j) ∧ (∀ c, c < ch → ∃ i, i < ch ∧ D 5 i = c)
def RSd (a b : Int32) : Prop := ∃ sd, sd < 2 ^ 31 ∧ a = nI sd ∧ b = nI sd
def RTx (n : Nat) (cl ml : Int32) (ca ma : Nat → Int32) : Prop := ∃ len, len ≤ n ∧ cl = nI len ∧ ml = nI len ∧ ∀ i, i < len → ∃ z, z < 256 ∧ ca i = nI z ∧ ma i = nI z
def RPa (pl hb : Nat) (b0 b1 m23 : Int32) (RF : Nat → St) (m22 : Nat → Int32) : Prop := ∃ cnt nx, cnt ≤ 20 ∧ nx < 20 ∧ b0 = nI cnt ∧ b1 = nI nx ∧ m23 = nI cnt ∧ ∀ i, i < cnt → FR pl hb (RF ((nx + 20 - cnt + i) % 20)) (fun j => m22 (174 * i + j))
def RIm1 (pl hb i : Nat) (k s : Int32) (F : St) (m24 m25 m26 : Nat → Int32) : Prop := (k = 0 ∧ m26 i = 0) ∨ (k = 1 ∧ m26 i = 1 ∧ RSd s (m25 i) ∧ FR pl hb F (fun j => m24 (174 * i + j)))
def RDr (pl : Nat) (c0 : Int32) (c2 c3 c4 : Nat → Int32) (m28 : Int32) (m29 : Nat → Int32) : Prop := ∃ d, d ≤ 6 ∧ c0 = nI d ∧ m28 = nI d ∧ ∀ i, i < d → ∃ p t h, p < pl ∧ t < 8 ∧ (h ≤ 60 ∨ h = 99) ∧ c2 i = nI p ∧ m29 (3 * i) = nI p ∧ c3 i = nI t ∧ m29 (3 * i + 1) = nI t ∧ c4 i = nI h ∧ m29 (3 * i + 2) = nI h
def RBk (pl : Nat) (c1 : Int32) (c5 c6 : Nat → Int32) (m30 : Int32) (m31 : Nat → Int32) : Prop := ∃ d, d ≤ 15 ∧ c1 = nI d ∧ m30 = nI d ∧ ∀ i, i < d → ∃ p z, p < pl ∧ z < 256 ∧ c5 i = nI p ∧ m31 (2 * i) = nI p ∧ c6 i = nI z ∧ m31 (2 * i + 1) = nI z
/-- behind n calls -/
def Rel (n : Nat) (C RF : Nat → St) (M : St) : Prop :=
  n ≤ 64 ∧ C 1 3 0 = M 7 0 ∧ RSd (C 0 10 0) (M 27 0) ∧ RTx n (C 1 1 0) (M 0 0) (C 1 0) (M 1) ∧
  ∃ (pl ch : Nat) (D : Nat → Nat → Nat), PR pl ch D (C 2) (M 15 0) (M 16 0) (M 17 0) (M 18) (M 19) ∧ FR pl (60 * n) (C 4) (M 20) ∧ RPa pl (60 * n) (C 6 0 0) (C 6 1 0) (M 23 0) RF (M 22) ∧
    RIm1 pl (60 * n) 0 (C 12 0 0) (C 12 1 0) (C 14) (M 24) (M 25) (M 26) ∧ RIm1 pl (60 * n) 1 (C 13 0 0) (C 13 1 0) (C 15) (M 24) (M 25) (M 26) ∧
    RDr pl (C 7 0 0) (C 7 2) (C 7 3) (C 7 4) (M 28 0) (M 29) ∧ RBk pl (C 7 1 0) (C 7 5) (C 7 6) (M 30 0) (M 31)
theorem FR.mono {pl hb hb' : Nat} {F : St} {A : Nat → Int32} (h : FR pl hb F A) (hh : hb ≤ hb') : FR pl hb' F A := by
  obtain ⟨⟨x, h1, h2⟩, h3⟩ := h
  exact ⟨⟨x, by omega, h2⟩, h3⟩
theorem RPa.mono {pl hb hb' : Nat} {b0 b1 m23 : Int32} {RF : Nat → St} {m22 : Nat → Int32} (h : RPa pl hb b0 b1 m23 RF m22) (hh : hb ≤ hb') : RPa pl hb' b0 b1 m23 RF m22 := by
  obtain ⟨cnt, nx, h1, h2, h3, h4, h5, h6⟩ := h
  exact ⟨cnt, nx, h1, h2, h3, h4, h5, fun i hi => (h6 i hi).mono hh⟩
theorem RIm1.mono {pl hb hb' i : Nat} {k s : Int32} {F : St} {m24 m25 m26 : Nat → Int32} (h : RIm1 pl hb i k s F m24 m25 m26) (hh : hb ≤ hb') : RIm1 pl hb' i k s F m24 m25 m26 := by
  rcases h with h | ⟨h1, h2, h3, h4⟩
  · exact Or.inl h
  · exact Or.inr ⟨h1, h2, h3, h4.mono hh⟩
theorem RTx.mono {n n' : Nat} {cl ml : Int32} {ca ma : Nat → Int32} (h : RTx n cl ml ca ma) (hh : n ≤ n') : RTx n' cl ml ca ma := by
  obtain ⟨len, h1, h2⟩ := h
  exact ⟨len, by omega, h2⟩
theorem Rel_n {n : Nat} {C RF : Nat → St} {M : St} (h : Rel n C RF M) : n ≤ 64 := h.1
theorem Rel_step {n : Nat} (hn : n < 64) {C RF : Nat → St} {M : St} (h : Rel n C RF M) : Rel (n + 1) C RF M := by
  obtain ⟨h1, h2, h3, h4, pl, ch, D, h5, h6, h7, h8, h9, h10, h11⟩ := h
  exact ⟨by omega, h2, h3, h4.mono (by omega), pl, ch, D, h5, h6.mono (by omega), h7.mono (by omega), h8.mono (by omega), h9.mono (by omega), h10, h11⟩
/-- the ring's place that the next push takes, and the one that a pop gives back -/
def kr (C : Nat → St) : Nat := (C 6 1 0).toNatClampNeg
def kp (C : Nat → St) : Nat := (((C 6 1 0 + (20 : Int32)) - (1 : Int32)) - ((C 6 1 0 + (20 : Int32)) - (1 : Int32)) / (20 : Int32) * (20 : Int32)).toNatClampNeg
theorem kp_eq {nx : Nat} (h : nx < 20) : ((nI nx + (20 : Int32)) - (1 : Int32)) - ((nI nx + (20 : Int32)) - (1 : Int32)) / (20 : Int32) * (20 : Int32) = nI ((nx + 19) % 20) := by
  have e1 : (nI nx + (20 : Int32)) - (1 : Int32) = nI (nx + 19) := by
    have : nI nx + nI 20 - nI 1 = nI (nx + 19) := by rw [nI_add, pk_sub (by omega)]; rfl
    exact this
  rw [e1]
  exact pk_rem (a := nx + 19) (d := 20) (by omega) (by omega) (by omega)
theorem Rel_kr {n : Nat} {C RF : Nat → St} {M : St} (h : Rel n C RF M) : kr C < 20 := by
  obtain ⟨h1, h2, h3, h4, pl, ch, D, h5, h6, ⟨cnt, nx, a1, a2, a3, a4, a5⟩, h8⟩ := h
  unfold kr
  rw [a4, nI_clamp (by omega)]
  exact a2
theorem Rel_kp {n : Nat} {C RF : Nat → St} {M : St} (h : Rel n C RF M) : kp C < 20 := by
  obtain ⟨h1, h2, h3, h4, pl, ch, D, h5, h6, ⟨cnt, nx, a1, a2, a3, a4, a5⟩, h8⟩ := h
  unfold kp
  rw [a4, kp_eq a2, nI_clamp (by omega)]
  omega
