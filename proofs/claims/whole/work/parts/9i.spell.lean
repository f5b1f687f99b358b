/-! repairs: the first word, spelt over points -/
theorem Vp_end {q m l p t : Nat} {u : List Nat} {N : Nat → Nat → Int32} {s : Nat → Nat} (h : 14 * m ≤ p) : Vp q N s m l p t u ↔ t = 0 ∧ u = [] := by
  unfold Vp VT
  rw [show m - p / 14 = 0 by omega]
  exact Iff.rfl
theorem Vp_u {q m l p t : Nat} {u : List Nat} {N : Nat → Nat → Int32} {s : Nat → Nat} (h : p < 14 * m) : Vp q N s m l p t u ↔ Vi (Tx q N) (fun l st w t u => ∃ v t' u', u = v :: u' ∧ Tx q N t v t' ∧ prs s (p / 14) st w v ∧ VT q N s m (m - (p / 14 + 1)) l st w t' u') l (p % 14 / 2) (p % 2) t u := by
  unfold Vp VT
  have e : m - p / 14 = (m - (p / 14 + 1)) + 1 := by omega
  have e2 : m - (m - (p / 14 + 1) + 1) = p / 14 := by omega
  rw [e]
  show Vi (Tx q N) (fun l st w t u => ∃ v t' u', u = v :: u' ∧ Tx q N t v t' ∧ prs s (m - (m - (p / 14 + 1) + 1)) st w v ∧ Vn (Tx q N) (fun t => t = 0) (prs s) m (m - (p / 14 + 1)) l st w t' u') l (p % 14 / 2) (p % 2) t u ↔ _
  rw [e2]
def Cp (q : Nat) (N : Nat → Nat → Int32) (s : Nat → Nat) (m l p t : Nat) (u : List Nat) : Prop := ∃ v t' u', u = v :: u' ∧ Tx q N t v t' ∧ (v = mA s p ∨ v = mB s p) ∧ Vp q N s m l (p + 14) t' u'
theorem Cp_iff {q m l p t : Nat} {u : List Nat} {N : Nat → Nat → Int32} {s : Nat → Nat} : (∃ v t' u', u = v :: u' ∧ Tx q N t v t' ∧ prs s (p / 14) (p % 14 / 2) (p % 2) v ∧ VT q N s m (m - (p / 14 + 1)) l (p % 14 / 2) (p % 2) t' u') ↔ Cp q N s m l p t u := by
  unfold Cp Vp
  rw [show (p + 14) / 14 = p / 14 + 1 by omega, show (p + 14) % 14 = p % 14 by omega, show (p + 14) % 2 = p % 2 by omega]
  exact exists_congr (fun v => exists_congr (fun t' => exists_congr (fun u' => by rw [prs_p])))
theorem Vp_0 {q m p t : Nat} {u : List Nat} {N : Nat → Nat → Int32} {s : Nat → Nat} (h : p < 14 * m) : Vp q N s m 0 p t u ↔ Cp q N s m 0 p t u := by
  rw [Vp_u h]
  exact Cp_iff
theorem Vi_s (E : Nat → Nat → Nat → Prop) (B : Nat → Nat → Nat → Nat → List Nat → Prop) (l st w g : Nat) (u : List Nat) : Vi E B (l + 1) st w g u ↔ (B (l + 1) st w g u ∨ Vi E B l ((st + 1) % 28) w g u ∨ Vi E B l st (1 - w) g u ∨ ∃ v g' u', u = v :: u' ∧ E g v g' ∧ Vi E B l st w g' u') := Iff.rfl
theorem Vp_s {q m l p t : Nat} {u : List Nat} {N : Nat → Nat → Int32} {s : Nat → Nat} (h : p < 14 * m) (hl : p % 14 / 2 < 6) : Vp q N s m (l + 1) p t u ↔ Cp q N s m (l + 1) p t u ∨ Vp q N s m l (p + 2) t u ∨ Vp q N s m l (flp p) t u ∨ ∃ v t' u', u = v :: u' ∧ Tx q N t v t' ∧ Vp q N s m l p t' u' := by
  have f := flp_b p
  rw [Vp_u h, Vi_s]
  refine or_congr Cp_iff (or_congr ?_ (or_congr ?_ (exists_congr (fun v => exists_congr (fun t' => exists_congr (fun u' => and_congr Iff.rfl (and_congr Iff.rfl (Vp_u h).symm)))))))
  · rw [Vp_u (show p + 2 < 14 * m by omega), show (p + 2) / 14 = p / 14 by omega, show (p + 2) % 14 / 2 = p % 14 / 2 + 1 by omega, show (p + 2) % 2 = p % 2 by omega, show (p % 14 / 2 + 1) % 28 = p % 14 / 2 + 1 by omega]
  · rw [Vp_u (show flp p < 14 * m by unfold flp; split <;> omega), f.1, f.2.1, f.2.2]
theorem Vp_ex {q m l p t : Nat} {N : Nat → Nat → Int32} {s : Nat → Nat} : Wp q N s m l p t ↔ ∃ u, Vp q N s m l p t u := Vn_ex _ _ _ _ _
theorem Vp_le {q m l l' p t : Nat} {u : List Nat} {N : Nat → Nat → Int32} {s : Nat → Nat} (hl : l ≤ l') (h : Vp q N s m l p t u) : Vp q N s m l' p t u := mono_le (P := fun l => Vp q N s m l p t u) (fun l h => Vn_mono _ l _ _ _ _ h) hl h
theorem Wp_le {q m l l' p t : Nat} {N : Nat → Nat → Int32} {s : Nat → Nat} (hl : l ≤ l') (h : Wp q N s m l p t) : Wp q N s m l' p t := mono_le (P := fun l => Wp q N s m l p t) (fun l h => Wn_mono _ l _ _ _ h) hl h
/-- how many slips are left at a point, at least L -/
def ge (nw : Nat → Option Nat) (p L : Nat) : Prop := ∃ L', nw p = some L' ∧ L ≤ L'
/-- the points are sound -/
def nwO (q : Nat) (N : Nat → Nat → Int32) (s : Nat → Nat) (m t : Nat) (nw : Nat → Option Nat) : Prop := ∀ p L, nw p = some L → p < 14 * m + 14 ∧ p % 14 / 2 + L ≤ 6 ∧ Wp q N s m L p t
/-- the words -/
def XN (q : Nat) (N : Nat → Nat → Int32) (s : Nat → Nat) (m t : Nat) (nw : Nat → Option Nat) (u : List Nat) : Prop := ∃ p L, nw p = some L ∧ Vp q N s m L p t u
/-- steps and shifts are lost -/
def clN (q : Nat) (N : Nat → Nat → Int32) (s : Nat → Nat) (m t : Nat) (nw : Nat → Option Nat) : Prop := ∀ p L, p < 14 * m → nw p = some (L + 1) → (Wp q N s m L (p + 2) t → ge nw (p + 2) L) ∧ (Wp q N s m L (flp p) t → ge nw (flp p) L)
/-- by v to t' -/
def goP (q : Nat) (N : Nat → Nat → Int32) (s : Nat → Nat) (m v t' : Nat) (nw : Nat → Option Nat) (p : Nat) : Prop := p < 14 * m ∧ ∃ L, nw p = some L ∧ (v = mA s p ∨ v = mB s p) ∧ Wp q N s m L (p + 14) t'
def goL (q : Nat) (N : Nat → Nat → Int32) (s : Nat → Nat) (m t' : Nat) (nw : Nat → Option Nat) (p : Nat) : Prop := p < 14 * m ∧ ∃ L, nw p = some (L + 1) ∧ Wp q N s m L p t'
theorem XN_cons {q m t v : Nat} {u : List Nat} {N : Nat → Nat → Int32} {s : Nat → Nat} {nw : Nat → Option Nat} (hO : nwO q N s m t nw) (hc : clN q N s m t nw) : ∀ L p, p < 14 * m → ge nw p L → Vp q N s m L p t (v :: u) → ∃ t', Tx q N t v t' ∧ ∃ p' L', p' < 14 * m ∧ nw p' = some L' ∧ (((v = mA s p' ∨ v = mB s p') ∧ Vp q N s m L' (p' + 14) t' u) ∨ ∃ L'', L' = L'' + 1 ∧ Vp q N s m L'' p' t' u) := by
  intro L
  induction L with
  | zero =>
    rintro p hp ⟨Lp, h1, h2⟩ hV
    obtain ⟨v', t', u', e, hT, hv, h3⟩ := (Vp_0 hp).mp hV
    cases e
    exact ⟨t', hT, p, Lp, hp, h1, Or.inl ⟨hv, Vp_le h2 h3⟩⟩
  | succ L ih =>
    rintro p hp ⟨Lp, h1, h2⟩ hV
    obtain ⟨o1, o2, o3⟩ := hO p Lp h1
    obtain ⟨L2, rfl⟩ : ∃ L2, Lp = L2 + 1 := ⟨Lp - 1, by omega⟩
    obtain ⟨c1, c2⟩ := hc p L2 hp h1
    rcases (Vp_s hp (by omega)).mp hV with ⟨v', t', u', e, hT, hv, h3⟩ | h3 | h3 | ⟨v', t', u', e, hT, h3⟩
    · cases e
      exact ⟨t', hT, p, L2 + 1, hp, h1, Or.inl ⟨hv, Vp_le h2 h3⟩⟩
    · obtain ⟨L', g1, g2⟩ := c1 (Wp_le (by omega) (Vp_ex.mpr ⟨_, h3⟩))
      exact ih (p + 2) (by omega) ⟨L', g1, by omega⟩ h3
    · obtain ⟨L', g1, g2⟩ := c2 (Wp_le (by omega) (Vp_ex.mpr ⟨_, h3⟩))
      exact ih (flp p) (by unfold flp; split <;> omega) ⟨L', g1, by omega⟩ h3
    · cases e
      exact ⟨t', hT, p, L2 + 1, hp, h1, Or.inr ⟨L2, rfl, Vp_le (by omega) h3⟩⟩
theorem Tx.uniq {q t v a b : Nat} {N : Nat → Nat → Int32} (h : Tx q N t v a) (h' : Tx q N t v b) : a = b := nI_59 h.2.2.1 h'.2.2.1 (by rw [← h.2.2.2, h'.2.2.2])
/-- a word's letter is printed, or lost -/
theorem Vp_print {q m L p t v t' : Nat} {u : List Nat} {N : Nat → Nat → Int32} {s : Nat → Nat} (hp : p < 14 * m) (hT : Tx q N t v t') (hv : v = mA s p ∨ v = mB s p) (h : Vp q N s m L (p + 14) t' u) : Vp q N s m L p t (v :: u) := by
  rw [Vp_u hp]
  have hc := Cp_iff.mpr ⟨v, t', u, rfl, hT, hv, h⟩
  cases L with
  | zero => exact hc
  | succ L => exact Or.inl hc
theorem Vp_lost {q m L p t v t' : Nat} {u : List Nat} {N : Nat → Nat → Int32} {s : Nat → Nat} (hp : p < 14 * m) (hT : Tx q N t v t') (h : Vp q N s m L p t' u) : Vp q N s m (L + 1) p t (v :: u) := by
  rw [Vp_u hp]
  exact Or.inr (Or.inr (Or.inr ⟨v, t', u, rfl, hT, (Vp_u hp).mp h⟩))
theorem XN_in {q m t : Nat} {N : Nat → Nat → Int32} {s : Nat → Nat} {nw : Nat → Option Nat} (hO : nwO q N s m t nw) : XN q N s m t nw [] ↔ ∃ p L, 14 * m ≤ p ∧ nw p = some L := by
  constructor
  · rintro ⟨p, L, h1, h2⟩
    refine ⟨p, L, Classical.byContradiction (fun z => ?_), h1⟩
    have e : m - p / 14 = (m - p / 14 - 1) + 1 := by omega
    unfold Vp VT at h2
    rw [e] at h2
    exact Vn_nil _ _ _ _ h2
  · rintro ⟨p, L, h1, h2⟩
    exact ⟨p, L, h2, (Vp_end h1).mpr ⟨(Wp_end h1).mp (hO p L h2).2.2, rfl⟩⟩
/-- v comes next -/
theorem XN_next {q m t v t' : Nat} {N : Nat → Nat → Int32} {s : Nat → Nat} {nw : Nat → Option Nat} (hO : nwO q N s m t nw) (hc : clN q N s m t nw) (hT : Tx q N t v t') : (∃ u, XN q N s m t nw (v :: u)) ↔ ∃ p, goP q N s m v t' nw p ∨ goL q N s m t' nw p := by
  constructor
  · rintro ⟨u, p, L, h1, h2⟩
    have hp : p < 14 * m := Classical.byContradiction (fun z => by cases ((Vp_end (by omega)).mp h2).2)
    obtain ⟨t2, hT2, p', L', g1, g2, g3⟩ := XN_cons hO hc L p hp ⟨L, h1, Nat.le_refl _⟩ h2
    have := hT2.uniq hT
    subst this
    rcases g3 with ⟨g3, g4⟩ | ⟨L'', e, g4⟩
    · exact ⟨p', Or.inl ⟨g1, L', g2, g3, Vp_ex.mpr ⟨u, g4⟩⟩⟩
    · subst e
      exact ⟨p', Or.inr ⟨g1, L'', g2, Vp_ex.mpr ⟨u, g4⟩⟩⟩
  · rintro ⟨p, ⟨h1, L, h2, h3, h4⟩ | ⟨h1, L, h2, h4⟩⟩
    · obtain ⟨u, hu⟩ := Vp_ex.mp h4
      exact ⟨u, p, L, h2, Vp_print h1 hT h3 hu⟩
    · obtain ⟨u, hu⟩ := Vp_ex.mp h4
      exact ⟨u, p, L + 1, h2, Vp_lost h1 hT hu⟩
/-- what the next points hold -/
def tnO (q : Nat) (N : Nat → Nat → Int32) (s : Nat → Nat) (m v t' : Nat) (nw th : Nat → Option Nat) (z : Nat) : Prop := (∀ p L, th p = some L → (∃ p', p = p' + 14 ∧ p' < z ∧ nw p' = some L ∧ (v = mA s p' ∨ v = mB s p') ∧ Wp q N s m L p t') ∨ (p < z ∧ nw p = some (L + 1) ∧ Wp q N s m L p t')) ∧ (∀ p L, p < z → nw p = some L → (v = mA s p ∨ v = mB s p) → Wp q N s m L (p + 14) t' → ge th (p + 14) L) ∧ (∀ p L, p < z → nw p = some (L + 1) → Wp q N s m L p t' → ge th p L)
theorem tnO.go {q m t v t' : Nat} {N : Nat → Nat → Int32} {s : Nat → Nat} {nw th : Nat → Option Nat} (hO : nwO q N s m t nw) (hc : clN q N s m t nw) (hT : Tx q N t v t') (h : tnO q N s m v t' nw th (14 * m)) : nwO q N s m t' th ∧ ∀ u, XN q N s m t' th u ↔ XN q N s m t nw (v :: u) := by
  obtain ⟨h1, h2, h3⟩ := h
  constructor
  · intro p L e
    rcases h1 p L e with ⟨p', rfl, a1, a2, a3, a4⟩ | ⟨a1, a2, a3⟩
    · have := hO p' L a2
      exact ⟨by omega, by omega, a4⟩
    · have := hO p _ a2
      exact ⟨by omega, by omega, a3⟩
  · intro u
    constructor
    · rintro ⟨p, L, e, hV⟩
      rcases h1 p L e with ⟨p', rfl, a1, a2, a3, a4⟩ | ⟨a1, a2, a3⟩
      · exact ⟨p', L, a2, Vp_print a1 hT a3 hV⟩
      · exact ⟨p, L + 1, a2, Vp_lost a1 hT hV⟩
    · rintro ⟨p, L, e, hV⟩
      have hp : p < 14 * m := Classical.byContradiction (fun z => by cases ((Vp_end (by omega)).mp hV).2)
      obtain ⟨t2, hT2, p', L', g1, g2, g3⟩ := XN_cons hO hc L p hp ⟨L, e, Nat.le_refl _⟩ hV
      have := hT2.uniq hT
      subst this
      rcases g3 with ⟨g3, g4⟩ | ⟨L'', e, g4⟩
      · obtain ⟨Lx, x1, x2⟩ := h2 p' L' g1 g2 g3 (Vp_ex.mpr ⟨u, g4⟩)
        exact ⟨p' + 14, Lx, x1, Vp_le x2 g4⟩
      · subst e
        obtain ⟨Lx, x1, x2⟩ := h3 p' L'' g1 g2 (Vp_ex.mpr ⟨u, g4⟩)
        exact ⟨p', Lx, x1, Vp_le x2 g4⟩
