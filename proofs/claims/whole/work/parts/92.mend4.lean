abbrev VR (n : Nat) (F s : Nat → Nat) (m : Nat) : Nat → Nat → Nat → Nat → Nat → List Nat → Prop := Vn (Eg n F) (fun g => g = 1) (prs s) m
/-- fv holds the fewest slips of every node -/
def fwO (n : Nat) (F s : Nat → Nat) (m : Nat) (fv : Nat → Nat) : Prop := ∀ i st w g, i ≤ m → st < 28 → w < 2 → g < 60 → (fv (nb i st w g) ≤ 6 ∨ fv (nb i st w g) = 1000) ∧ ∀ l, l ≤ 6 → (fv (nb i st w g) ≤ l ↔ WR n F s m (m - i) l st w g)
/-- a word of the set H of nodes -/
def LH (n : Nat) (F s : Nat → Nat) (m : Nat) (fv : Nat → Nat) (H : Nat → Prop) (u : List Nat) : Prop := ∃ i st w g, i ≤ m ∧ st < 28 ∧ w < 2 ∧ g < 60 ∧ H (nb i st w g) ∧ fv (nb i st w g) ≤ 6 ∧ VR n F s m (m - i) (fv (nb i st w g)) st w g u
/-- H has with a node those that are one slip nearer -/
def clH (m : Nat) (fv : Nat → Nat) (H : Nat → Prop) : Prop := ∀ i st w g, i < m → st < 28 → w < 2 → g < 60 → H (nb i st w g) → (fv (nb i ((st + 1) % 28) w g) + 1 = fv (nb i st w g) → H (nb i ((st + 1) % 28) w g)) ∧ (fv (nb i st (1 - w) g) + 1 = fv (nb i st w g) → H (nb i st (1 - w) g))
theorem VR_s {n m i l st w g : Nat} {F s : Nat → Nat} {u : List Nat} (hi : i < m) : VR n F s m (m - i) l st w g u ↔ Vi (Eg n F) (fun l st w g u => ∃ v g' u', u = v :: u' ∧ Eg n F g v g' ∧ prs s i st w v ∧ VR n F s m (m - (i + 1)) l st w g' u') l st w g u := by
  have e : m - i = (m - (i + 1)) + 1 := by omega
  have e2 : m - (m - (i + 1) + 1) = i := by omega
  unfold VR
  rw [e]
  show Vi (Eg n F) (fun l st w g u => ∃ v g' u', u = v :: u' ∧ Eg n F g v g' ∧ prs s (m - (m - (i + 1) + 1)) st w v ∧ Vn (Eg n F) (fun g => g = 1) (prs s) m (m - (i + 1)) l st w g' u') l st w g u ↔ _
  rw [e2]
theorem LH_cons {n m : Nat} {F s : Nat → Nat} {fv : Nat → Nat} {H : Nat → Prop} (hn : n ≤ 12) (hF : ∀ j, F j ≤ 26) (hfw : fwO n F s m fv) (hcl : clH m fv H) {i : Nat} (hi : i < m) {v : Nat} {u : List Nat} : ∀ l st w g, l ≤ 6 → st < 28 → w < 2 → g < 60 → H (nb i st w g) → fv (nb i st w g) = l → VR n F s m (m - i) l st w g (v :: u) → ∃ st' w', st' < 28 ∧ w' < 2 ∧ H (nb i st' w' g) ∧ ∃ y, cmg n F s fv i st' w' g v y ∧ LH n F s m fv (fun z => z = y) u := by
  intro l
  induction l with
  | zero =>
    intro st w g hl hs hw hg hH hf hV
    obtain ⟨v', g', u', e, hE, hp, h3⟩ := (VR_s hi).mp hV
    cases e
    have hb := (Eg_le hn hF hg hE).2.2
    have f1 := ((hfw (i + 1) st w g' (by omega) hs hw hb).2 0 (by decide)).mpr ((Vn_ex _ _ _ _ _).mpr ⟨u, h3⟩)
    have eq : fv (nb (i + 1) st w g') = fv (nb i st w g) := by omega
    exact ⟨st, w, hs, hw, hH, nb (i + 1) st w g', ⟨g', hE, Or.inr ⟨hp, rfl, eq⟩⟩, i + 1, st, w, g', by omega, hs, hw, hb, rfl, by omega, by rw [eq, hf]; exact h3⟩
  | succ l ih =>
    intro st w g hl hs hw hg hH hf hV
    have s1 : (st + 1) % 28 < 28 := Nat.mod_lt _ (by decide)
    have w1 : 1 - w < 2 := by omega
    rcases (VR_s hi).mp hV with ⟨v', g', u', e, hE, hp, h3⟩ | h | h | ⟨v', g', u', e, hE, h3⟩
    · cases e
      have hb := (Eg_le hn hF hg hE).2.2
      have h3W := (Vn_ex (E := Eg n F) (acc := fun g => g = 1) (pr := prs s) (m := m) _ _ _ _ _).mpr ⟨u, h3⟩
      have f1 := ((hfw (i + 1) st w g' (by omega) hs hw hb).2 (l + 1) hl).mpr h3W
      have f2 : fv (nb i st w g) ≤ fv (nb (i + 1) st w g') := by
        refine ((hfw i st w g (by omega) hs hw hg).2 _ (by omega)).mpr ?_
        have hW := ((hfw (i + 1) st w g' (by omega) hs hw hb).2 (fv (nb (i + 1) st w g')) (by omega)).mp (Nat.le_refl _)
        rw [WR_s hi]
        generalize fv (nb (i + 1) st w g') = l' at *
        cases l' with
        | zero => exact ⟨v, g', hE, hp, hW⟩
        | succ l' => exact Or.inl ⟨v, g', hE, hp, hW⟩
      have eq : fv (nb (i + 1) st w g') = fv (nb i st w g) := by omega
      exact ⟨st, w, hs, hw, hH, nb (i + 1) st w g', ⟨g', hE, Or.inr ⟨hp, rfl, eq⟩⟩, i + 1, st, w, g', by omega, hs, hw, hb, rfl, by omega, by rw [eq, hf]; exact h3⟩
    · have h' := (VR_s hi).mpr h
      have f1 := ((hfw i _ w g (by omega) s1 hw hg).2 l (by omega)).mpr ((Vn_ex _ _ _ _ _).mpr ⟨_, h'⟩)
      have f2 : fv (nb i st w g) ≤ fv (nb i ((st + 1) % 28) w g) + 1 := by
        refine ((hfw i st w g (by omega) hs hw hg).2 _ (by omega)).mpr ?_
        have hW := ((hfw i _ w g (by omega) s1 hw hg).2 (fv (nb i ((st + 1) % 28) w g)) (by omega)).mp (Nat.le_refl _)
        rw [WR_s hi] at hW ⊢
        exact Or.inr (Or.inl hW)
      exact ih _ w g (by omega) s1 hw hg ((hcl i st w g hi hs hw hg hH).1 (by omega)) (by omega) h'
    · have h' := (VR_s hi).mpr h
      have f1 := ((hfw i st _ g (by omega) hs w1 hg).2 l (by omega)).mpr ((Vn_ex _ _ _ _ _).mpr ⟨_, h'⟩)
      have f2 : fv (nb i st w g) ≤ fv (nb i st (1 - w) g) + 1 := by
        refine ((hfw i st w g (by omega) hs hw hg).2 _ (by omega)).mpr ?_
        have hW := ((hfw i st _ g (by omega) hs w1 hg).2 (fv (nb i st (1 - w) g)) (by omega)).mp (Nat.le_refl _)
        rw [WR_s hi] at hW ⊢
        exact Or.inr (Or.inr (Or.inl hW))
      exact ih st _ g (by omega) hs w1 hg ((hcl i st w g hi hs hw hg hH).2 (by omega)) (by omega) h'
    · cases e
      have hb := (Eg_le hn hF hg hE).2.2
      have h' := (VR_s hi).mpr h3
      have f1 := ((hfw i st w g' (by omega) hs hw hb).2 l (by omega)).mpr ((Vn_ex _ _ _ _ _).mpr ⟨_, h'⟩)
      have f2 : fv (nb i st w g) ≤ fv (nb i st w g') + 1 := by
        refine ((hfw i st w g (by omega) hs hw hg).2 _ (by omega)).mpr ?_
        have hW := ((hfw i st w g' (by omega) hs hw hb).2 (fv (nb i st w g')) (by omega)).mp (Nat.le_refl _)
        rw [WR_s hi] at hW ⊢
        exact Or.inr (Or.inr (Or.inr ⟨v, g', hE, hW⟩))
      have eq : fv (nb i st w g') = l := by omega
      exact ⟨st, w, hs, hw, hH, nb i st w g', ⟨g', hE, Or.inl ⟨rfl, by omega⟩⟩, i, st, w, g', by omega, hs, hw, hb, rfl, by omega, by rw [eq]; exact h'⟩
