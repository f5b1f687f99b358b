/-- what comes of v at the nodes H -/
def Tv (n : Nat) (F s : Nat → Nat) (m : Nat) (fv : Nat → Nat) (H : Nat → Prop) (v y : Nat) : Prop := ∃ i st w g, i < m ∧ st < 28 ∧ w < 2 ∧ g < 60 ∧ H (nb i st w g) ∧ cmg n F s fv i st w g v y
theorem LH_one {n m i st w g : Nat} {F s : Nat → Nat} {fv : Nat → Nat} {u : List Nat} (hs : st < 28) (hw : w < 2) (hg : g < 60) (h : LH n F s m fv (fun z => z = nb i st w g) u) : fv (nb i st w g) ≤ 6 ∧ VR n F s m (m - i) (fv (nb i st w g)) st w g u := by
  obtain ⟨i', st', w', g', h1, h2, h3, h4, h5, h6, h7⟩ := h
  have h5 : nb i' st' w' g' = nb i st w g := h5
  obtain ⟨e1, e2, e3, e4⟩ := nb_inj h2 h3 h4 hs hw hg h5
  subst e1; subst e2; subst e3; subst e4
  exact ⟨h6, h7⟩
theorem LH_step {n m v : Nat} {F s : Nat → Nat} {fv : Nat → Nat} {H : Nat → Prop} {u : List Nat} (hn : n ≤ 12) (hF : ∀ j, F j ≤ 26) (hfw : fwO n F s m fv) (hcl : clH m fv H) : LH n F s m fv H (v :: u) ↔ LH n F s m fv (Tv n F s m fv H v) u := by
  constructor
  · rintro ⟨i, st, w, g, h1, h2, h3, h4, h5, h6, h7⟩
    by_cases hi : i < m
    · obtain ⟨st', w', a1, a2, a3, y, a4, ⟨i2, st2, w2, g2, b1, b2, b3, b4, b5, b6, b7⟩⟩ := LH_cons hn hF hfw hcl hi _ st w g h6 h2 h3 h4 h5 rfl h7
      have b5 : nb i2 st2 w2 g2 = y := b5
      exact ⟨i2, st2, w2, g2, b1, b2, b3, b4, ⟨i, st', w', g, hi, a1, a2, h4, a3, by rw [b5]; exact a4⟩, b6, b7⟩
    · rw [show m - i = 0 by omega] at h7
      have h7 : g = 1 ∧ v :: u = [] := h7
      cases h7.2
  · rintro ⟨i2, st2, w2, g2, b1, b2, b3, b4, ⟨i, st, w, g, hi, hs, hw, hg, hH, g', hE, hc⟩, b6, b7⟩
    have hb := (Eg_le hn hF hg hE).2.2
    have fh := (hfw i st w g (by omega) hs hw hg).1
    rcases hc with ⟨e, e2⟩ | ⟨hp, e, e2⟩
    · obtain ⟨e3, e4, e5, e6⟩ := nb_inj b2 b3 b4 hs hw hb e
      subst e3; subst e4; subst e5; subst e6
      refine ⟨i2, st2, w2, g, by omega, hs, hw, hg, hH, by omega, ?_⟩
      rw [← e2, VR_s hi]
      exact Or.inr (Or.inr (Or.inr ⟨v, g2, u, rfl, hE, (VR_s hi).mp b7⟩))
    · obtain ⟨e3, e4, e5, e6⟩ := nb_inj b2 b3 b4 hs hw hb e
      subst e3; subst e4; subst e5; subst e6
      refine ⟨i, st2, w2, g, by omega, hs, hw, hg, hH, by omega, ?_⟩
      rw [VR_s hi]
      rw [e2] at b7
      generalize fv (nb i st2 w2 g) = l at *
      cases l with
      | zero => exact ⟨v, g2, u, rfl, hE, hp, b7⟩
      | succ l => exact Or.inl ⟨v, g2, u, rfl, hE, hp, b7⟩
theorem LH_nil {n m : Nat} {F s : Nat → Nat} {fv : Nat → Nat} {H : Nat → Prop} (hfw : fwO n F s m fv) : LH n F s m fv H [] ↔ ∃ st w, st < 28 ∧ w < 2 ∧ H (nb m st w 1) := by
  constructor
  · rintro ⟨i, st, w, g, h1, h2, h3, h4, h5, h6, h7⟩
    by_cases hi : i < m
    · rw [show m - i = (m - (i + 1)) + 1 by omega] at h7
      exact absurd h7 (Vn_nil _ _ _ _)
    · have : i = m := by omega
      subst this
      rw [Nat.sub_self] at h7
      have h7 : g = 1 ∧ ([] : List Nat) = [] := h7
      rw [h7.1] at h5
      exact ⟨st, w, h2, h3, h5⟩
  · rintro ⟨st, w, h2, h3, h5⟩
    have := ((hfw m st w 1 (Nat.le_refl _) h2 h3 (by decide)).2 0 (by decide)).mpr (by rw [Nat.sub_self]; exact rfl)
    exact ⟨m, st, w, 1, Nat.le_refl _, h2, h3, by decide, h5, by omega, by rw [Nat.sub_self]; exact ⟨rfl, rfl⟩⟩
/-- more nodes, none of which has a word of its own -/
theorem LH_add {n m i st w g : Nat} {F s : Nat → Nat} {fv : Nat → Nat} {H : Nat → Prop} {y : Nat} (hfw : fwO n F s m fv) (hi : i < m) (hs : st < 28) (hw : w < 2) (hg : g < 60) (hH : H (nb i st w g)) (hy : y = nb i ((st + 1) % 28) w g ∨ y = nb i st (1 - w) g) (hf : fv y + 1 = fv (nb i st w g)) {u : List Nat} : LH n F s m fv (fun z => H z ∨ z = y) u ↔ LH n F s m fv H u := by
  have s1 : (st + 1) % 28 < 28 := Nat.mod_lt _ (by decide)
  have w1 : 1 - w < 2 := by omega
  have fh := (hfw i st w g (by omega) hs hw hg).1
  constructor
  · rintro ⟨i', st', w', g', h1, h2, h3, h4, h5, h6, h7⟩
    rcases h5 with h5 | h5
    · exact ⟨i', st', w', g', h1, h2, h3, h4, h5, h6, h7⟩
    · rcases hy with e | e
      · rw [e] at h5
        obtain ⟨e3, e4, e5, e6⟩ := nb_inj h2 h3 h4 s1 hw hg h5
        subst e3; subst e4; subst e5; subst e6
        rw [e] at hf
        refine ⟨i', st, w', g', h1, hs, h3, h4, hH, by omega, ?_⟩
        rw [← hf, VR_s hi]
        exact Or.inr (Or.inl ((VR_s hi).mp h7))
      · rw [e] at h5
        obtain ⟨e3, e4, e5, e6⟩ := nb_inj h2 h3 h4 hs w1 hg h5
        subst e3; subst e4; subst e5; subst e6
        rw [e] at hf
        refine ⟨i', st', w, g', h1, h2, hw, h4, hH, by omega, ?_⟩
        rw [← hf, VR_s hi]
        exact Or.inr (Or.inr (Or.inl ((VR_s hi).mp h7)))
  · rintro ⟨i', st', w', g', h1, h2, h3, h4, h5, h6, h7⟩
    exact ⟨i', st', w', g', h1, h2, h3, h4, Or.inl h5, h6, h7⟩
theorem LH_ne {n m i st w g : Nat} {F s : Nat → Nat} {fv : Nat → Nat} {H : Nat → Prop} (hfw : fwO n F s m fv) (hi : i ≤ m) (hs : st < 28) (hw : w < 2) (hg : g < 60) (hH : H (nb i st w g)) (hf : fv (nb i st w g) ≤ 6) : ∃ u, LH n F s m fv H u := by
  obtain ⟨u, hu⟩ := (Vn_ex _ _ _ _ _).mp (((hfw i st w g hi hs hw hg).2 _ hf).mp (Nat.le_refl _))
  exact ⟨u, i, st, w, g, hi, hs, hw, hg, hH, hf, hu⟩
