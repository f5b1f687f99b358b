/-! repairs: one grammar in another -/
theorem Vi_ph {E E' : Nat → Nat → Nat → Prop} {Ph : Nat → Nat → Prop} {B B' : Nat → Nat → Nat → Nat → List Nat → Prop} (D1 : ∀ t g v g', Ph t g → E' g v g' → ∃ t', E t v t' ∧ Ph t' g') (D2 : ∀ t v t' g', E t v t' → Ph t' g' → ∃ g, Ph t g ∧ E' g v g') (hB : ∀ l st w t u, B l st w t u ↔ ∃ g, Ph t g ∧ B' l st w g u) : ∀ l st w t u, Vi E B l st w t u ↔ ∃ g, Ph t g ∧ Vi E' B' l st w g u := by
  intro l
  induction l with
  | zero => intro st w t u; exact hB 0 st w t u
  | succ l ih =>
    intro st w t u
    constructor
    · rintro (h | h | h | ⟨v, t', u', e, h1, h⟩)
      · obtain ⟨g, p, h⟩ := (hB _ st w t u).mp h
        exact ⟨g, p, Or.inl h⟩
      · obtain ⟨g, p, h⟩ := (ih _ _ _ _).mp h
        exact ⟨g, p, Or.inr (Or.inl h)⟩
      · obtain ⟨g, p, h⟩ := (ih _ _ _ _).mp h
        exact ⟨g, p, Or.inr (Or.inr (Or.inl h))⟩
      · obtain ⟨g', p', h'⟩ := (ih _ _ _ _).mp h
        obtain ⟨g, p, e'⟩ := D2 t v t' g' h1 p'
        exact ⟨g, p, Or.inr (Or.inr (Or.inr ⟨v, g', u', e, e', h'⟩))⟩
    · rintro ⟨g, p, h | h | h | ⟨v, g', u', e, h1, h⟩⟩
      · exact Or.inl ((hB _ st w t u).mpr ⟨g, p, h⟩)
      · exact Or.inr (Or.inl ((ih _ _ _ _).mpr ⟨g, p, h⟩))
      · exact Or.inr (Or.inr (Or.inl ((ih _ _ _ _).mpr ⟨g, p, h⟩)))
      · obtain ⟨t', e', p'⟩ := D1 t g v g' p h1
        exact Or.inr (Or.inr (Or.inr ⟨v, t', u', e, e', (ih _ _ _ _).mpr ⟨g', p', h⟩⟩))
theorem Vn_ph {E E' : Nat → Nat → Nat → Prop} {Ph : Nat → Nat → Prop} {acc acc' : Nat → Prop} {pr : Nat → Nat → Nat → Nat → Prop} {m : Nat} (D1 : ∀ t g v g', Ph t g → E' g v g' → ∃ t', E t v t' ∧ Ph t' g') (D2 : ∀ t v t' g', E t v t' → Ph t' g' → ∃ g, Ph t g ∧ E' g v g') (hA : ∀ t, acc t ↔ ∃ g, Ph t g ∧ acc' g) : ∀ j l st w t u, Vn E acc pr m j l st w t u ↔ ∃ g, Ph t g ∧ Vn E' acc' pr m j l st w g u := by
  intro j
  induction j with
  | zero =>
    intro l st w t u
    constructor
    · rintro ⟨h, e⟩
      obtain ⟨g, p, h⟩ := (hA t).mp h
      exact ⟨g, p, h, e⟩
    · rintro ⟨g, p, h, e⟩
      exact ⟨(hA t).mpr ⟨g, p, h⟩, e⟩
  | succ j ih =>
    refine Vi_ph D1 D2 (fun l st w t u => ?_)
    constructor
    · rintro ⟨v, t', u', e, h1, h2, h3⟩
      obtain ⟨g', p', h'⟩ := (ih _ _ _ _ _).mp h3
      obtain ⟨g, p, e'⟩ := D2 t v t' g' h1 p'
      exact ⟨g, p, v, g', u', e, e', h2, h'⟩
    · rintro ⟨g, p, v, g', u', e, h1, h2, h3⟩
      obtain ⟨t', e', p'⟩ := D1 t g v g' p h1
      exact ⟨v, t', u', e, e', h2, (ih _ _ _ _ _).mpr ⟨g', p', h3⟩⟩
/-! the codes as a tree -/
/-- c letters of each firm are in, e firms are closed, q states; W f k is where the first k letters of f lead -/
def trie (F c : Nat → Nat) (e q : Nat) (W : Nat → Nat → Nat) (N : Nat → Nat → Int32) : Prop := (∀ f, W f 0 = 0) ∧ (∀ f k, k < c f → N (W f k) (F (4 * f + k)) = nI (W f (k + 1)) ∧ 11 ≤ W f (k + 1) ∧ W f (k + 1) < q) ∧ (∀ f v, f < e → 27 ≤ v → v ≤ 36 → N (W f (c f)) v = nI 1) ∧ (∀ t v, t < 59 → v < 55 → N t v = mI 1 ∨ (∃ f k, k < c f ∧ t = W f k ∧ v = F (4 * f + k) ∧ N t v = nI (W f (k + 1))) ∨ (∃ f, f < e ∧ t = W f (c f) ∧ 27 ≤ v ∧ v ≤ 36 ∧ N t v = nI 1)) ∧ (∀ f k f' k', k < c f → k' < c f' → W f (k + 1) = W f' (k' + 1) → k = k' ∧ W f k = W f' k' ∧ F (4 * f + k) = F (4 * f' + k'))
def alN (N : Nat → Nat → Int32) (T a b x : Nat) : Nat → Nat → Int32 := fun t v => if t = T ∧ a ≤ v ∧ v ≤ b then nI x else N t v
def upW (W : Nat → Nat → Nat) (f i x : Nat) : Nat → Nat → Nat := fun a b => if a = f ∧ b = i then x else W a b
def upC (c : Nat → Nat) (f i : Nat) : Nat → Nat := fun a => if a = f then i else c a
theorem upC_ne {c : Nat → Nat} {f i a : Nat} (h : a ≠ f) : upC c f i a = c a := if_neg h
theorem upC_eq {c : Nat → Nat} {f i : Nat} : upC c f i f = i := if_pos rfl
theorem upW_eq {W : Nat → Nat → Nat} {f i x : Nat} : upW W f i x f i = x := if_pos ⟨rfl, rfl⟩
theorem upW_ne {W : Nat → Nat → Nat} {f i x a b : Nat} (h : ¬ (a = f ∧ b = i)) : upW W f i x a b = W a b := if_neg h
theorem trie_0 (F : Nat → Nat) : trie F (fun _ => 0) 0 11 (fun _ _ => 0) (fun _ _ => mI 1) := ⟨fun _ => rfl, fun _ _ h => absurd h (Nat.not_lt_zero _), fun _ _ h => absurd h (Nat.not_lt_zero _), fun _ _ _ _ => Or.inl rfl, fun _ _ _ _ h => absurd h (Nat.not_lt_zero _)⟩
theorem trie.lt {F c : Nat → Nat} {e q f k : Nat} {W : Nat → Nat → Nat} {N : Nat → Nat → Int32} (h : trie F c e q W N) (hq : 11 ≤ q) (hk : k ≤ c f) : W f k < q ∧ (W f k = 0 ∨ 11 ≤ W f k) ∧ (W f k = 0 ↔ k = 0) := by
  cases k with
  | zero => rw [h.1 f]; exact ⟨by omega, Or.inl rfl, by simp⟩
  | succ k => have := h.2.1 f k (by omega); exact ⟨by omega, by omega, by omega⟩
theorem nI_59 {a b : Nat} (ha : a < 59) (hb : b < 59) (h : nI a = nI b) : a = b := by rwa [nI_eq' (by omega) (by omega)] at h
/-- a letter that is there -/
theorem trie_A {F c : Nat → Nat} {e q f i : Nat} {W : Nat → Nat → Nat} {N : Nat → Nat → Int32} (h : trie F c e q W N) (hq : 11 ≤ q) (hq2 : q ≤ 59) (hF : ∀ j, F j ≤ 26) (hi : c f = i) (he : e ≤ f) (hne : N (W f i) (F (4 * f + i)) ≠ mI 1) : ∃ x, 11 ≤ x ∧ x < q ∧ N (W f i) (F (4 * f + i)) = nI x ∧ trie F (upC c f (i + 1)) e q (upW W f (i + 1) x) N := by
  have hT := h.lt hq (show i ≤ c f by omega)
  have hF' := hF (4 * f + i)
  rcases h.2.2.2.1 (W f i) (F (4 * f + i)) (by omega) (by omega) with h1 | ⟨f0, k0, g1, g2, g3, g4⟩ | ⟨f0, g1, g2, g3, g4, g5⟩
  · exact absurd h1 hne
  · have b0 := h.2.1 f0 k0 g1
    have t0 := h.lt (f := f0) (k := k0) hq (by omega)
    have ik : i = k0 := by
      cases i with
      | zero => have := t0.2.2; have := hT.2.2; omega
      | succ i =>
        cases k0 with
        | zero => have := t0.2.2; have := hT.2.2; omega
        | succ k0 => have := (h.2.2.2.2 f i f0 k0 (by omega) (by omega) g2).1; omega
    subst ik
    refine ⟨W f0 (i + 1), b0.2.1, b0.2.2, g4, fun a => ?_, fun a k hk => ?_, fun a v ha v1 v2 => ?_, fun t v ht hv => ?_, fun a k a' k' hk hk' hW => ?_⟩
    · rw [upW_ne (by omega)]; exact h.1 a
    · by_cases q1 : a = f
      · subst q1
        rw [upC_eq] at hk
        by_cases q2 : k = i
        · subst q2
          rw [upW_ne (by omega), upW_eq]
          exact ⟨g4, b0.2.1, b0.2.2⟩
        · rw [upW_ne (by omega), upW_ne (by omega)]
          exact h.2.1 a k (by omega)
      · rw [upC_ne q1] at hk
        rw [upW_ne (by omega), upW_ne (by omega)]
        exact h.2.1 a k hk
    · rw [upC_ne (by omega), upW_ne (by omega)]
      exact h.2.2.1 a v ha v1 v2
    · rcases h.2.2.2.1 t v ht hv with h1 | ⟨f1, k1, e1, e2, e3, e4⟩ | ⟨f1, e1, e2, e3, e4, e5⟩
      · exact Or.inl h1
      · refine Or.inr (Or.inl ⟨f1, k1, ?_, ?_, e3, ?_⟩)
        · by_cases q1 : f1 = f
          · subst q1; rw [upC_eq]; omega
          · rw [upC_ne q1]; exact e1
        · rw [upW_ne]; exact e2
          rintro ⟨z1, z2⟩; subst z1; omega
        · rw [upW_ne]; exact e4
          rintro ⟨z1, z2⟩; subst z1; omega
      · refine Or.inr (Or.inr ⟨f1, e1, ?_, e3, e4, e5⟩)
        rw [upC_ne (by omega), upW_ne (by omega)]
        exact e2
    · have old : ∀ a k, k < upC c f (i + 1) a → (k < c a ∧ upW W f (i + 1) (W f0 (i + 1)) a (k + 1) = W a (k + 1) ∧ upW W f (i + 1) (W f0 (i + 1)) a k = W a k) ∨ (a = f ∧ k = i ∧ upW W f (i + 1) (W f0 (i + 1)) a (k + 1) = W f0 (i + 1) ∧ upW W f (i + 1) (W f0 (i + 1)) a k = W f i) := by
        intro a k hk
        by_cases q1 : a = f
        · subst q1
          rw [upC_eq] at hk
          by_cases q2 : k = i
          · subst q2; exact Or.inr ⟨rfl, rfl, upW_eq, upW_ne (by omega)⟩
          · exact Or.inl ⟨by omega, upW_ne (by omega), upW_ne (by omega)⟩
        · rw [upC_ne q1] at hk
          exact Or.inl ⟨hk, upW_ne (by omega), upW_ne (by omega)⟩
      rcases old a k hk with ⟨o1, o2, o3⟩ | ⟨o1, o2, o3, o4⟩ <;> rcases old a' k' hk' with ⟨p1, p2, p3⟩ | ⟨p1, p2, p3, p4⟩
      · rw [o2, p2] at hW
        rw [o3, p3]
        exact h.2.2.2.2 a k a' k' o1 p1 hW
      · rw [o2, p3] at hW
        rw [o3, p4]
        have := h.2.2.2.2 a k f0 i o1 g1 hW
        exact ⟨by omega, by rw [this.2.1, g2], by rw [this.2.2, p1, p2, g3]⟩
      · rw [o3, p2] at hW
        rw [o4, p3]
        have := h.2.2.2.2 a' k' f0 i p1 g1 hW.symm
        exact ⟨by omega, by rw [this.2.1, g2], by rw [this.2.2, o1, o2, g3]⟩
      · exact ⟨by omega, by rw [o4, p4], by rw [o1, o2, p1, p2]⟩
  · omega
/-- a new letter -/
theorem trie_B {F c : Nat → Nat} {e q f i : Nat} {W : Nat → Nat → Nat} {N : Nat → Nat → Int32} (h : trie F c e q W N) (hq : 11 ≤ q) (hq2 : q < 59) (hF : ∀ j, F j ≤ 26) (hi : c f = i) (he : e ≤ f) (hne : N (W f i) (F (4 * f + i)) = mI 1) : trie F (upC c f (i + 1)) e (q + 1) (upW W f (i + 1) q) (alN N (W f i) (F (4 * f + i)) (F (4 * f + i)) q) := by
  have hT := h.lt hq (show i ≤ c f by omega)
  have hF' := hF (4 * f + i)
  have old : ∀ a k, k < upC c f (i + 1) a → (k < c a ∧ upW W f (i + 1) q a (k + 1) = W a (k + 1) ∧ upW W f (i + 1) q a k = W a k) ∨ (a = f ∧ k = i ∧ upW W f (i + 1) q a (k + 1) = q ∧ upW W f (i + 1) q a k = W f i) := by
    intro a k hk
    by_cases q1 : a = f
    · subst q1
      rw [upC_eq] at hk
      by_cases q2 : k = i
      · subst q2; exact Or.inr ⟨rfl, rfl, upW_eq, upW_ne (by omega)⟩
      · exact Or.inl ⟨by omega, upW_ne (by omega), upW_ne (by omega)⟩
    · rw [upC_ne q1] at hk
      exact Or.inl ⟨hk, upW_ne (by omega), upW_ne (by omega)⟩
  have aN : ∀ t v x, N t v = nI x → x < 59 → alN N (W f i) (F (4 * f + i)) (F (4 * f + i)) q t v = N t v := by
    intro t v x hx hx2
    unfold alN
    rw [if_neg]
    rintro ⟨z1, z2, z3⟩
    rw [z1, show v = F (4 * f + i) by omega, hne] at hx
    rw [mI_nI (by omega) (by omega) (by omega)] at hx
    exact hx
  refine ⟨fun a => ?_, fun a k hk => ?_, fun a v ha v1 v2 => ?_, fun t v ht hv => ?_, fun a k a' k' hk hk' hW => ?_⟩
  · rw [upW_ne (by omega)]; exact h.1 a
  · rcases old a k hk with ⟨o1, o2, o3⟩ | ⟨o1, o2, o3, o4⟩
    · rw [o2, o3]
      have := h.2.1 a k o1
      rw [aN _ _ _ this.1 (by omega)]
      exact ⟨this.1, by omega, by omega⟩
    · rw [o3, o4, o1, o2]
      exact ⟨by unfold alN; rw [if_pos ⟨rfl, Nat.le_refl _, Nat.le_refl _⟩], hq, by omega⟩
  · rw [upC_ne (by omega), upW_ne (by omega)]
    have := h.2.2.1 a v ha v1 v2
    rw [aN _ _ _ this (by omega)]
    exact this
  · by_cases qq : t = W f i ∧ v = F (4 * f + i)
    · refine Or.inr (Or.inl ⟨f, i, by rw [upC_eq]; omega, ?_, qq.2, ?_⟩)
      · rw [upW_ne (by omega)]; exact qq.1
      · rw [upW_eq]; unfold alN; rw [if_pos ⟨qq.1, by omega, by omega⟩]
    · have e0 : alN N (W f i) (F (4 * f + i)) (F (4 * f + i)) q t v = N t v := by unfold alN; rw [if_neg (fun z => qq ⟨z.1, by omega⟩)]
      rw [e0]
      rcases h.2.2.2.1 t v ht hv with h1 | ⟨f1, k1, e1, e2, e3, e4⟩ | ⟨f1, e1, e2, e3, e4, e5⟩
      · exact Or.inl h1
      · refine Or.inr (Or.inl ⟨f1, k1, ?_, ?_, e3, ?_⟩)
        · by_cases q1 : f1 = f
          · subst q1; rw [upC_eq]; omega
          · rw [upC_ne q1]; exact e1
        · rw [upW_ne]; exact e2
          rintro ⟨z1, z2⟩; subst z1; omega
        · rw [upW_ne]; exact e4
          rintro ⟨z1, z2⟩; subst z1; omega
      · refine Or.inr (Or.inr ⟨f1, e1, ?_, e3, e4, e5⟩)
        rw [upC_ne (by omega), upW_ne (by omega)]
        exact e2
  · rcases old a k hk with ⟨o1, o2, o3⟩ | ⟨o1, o2, o3, o4⟩ <;> rcases old a' k' hk' with ⟨p1, p2, p3⟩ | ⟨p1, p2, p3, p4⟩
    · rw [o2, p2] at hW
      rw [o3, p3]
      exact h.2.2.2.2 a k a' k' o1 p1 hW
    · have := h.2.1 a k o1
      omega
    · have := h.2.1 a' k' p1
      omega
    · exact ⟨by omega, by rw [o4, p4], by rw [o1, o2, p1, p2]⟩
/-- a firm is closed -/
theorem trie_C {F c : Nat → Nat} {q f : Nat} {W : Nat → Nat → Nat} {N : Nat → Nat → Int32} (h : trie F c f q W N) (hF : ∀ j, F j ≤ 26) : trie F c (f + 1) q W (alN N (W f (c f)) 27 36 1) := by
  refine ⟨h.1, fun a k hk => ?_, fun a v ha v1 v2 => ?_, fun t v ht hv => ?_, h.2.2.2.2⟩
  · have := h.2.1 a k hk
    have f1 := hF (4 * a + k)
    unfold alN
    rw [if_neg (by omega)]
    exact this
  · unfold alN
    by_cases q1 : W a (c a) = W f (c f)
    · rw [if_pos ⟨q1, v1, v2⟩]
    · rw [if_neg (fun z => q1 z.1)]
      by_cases q2 : a = f
      · subst q2; exact absurd rfl q1
      · exact h.2.2.1 a v (by omega) v1 v2
  · unfold alN
    by_cases qq : t = W f (c f) ∧ 27 ≤ v ∧ v ≤ 36
    · rw [if_pos qq]
      exact Or.inr (Or.inr ⟨f, by omega, qq.1, qq.2.1, qq.2.2, rfl⟩)
    · rw [if_neg qq]
      rcases h.2.2.2.1 t v ht hv with h1 | h1 | ⟨f1, e1, e2, e3, e4, e5⟩
      · exact Or.inl h1
      · exact Or.inr (Or.inl h1)
      · exact Or.inr (Or.inr ⟨f1, by omega, e2, e3, e4, e5⟩)
