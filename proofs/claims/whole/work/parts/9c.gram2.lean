/-! repairs: the class's grammar and the reference's -/
def elp (g : Nat) : eg := ((((((if g < 53 then dgl 0 (g + 1) 10 else []) ++ (if 50 < g ∧ g < 54 then eil 7 else [])) ++ (if 50 < g ∧ g < 55 then [(44, 55)] else [])) ++ (if g = 55 then [(28, 56)] ++ dgl 2 57 8 else [])) ++ (if g = 56 ∨ g = 57 then dgl 0 58 10 else [])) ++ (if g = 58 then dgl 0 59 10 else [])) ++ (if 50 < g ∧ ¬ g = 55 ∧ ¬ g = 56 then [(0, 1)] else [])
theorem el_p {n g : Nat} {F : Nat → Nat} (h : 50 ≤ g) : el n F g = elp g := by unfold el elp; rw [if_neg (by omega), if_neg (by omega)]
/-- what is allowed of prices and shares, in the order in which it is: state, signs from, to, next -/
def alP : List (Nat × Nat × Nat × Nat) := [(1, 27, 36, 2), (2, 27, 36, 3), (3, 27, 36, 4), (2, 37, 43, 5), (3, 37, 43, 5), (4, 37, 43, 5), (2, 44, 44, 6), (2, 0, 0, 0), (3, 44, 44, 6), (3, 0, 0, 0), (4, 44, 44, 6), (4, 0, 0, 0), (5, 44, 44, 6), (5, 0, 0, 0), (6, 28, 28, 7), (6, 29, 36, 8), (7, 27, 36, 9), (8, 27, 36, 9), (9, 27, 36, 10), (8, 0, 0, 0), (9, 0, 0, 0), (10, 0, 0, 0)]
def alLk : List (Nat × Nat × Nat × Nat) → Nat → Nat → Option Nat
  | [], _, _ => none
  | p :: L, t, v => match alLk L t v with
    | some x => some x
    | none => if t = p.1 ∧ p.2.1 ≤ v ∧ v ≤ p.2.2.1 then some p.2.2.2 else none
theorem alLk_c (p : Nat × Nat × Nat × Nat) (L : List (Nat × Nat × Nat × Nat)) (t v : Nat) : alLk (p :: L) t v = (match alLk L t v with
    | some x => some x
    | none => if t = p.1 ∧ p.2.1 ≤ v ∧ v ≤ p.2.2.1 then some p.2.2.2 else none) := rfl
def alS (N : Nat → Nat → Int32) : List (Nat × Nat × Nat × Nat) → Nat → Nat → Int32
  | [] => N
  | p :: L => alS (alN N p.1 p.2.1 p.2.2.1 p.2.2.2) L
theorem alS_lk : ∀ (L : List (Nat × Nat × Nat × Nat)) (N : Nat → Nat → Int32) (t v : Nat), alS N L t v = (match alLk L t v with | some x => nI x | none => N t v) := by
  intro L
  induction L with
  | nil => intro N t v; rfl
  | cons p L ih =>
    intro N t v
    show alS (alN N p.1 p.2.1 p.2.2.1 p.2.2.2) L t v = _
    rw [ih, alLk_c]
    cases alLk L t v with
    | some x => rfl
    | none =>
      unfold alN
      by_cases q : t = p.1 ∧ p.2.1 ≤ v ∧ v ≤ p.2.2.1
      · rw [if_pos q, if_pos q]
      · rw [if_neg q, if_neg q]
def ph (t : Nat) : Nat := if t = 0 then 1 else 49 + t
def ckP (t v : Nat) : Bool := match alLk alP t v with
  | some x => decide (x ≤ 10) && decide ((v, ph x) ∈ elp (49 + t)) && (elp (49 + t)).all (fun p => decide (p.1 = v → p.2 = ph x))
  | none => (elp (49 + t)).all (fun p => decide (p.1 ≠ v))
theorem ckP_all : ∀ t, t < 10 → ∀ v, v < 55 → ckP (t + 1) v = true := by decide +kernel
theorem alP_none : ∀ t, t = 0 ∨ 11 ≤ t → ∀ v, alLk alP t v = none := by
  intro t ht v
  have key : ∀ L : List (Nat × Nat × Nat × Nat), (∀ p, p ∈ L → 1 ≤ p.1 ∧ p.1 ≤ 10) → alLk L t v = none := by
    intro L
    induction L with
    | nil => intro _; rfl
    | cons p L ih =>
      intro h
      unfold alLk
      rw [ih (fun p' hp' => h p' (List.mem_cons_of_mem _ hp'))]
      have := h p (List.mem_cons_self ..)
      show (if t = p.1 ∧ p.2.1 ≤ v ∧ v ≤ p.2.2.1 then some p.2.2.2 else none) = none
      rw [if_neg (by omega)]
  exact key alP (by decide)
theorem elp_v : ∀ t, t < 10 → ∀ p, p ∈ elp (50 + t) → p.1 < 55 := by decide +kernel
theorem alP_iff {n t v x : Nat} {F : Nat → Nat} (h1 : 1 ≤ t) (h2 : t ≤ 10) (hv : v < 55) (h : alLk alP t v = some x) : x ≤ 10 ∧ Eg n F (49 + t) v (ph x) := by
  have := ckP_all (t - 1) (by omega) v hv
  rw [show t - 1 + 1 = t by omega] at this
  unfold ckP at this
  rw [h] at this
  simp only [Bool.and_eq_true, decide_eq_true_eq] at this
  exact ⟨this.1.1, by unfold Eg; rw [el_p (by omega)]; exact this.1.2⟩
theorem alP_of {n t v g' : Nat} {F : Nat → Nat} (h1 : 1 ≤ t) (h2 : t ≤ 10) (h : Eg n F (49 + t) v g') : v < 55 ∧ ∃ x, x ≤ 10 ∧ alLk alP t v = some x ∧ g' = ph x := by
  unfold Eg at h
  rw [el_p (by omega)] at h
  have hv : v < 55 := elp_v (t - 1) (by omega) (v, g') (by rw [show 50 + (t - 1) = 49 + t by omega]; exact h)
  have := ckP_all (t - 1) (by omega) v hv
  rw [show t - 1 + 1 = t by omega] at this
  unfold ckP at this
  refine ⟨hv, ?_⟩
  cases e : alLk alP t v with
  | none =>
    rw [e] at this
    have := List.all_eq_true.mp this (v, g') h
    simp at this
  | some x =>
    rw [e] at this
    simp only [Bool.and_eq_true, decide_eq_true_eq] at this
    have h3 := List.all_eq_true.mp this.2 (v, g') h
    simp only [decide_eq_true_eq] at h3
    exact ⟨x, this.1.1, rfl, h3 trivial⟩
/-- the class's grammar, as it stands when all is learnt: q states -/
def gram (n : Nat) (F : Nat → Nat) (q : Nat) (N : Nat → Nat → Int32) : Prop := 11 ≤ q ∧ q ≤ 59 ∧ ∃ c W N0, trie F c n q W N0 ∧ (∀ f, f < n → c f = fsz F f) ∧ (∀ f, n ≤ f → c f = 0) ∧ ∀ t v, N t v = alS N0 alP t v
def Tx (q : Nat) (N : Nat → Nat → Int32) (t v t' : Nat) : Prop := t < q ∧ v < 55 ∧ t' < 59 ∧ N t v = nI t'
abbrev WT (q : Nat) (N : Nat → Nat → Int32) (s : Nat → Nat) (m : Nat) : Nat → Nat → Nat → Nat → Nat → Prop := Wn (Tx q N) (fun t => t = 0) (prs s) m
abbrev VT (q : Nat) (N : Nat → Nat → Int32) (s : Nat → Nat) (m : Nat) : Nat → Nat → Nat → Nat → Nat → List Nat → Prop := Vn (Tx q N) (fun t => t = 0) (prs s) m
theorem dgl_mem {a t v : Nat} : ∀ k, 27 + a ≤ v → v < 27 + a + k → (v, t) ∈ dgl a t k := by
  intro k
  induction k with
  | zero => intro h1 h2; omega
  | succ k ih =>
    intro h1 h2
    show (v, t) ∈ dgl a t k ++ [(27 + (a + k), t)]
    by_cases q : v = 27 + a + k
    · exact List.mem_append.mpr (Or.inr (List.mem_singleton.mpr (by rw [q, Nat.add_assoc])))
    · exact List.mem_append.mpr (Or.inl (ih h1 (by omega)))
theorem fml_mem {F : Nat → Nat} {j : Nat} : ∀ k, j < k → (F (4 * j), 2 + 4 * j) ∈ fml F k := by
  intro k
  induction k with
  | zero => intro h; omega
  | succ k ih =>
    intro h
    show _ ∈ fml F k ++ [(F (4 * k), 2 + 4 * k)]
    by_cases q : j = k
    · exact List.mem_append.mpr (Or.inr (List.mem_singleton.mpr (by rw [q])))
    · exact List.mem_append.mpr (Or.inl (ih (by omega)))
theorem fsz_b (F : Nat → Nat) (f : Nat) : 1 ≤ fsz F f ∧ fsz F f ≤ 4 := by unfold fsz; split; omega; split; omega; split <;> omega
/-- the nodes of the reference that a state stands for -/
def Phi (n : Nat) (F : Nat → Nat) (W : Nat → Nat → Nat) (t g : Nat) : Prop := (t = 0 ∧ g = 1) ∨ (1 ≤ t ∧ t ≤ 10 ∧ g = 49 + t) ∨ ∃ f k, f < n ∧ k < fsz F f ∧ t = W f (k + 1) ∧ g = 2 + 4 * f + k
theorem gram_V {n q m : Nat} {F s : Nat → Nat} {N : Nat → Nat → Int32} (hn : n ≤ 12) (hF : ∀ j, F j ≤ 26) (h : gram n F q N) : ∀ j l st w u, VT q N s m j l st w 0 u ↔ VR n F s m j l st w 1 u := by
  obtain ⟨q1, q2, c, W, N0, hT, hc, hc0, hN⟩ := h
  have cf : ∀ f k, k < c f → f < n := fun f k hk => Classical.byContradiction (fun z => by have := hc0 f (by omega); omega)
  have np : ∀ t v, t = 0 ∨ 11 ≤ t → N t v = N0 t v := fun t v ht => by rw [hN, alS_lk, alP_none t ht v]
  have pp : ∀ t v, 1 ≤ t → t ≤ 10 → v < 55 → N t v = (match alLk alP t v with | some x => nI x | none => mI 1) := by
    intro t v t1 t2 hv
    rw [hN, alS_lk]
    cases alLk alP t v with
    | some x => rfl
    | none =>
      rcases hT.2.2.2.1 t v (by omega) hv with h1 | ⟨f, k, e1, e2, _, _⟩ | ⟨f, e1, e2, _, _, _⟩
      · exact h1
      · have := hT.lt (f := f) (k := k) q1 (by omega); omega
      · have := hT.lt (f := f) (k := c f) q1 (Nat.le_refl _); omega
  have phP : ∀ x, x ≤ 10 → Phi n F W x (ph x) := by
    intro x hx
    unfold ph
    by_cases z : x = 0
    · rw [if_pos z]; exact Or.inl ⟨z, rfl⟩
    · rw [if_neg z]; exact Or.inr (Or.inl ⟨by omega, hx, rfl⟩)
  have phI : ∀ x g, x ≤ 10 → Phi n F W x g → g = ph x := by
    intro x g hx h
    unfold ph
    rcases h with ⟨h1, h2⟩ | ⟨h1, h2, h3⟩ | ⟨f, k, h1, h2, h3, h4⟩
    · rw [if_pos h1]; exact h2
    · rw [if_neg (by omega)]; exact h3
    · have := hT.2.1 f k (by rw [hc f h1]; exact h2); omega
  have D1 : ∀ t g v g', Phi n F W t g → Eg n F g v g' → ∃ t', Tx q N t v t' ∧ Phi n F W t' g' := by
    rintro t g v g' (⟨h1, h2⟩ | ⟨h1, h2, h3⟩ | ⟨f, k, h1, h2, h3, h4⟩) hE
    · subst h1; subst h2
      unfold Eg el at hE
      rw [if_pos (by decide)] at hE
      obtain ⟨j, hj, e1, e2⟩ := mem_fml hE
      have fz := fsz_b F j
      have hj0 := hT.2.1 j 0 (by rw [hc j hj]; omega)
      have f26 := hF (4 * j)
      rw [hT.1 j, Nat.add_zero] at hj0
      have h59 : W j 1 < q := hj0.2.2
      exact ⟨W j 1, ⟨by omega, by omega, by omega, by rw [np 0 v (Or.inl rfl), e1]; exact hj0.1⟩, Or.inr (Or.inr ⟨j, 0, hj, by omega, rfl, by omega⟩)⟩
    · subst h3
      obtain ⟨hv, x, hx, e, eg⟩ := alP_of h1 h2 hE
      exact ⟨x, ⟨by omega, hv, by omega, by rw [pp t v h1 h2 hv, e]⟩, by rw [eg]; exact phP x hx⟩
    · have fz := fsz_b F f
      have hk := hT.2.1 f k (by rw [hc f h1]; exact h2)
      unfold Eg el at hE
      rw [if_neg (by omega), if_pos (by omega), show (g - 2) / 4 = f by omega, show (g - 2) % 4 = k by omega] at hE
      by_cases z : k + 1 = fsz F f
      · rw [if_pos ⟨h1, z⟩] at hE
        obtain ⟨e1, j, e2, e3⟩ := mem_dgl hE
        have := hT.2.2.1 f v h1 (by omega) (by omega)
        rw [hc f h1, ← z] at this
        exact ⟨1, ⟨by omega, by omega, by omega, by rw [np t v (by omega), h3]; exact this⟩, Or.inr (Or.inl ⟨by omega, by omega, by omega⟩)⟩
      · rw [if_neg (by omega), if_pos ⟨h1, by omega⟩] at hE
        have e := List.mem_singleton.mp hE
        have e1 : v = F (4 * f + (k + 1)) := congrArg Prod.fst e
        have e2 : g' = g + 1 := congrArg Prod.snd e
        have := hT.2.1 f (k + 1) (by rw [hc f h1]; omega)
        have f26 := hF (4 * f + (k + 1))
        have h59 : W f (k + 2) < q := this.2.2
        exact ⟨W f (k + 2), ⟨by omega, by omega, by omega, by rw [np t v (by omega), h3, e1]; exact this.1⟩, Or.inr (Or.inr ⟨f, k + 1, h1, by omega, rfl, by omega⟩)⟩
  have D2 : ∀ t v t' g', Tx q N t v t' → Phi n F W t' g' → ∃ g, Phi n F W t g ∧ Eg n F g v g' := by
    rintro t v t' g' ⟨h1, h2, h3, h4⟩ hp
    by_cases z : 1 ≤ t ∧ t ≤ 10
    · rw [pp t v z.1 z.2 h2] at h4
      cases e : alLk alP t v with
      | none => rw [e] at h4; exact absurd h4 (by rw [mI_nI (by omega) (by omega) (by omega)]; exact fun h => h)
      | some x =>
        rw [e] at h4
        obtain ⟨x1, x2⟩ := alP_iff (n := n) (F := F) z.1 z.2 h2 e
        have : x = t' := nI_59 (by omega) h3 h4
        subst this
        have := phI x g' x1 hp
        subst this
        exact ⟨49 + t, Or.inr (Or.inl ⟨z.1, z.2, rfl⟩), x2⟩
    · rw [np t v (by omega)] at h4
      rcases hT.2.2.2.1 t v (by omega) h2 with g1 | ⟨f, k, g1, g2, g3, g4⟩ | ⟨f, g1, g2, g3, g4, g5⟩
      · rw [g1] at h4; exact absurd h4 (by rw [mI_nI (by omega) (by omega) (by omega)]; exact fun h => h)
      · have b := hT.2.1 f k g1
        rw [g4] at h4
        have : W f (k + 1) = t' := nI_59 (by omega) h3 h4
        rcases hp with ⟨p1, p2⟩ | ⟨p1, p2, p3⟩ | ⟨f', k', p1, p2, p3, p4⟩
        · omega
        · omega
        · obtain ⟨r1, r2, r3⟩ := hT.2.2.2.2 f k f' k' g1 (by rw [hc f' p1]; exact p2) (by omega)
          subst r1
          have fz := fsz_b F f'
          cases k with
          | zero =>
            refine ⟨1, Or.inl ⟨by rw [g2]; exact hT.1 f, rfl⟩, ?_⟩
            unfold Eg el
            rw [if_pos (by decide), g3, r3, p4]
            exact fml_mem n p1
          | succ k =>
            refine ⟨2 + 4 * f' + k, Or.inr (Or.inr ⟨f', k, p1, by omega, by rw [g2, r2], rfl⟩), ?_⟩
            unfold Eg el
            rw [if_neg (by omega), if_pos (by omega), show (2 + 4 * f' + k - 2) / 4 = f' by omega, show (2 + 4 * f' + k - 2) % 4 = k by omega, if_neg (by omega), if_pos ⟨p1, by omega⟩, g3, r3, p4]
            exact List.mem_singleton.mpr rfl
      · rw [g5] at h4
        have : 1 = t' := nI_59 (by omega) h3 h4
        have e1 := phI t' g' (by omega) hp
        have e2 : g' = 50 := by rw [e1, ← this]; rfl
        have fz := fsz_b F f
        rw [hc f g1] at g2
        refine ⟨2 + 4 * f + (fsz F f - 1), Or.inr (Or.inr ⟨f, fsz F f - 1, g1, by omega, by rw [show fsz F f - 1 + 1 = fsz F f by omega]; exact g2, rfl⟩), ?_⟩
        unfold Eg el
        rw [if_neg (by omega), if_pos (by omega), show (2 + 4 * f + (fsz F f - 1) - 2) / 4 = f by omega, show (2 + 4 * f + (fsz F f - 1) - 2) % 4 = fsz F f - 1 by omega, if_pos ⟨g1, by omega⟩, e2]
        exact dgl_mem 10 (by omega) (by omega)
  have A : ∀ t, t = 0 ↔ ∃ g, Phi n F W t g ∧ g = 1 := by
    intro t
    constructor
    · intro h; exact ⟨1, Or.inl ⟨h, rfl⟩, rfl⟩
    · rintro ⟨g, ⟨p1, _⟩ | ⟨p1, p2, p3⟩ | ⟨f, k, _, _, _, p4⟩, e⟩
      · exact p1
      · omega
      · omega
  intro j l st w u
  refine (Vn_ph (pr := prs s) (m := m) D1 D2 A j l st w 0 u).trans ?_
  constructor
  · rintro ⟨g, hp, h⟩
    have := phI 0 g (by omega) hp
    rw [show g = 1 from this] at h
    exact h
  · intro h
    exact ⟨1, Or.inl ⟨rfl, rfl⟩, h⟩
/-- the reference's start is as good as the place between -/
theorem VR_01 {n m : Nat} {F s : Nat → Nat} : ∀ l st w j u, VR n F s m (j + 1) l st w 0 u ↔ VR n F s m (j + 1) l st w 1 u := by
  intro l
  have hE : ∀ v g', Eg n F 0 v g' ↔ Eg n F 1 v g' := fun v g' => Iff.rfl
  induction l with
  | zero => intro st w j u; exact Iff.rfl
  | succ l ih =>
    intro st w j u
    show (_ ∨ _ ∨ _ ∨ _) ↔ (_ ∨ _ ∨ _ ∨ _)
    exact or_congr Iff.rfl (or_congr (ih _ _ _ _) (or_congr (ih _ _ _ _) Iff.rfl))
theorem WT_R {n q m j l st w : Nat} {F s : Nat → Nat} {N : Nat → Nat → Int32} (hn : n ≤ 12) (hF : ∀ j, F j ≤ 26) (h : gram n F q N) : WT q N s m (j + 1) l st w 0 ↔ WR n F s m (j + 1) l st w 0 := by
  unfold WT WR
  rw [Vn_ex, Vn_ex]
  exact exists_congr (fun u => (gram_V hn hF h _ _ _ _ u).trans (VR_01 _ _ _ _ _).symm)
