/-! repairs: the words that a row may have been -/
def Vi (E : Nat → Nat → Nat → Prop) (B : Nat → Nat → Nat → Nat → List Nat → Prop) : Nat → Nat → Nat → Nat → List Nat → Prop
  | 0, st, w, g, u => B 0 st w g u
  | l + 1, st, w, g, u => B (l + 1) st w g u ∨ Vi E B l ((st + 1) % 28) w g u ∨ Vi E B l st (1 - w) g u ∨ ∃ v g' u', u = v :: u' ∧ E g v g' ∧ Vi E B l st w g' u'
/-- u can be written from g, with j signs of the row left and l slips -/
def Vn (E : Nat → Nat → Nat → Prop) (acc : Nat → Prop) (pr : Nat → Nat → Nat → Nat → Prop) (m : Nat) : Nat → Nat → Nat → Nat → Nat → List Nat → Prop
  | 0 => fun _ _ _ g u => acc g ∧ u = []
  | j + 1 => Vi E (fun l st w g u => ∃ v g' u', u = v :: u' ∧ E g v g' ∧ pr (m - (j + 1)) st w v ∧ Vn E acc pr m j l st w g' u')
theorem Vi_ex {E : Nat → Nat → Nat → Prop} {B : Nat → Nat → Nat → Nat → List Nat → Prop} {B' : Nat → Nat → Nat → Nat → Prop} (hB : ∀ l st w g, B' l st w g ↔ ∃ u, B l st w g u) : ∀ l st w g, Wi E B' l st w g ↔ ∃ u, Vi E B l st w g u := by
  intro l
  induction l with
  | zero => intro st w g; exact hB 0 st w g
  | succ l ih =>
    intro st w g
    constructor
    · rintro (h | h | h | ⟨v, g', h1, h⟩)
      · obtain ⟨u, hu⟩ := (hB _ st w g).mp h
        exact ⟨u, Or.inl hu⟩
      · obtain ⟨u, hu⟩ := (ih _ _ _).mp h
        exact ⟨u, Or.inr (Or.inl hu)⟩
      · obtain ⟨u, hu⟩ := (ih _ _ _).mp h
        exact ⟨u, Or.inr (Or.inr (Or.inl hu))⟩
      · obtain ⟨u, hu⟩ := (ih _ _ _).mp h
        exact ⟨v :: u, Or.inr (Or.inr (Or.inr ⟨v, g', u, rfl, h1, hu⟩))⟩
    · rintro ⟨u, h | h | h | ⟨v, g', u', _, h1, h⟩⟩
      · exact Or.inl ((hB _ st w g).mpr ⟨u, h⟩)
      · exact Or.inr (Or.inl ((ih _ _ _).mpr ⟨u, h⟩))
      · exact Or.inr (Or.inr (Or.inl ((ih _ _ _).mpr ⟨u, h⟩)))
      · exact Or.inr (Or.inr (Or.inr ⟨v, g', h1, (ih _ _ _).mpr ⟨u', h⟩⟩))
theorem Vn_ex {E : Nat → Nat → Nat → Prop} {acc : Nat → Prop} {pr : Nat → Nat → Nat → Nat → Prop} {m : Nat} : ∀ j l st w g, Wn E acc pr m j l st w g ↔ ∃ u, Vn E acc pr m j l st w g u := by
  intro j
  induction j with
  | zero => intro l st w g; exact ⟨fun h => ⟨[], h, rfl⟩, fun ⟨u, h, _⟩ => h⟩
  | succ j ih =>
    exact Vi_ex (fun l st w g => ⟨fun ⟨v, g', h1, h2, h3⟩ => by
      obtain ⟨u, hu⟩ := (ih _ _ _ _).mp h3
      exact ⟨v :: u, v, g', u, rfl, h1, h2, hu⟩, fun ⟨u, v, g', u', _, h1, h2, h3⟩ => ⟨v, g', h1, h2, (ih _ _ _ _).mpr ⟨u', h3⟩⟩⟩)
theorem Vi_mono {E : Nat → Nat → Nat → Prop} {B : Nat → Nat → Nat → Nat → List Nat → Prop} (hB : ∀ l st w g u, B l st w g u → B (l + 1) st w g u) : ∀ l st w g u, Vi E B l st w g u → Vi E B (l + 1) st w g u := by
  intro l
  induction l with
  | zero => intro st w g u h; exact Or.inl (hB 0 st w g u h)
  | succ l ih =>
    intro st w g u h
    rcases h with h | h | h | ⟨v, g', u', h0, h1, h⟩
    · exact Or.inl (hB _ st w g u h)
    · exact Or.inr (Or.inl (ih _ _ _ _ h))
    · exact Or.inr (Or.inr (Or.inl (ih _ _ _ _ h)))
    · exact Or.inr (Or.inr (Or.inr ⟨v, g', u', h0, h1, ih _ _ _ _ h⟩))
theorem Vn_mono {E : Nat → Nat → Nat → Prop} {acc : Nat → Prop} {pr : Nat → Nat → Nat → Nat → Prop} {m : Nat} : ∀ j l st w g u, Vn E acc pr m j l st w g u → Vn E acc pr m j (l + 1) st w g u := by
  intro j
  induction j with
  | zero => intro l st w g u h; exact h
  | succ j ih => exact Vi_mono (fun l st w g u ⟨v, g', u', h0, h1, h2, h3⟩ => ⟨v, g', u', h0, h1, h2, ih l st w g' u' h3⟩)
theorem Vn_nil {E : Nat → Nat → Nat → Prop} {acc : Nat → Prop} {pr : Nat → Nat → Nat → Nat → Prop} {m j : Nat} : ∀ l st w g, ¬ Vn E acc pr m (j + 1) l st w g [] := by
  intro l
  induction l with
  | zero => rintro st w g ⟨v, g', u', h, _⟩; cases h
  | succ l ih =>
    rintro st w g (⟨v, g', u', h, _⟩ | h | h | ⟨v, g', u', h, _⟩)
    · cases h
    · exact ih _ _ _ h
    · exact ih _ _ _ h
    · cases h
theorem Vn_len {E : Nat → Nat → Nat → Prop} {acc : Nat → Prop} {pr : Nat → Nat → Nat → Nat → Prop} {m : Nat} : ∀ j l st w g u, Vn E acc pr m j l st w g u → u.length ≤ j + l := by
  intro j
  induction j with
  | zero => rintro l st w g u ⟨_, h⟩; rw [h]; exact Nat.zero_le _
  | succ j ih =>
    intro l
    induction l with
    | zero =>
      rintro st w g u ⟨v, g', u', h, _, _, h3⟩
      have := ih 0 _ _ _ _ h3
      rw [h, List.length_cons]
      omega
    | succ l ihl =>
      rintro st w g u (⟨v, g', u', h, _, _, h3⟩ | h | h | ⟨v, g', u', h, _, h3⟩)
      · have := ih _ _ _ _ _ h3
        rw [h, List.length_cons]
        omega
      · have := ihl _ _ _ _ h; omega
      · have := ihl _ _ _ _ h; omega
      · have := ihl _ _ _ _ h3
        rw [h, List.length_cons]
        omega
/-- in order, a beginning ahead of what goes on -/
def lle : List Nat → List Nat → Prop
  | [], _ => True
  | _ :: _, [] => False
  | a :: x, b :: y => a < b ∨ (a = b ∧ lle x y)
theorem lle_anti : ∀ x y, lle x y → lle y x → x = y := by
  intro x
  induction x with
  | nil => intro y _ h; cases y with
    | nil => rfl
    | cons b y => exact h.elim
  | cons a x ih =>
    intro y h h'
    cases y with
    | nil => exact h.elim
    | cons b y =>
      rcases h with h | ⟨h1, h2⟩
      · rcases h' with h' | ⟨h3, _⟩ <;> omega
      · rcases h' with h' | ⟨_, h4⟩
        · omega
        · rw [h1, ih y h2 h4]
/-- u is the first of the words -/
def lst (X : List Nat → Prop) (u : List Nat) : Prop := X u ∧ ∀ u', X u' → lle u u'
theorem lst.uniq {X : List Nat → Prop} {u u' : List Nat} (h : lst X u) (h' : lst X u') : u = u' := lle_anti u u' (h.2 u' h'.1) (h'.2 u h.1)
theorem lst_nil {X : List Nat → Prop} (h : X []) : lst X [] := ⟨h, fun _ _ => trivial⟩
theorem lst_cons {X : List Nat → Prop} {v : Nat} {u : List Nat} (h0 : ¬ X []) (h1 : lst (fun x => X (v :: x)) u) (h2 : ∀ v' x, X (v' :: x) → v ≤ v') : lst X (v :: u) := by
  refine ⟨h1.1, fun u' hu' => ?_⟩
  cases u' with
  | nil => exact absurd hu' h0
  | cons v' x =>
    have := h2 v' x hu'
    by_cases q : v = v'
    · subst q; exact Or.inr ⟨rfl, h1.2 x hu'⟩
    · exact Or.inl (by omega)
theorem lst_congr {X Y : List Nat → Prop} {u : List Nat} (e : ∀ x, X x ↔ Y x) (h : lst X u) : lst Y u := ⟨(e u).mp h.1, fun u' hu' => h.2 u' ((e u').mpr hu')⟩
