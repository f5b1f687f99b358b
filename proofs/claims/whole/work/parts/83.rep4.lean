/-! repairs: what is meant -/
/-- with l slips, st steps lost, the wheel w, from g: B where a sign is printed -/
def Wi (E : Nat → Nat → Nat → Prop) (B : Nat → Nat → Nat → Nat → Prop) : Nat → Nat → Nat → Nat → Prop
  | 0, st, w, g => B 0 st w g
  | l + 1, st, w, g => B (l + 1) st w g ∨ Wi E B l ((st + 1) % 28) w g ∨ Wi E B l st (1 - w) g ∨ ∃ v g', E g v g' ∧ Wi E B l st w g'
/-- j signs of the row are left -/
def Wn (E : Nat → Nat → Nat → Prop) (acc : Nat → Prop) (pr : Nat → Nat → Nat → Nat → Prop) (m : Nat) : Nat → Nat → Nat → Nat → Nat → Prop
  | 0 => fun _ _ _ g => acc g
  | j + 1 => Wi E (fun l st w g => ∃ v g', E g v g' ∧ pr (m - (j + 1)) st w v ∧ Wn E acc pr m j l st w g')
theorem Wi_s (E : Nat → Nat → Nat → Prop) (B : Nat → Nat → Nat → Nat → Prop) (l st w g : Nat) : Wi E B (l + 1) st w g ↔ (B (l + 1) st w g ∨ Wi E B l ((st + 1) % 28) w g ∨ Wi E B l st (1 - w) g ∨ ∃ v g', E g v g' ∧ Wi E B l st w g') := Iff.rfl
theorem Wi_mono {E : Nat → Nat → Nat → Prop} {B : Nat → Nat → Nat → Nat → Prop} (hB : ∀ l st w g, B l st w g → B (l + 1) st w g) : ∀ l st w g, Wi E B l st w g → Wi E B (l + 1) st w g := by
  intro l
  induction l with
  | zero => intro st w g h; exact Or.inl (hB 0 st w g h)
  | succ l ih =>
    intro st w g h
    rcases h with h | h | h | ⟨v, g', h1, h⟩
    · exact Or.inl (hB _ st w g h)
    · exact Or.inr (Or.inl (ih _ _ _ h))
    · exact Or.inr (Or.inr (Or.inl (ih _ _ _ h)))
    · exact Or.inr (Or.inr (Or.inr ⟨v, g', h1, ih _ _ _ h⟩))
theorem Wn_mono {E : Nat → Nat → Nat → Prop} {acc : Nat → Prop} {pr : Nat → Nat → Nat → Nat → Prop} {m : Nat} : ∀ j l st w g, Wn E acc pr m j l st w g → Wn E acc pr m j (l + 1) st w g := by
  intro j
  induction j with
  | zero => intro l st w g h; exact h
  | succ j ih => exact Wi_mono (fun l st w g ⟨v, g', h1, h2, h3⟩ => ⟨v, g', h1, h2, ih l st w g' h3⟩)
theorem mono_le {P : Nat → Prop} (h : ∀ l, P l → P (l + 1)) {a b : Nat} (hab : a ≤ b) (ha : P a) : P b := by
  induction b with
  | zero => rw [show a = 0 by omega] at ha; exact ha
  | succ b ih =>
    by_cases q : a = b + 1
    · rw [← q]; exact ha
    · exact h b (ih (by omega))
/-- V holds the fewest slips, if six at most -/
def vOK (V : Nat → Nat → Nat → Nat) (P : Nat → Nat → Nat → Nat → Prop) : Prop := ∀ st w g, st < 28 → w < 2 → g < 60 → (V st w g ≤ 6 ∨ V st w g = 1000) ∧ ∀ l, l ≤ 6 → (V st w g ≤ l ↔ P l st w g)
def vSnd (E : Nat → Nat → Nat → Prop) (B : Nat → Nat → Nat → Nat → Prop) (V : Nat → Nat → Nat → Nat) : Prop := ∀ st w g, st < 28 → w < 2 → g < 60 → (V st w g ≤ 6 ∨ V st w g = 1000) ∧ ∀ l, l ≤ 6 → V st w g ≤ l → Wi E B l st w g
def vCmp (B : Nat → Nat → Nat → Nat → Prop) (V : Nat → Nat → Nat → Nat) : Prop := ∀ st w g, st < 28 → w < 2 → g < 60 → ∀ l, l ≤ 6 → B l st w g → V st w g ≤ l
def nbr (E : Nat → Nat → Nat → Prop) (V : Nat → Nat → Nat → Nat) (st w g x : Nat) : Prop := x = V ((st + 1) % 28) w g ∨ x = V st (1 - w) g ∨ ∃ v g', E g v g' ∧ x = V st w g'
theorem v_done {E : Nat → Nat → Nat → Prop} {B : Nat → Nat → Nat → Nat → Prop} {V : Nat → Nat → Nat → Nat} (hE : ∀ g v g', g < 60 → E g v g' → g' < 60) (h1 : vSnd E B V) (h2 : vCmp B V) (h3 : ∀ st w g x, st < 28 → w < 2 → g < 60 → nbr E V st w g x → x < 6 → V st w g ≤ x + 1) : vOK V (Wi E B) := by
  have key : ∀ l, l ≤ 6 → ∀ st w g, st < 28 → w < 2 → g < 60 → Wi E B l st w g → V st w g ≤ l := by
    intro l
    induction l with
    | zero => intro _ st w g a1 a2 a3 h; exact h2 st w g a1 a2 a3 0 (by decide) h
    | succ l ih =>
      intro hl st w g a1 a2 a3 h
      have ih := ih (by omega)
      rcases h with h | h | h | ⟨v, g', e, h⟩
      · exact h2 st w g a1 a2 a3 _ hl h
      · have := ih _ _ _ (Nat.mod_lt _ (by decide)) a2 a3 h
        have := h3 st w g _ a1 a2 a3 (Or.inl rfl) (by omega)
        omega
      · have := ih _ _ _ a1 (by omega) a3 h
        have := h3 st w g _ a1 a2 a3 (Or.inr (Or.inl rfl)) (by omega)
        omega
      · have := ih _ _ _ a1 a2 (hE g v g' a3 e) h
        have := h3 st w g _ a1 a2 a3 (Or.inr (Or.inr ⟨v, g', e, rfl⟩)) (by omega)
        omega
  exact fun st w g a1 a2 a3 => ⟨(h1 st w g a1 a2 a3).1, fun l hl => ⟨(h1 st w g a1 a2 a3).2 l hl, key l hl st w g a1 a2 a3⟩⟩
def up3 (V : Nat → Nat → Nat → Nat) (st w g x : Nat) : Nat → Nat → Nat → Nat := fun a b c => if a = st ∧ b = w ∧ c = g then x else V a b c
theorem v_step {E : Nat → Nat → Nat → Prop} {B : Nat → Nat → Nat → Nat → Prop} {V : Nat → Nat → Nat → Nat} {st w g x : Nat} (hB : ∀ l st w g, B l st w g → B (l + 1) st w g) (hE : ∀ g v g', g < 60 → E g v g' → g' < 60) (a1 : st < 28) (a2 : w < 2) (a3 : g < 60) (h1 : vSnd E B V) (h2 : vCmp B V) (hx : nbr E V st w g x) (hx6 : x < 6) (hlt : x + 1 < V st w g) : vSnd E B (up3 V st w g (x + 1)) ∧ vCmp B (up3 V st w g (x + 1)) := by
  have hW : Wi E B (x + 1) st w g := by
    rcases hx with e | e | ⟨v, g', e1, e⟩
    · exact Or.inr (Or.inl ((h1 _ _ _ (Nat.mod_lt _ (by decide)) a2 a3).2 x (by omega) (by omega)))
    · exact Or.inr (Or.inr (Or.inl ((h1 _ _ _ a1 (by omega) a3).2 x (by omega) (by omega))))
    · exact Or.inr (Or.inr (Or.inr ⟨v, g', e1, (h1 _ _ _ a1 a2 (hE g v g' a3 e1)).2 x (by omega) (by omega)⟩))
  constructor
  · intro a b c b1 b2 b3
    unfold up3
    by_cases q : a = st ∧ b = w ∧ c = g
    · rw [if_pos q]
      refine ⟨Or.inl (by omega), fun l hl hle => ?_⟩
      obtain ⟨q1, q2, q3⟩ := q
      subst q1; subst q2; subst q3
      exact mono_le (P := fun l => Wi E B l a b c) (fun l h => Wi_mono hB l a b c h) hle hW
    · rw [if_neg q]; exact h1 a b c b1 b2 b3
  · intro a b c b1 b2 b3 l hl hb
    unfold up3
    by_cases q : a = st ∧ b = w ∧ c = g
    · rw [if_pos q]
      obtain ⟨q1, q2, q3⟩ := q
      subst q1; subst q2; subst q3
      have := h2 a b c b1 b2 b3 l hl hb
      omega
    · rw [if_neg q]; exact h2 a b c b1 b2 b3 l hl hb
/-- a sum, for counting down -/
def sm (f : Nat → Nat) : Nat → Nat
  | 0 => 0
  | k + 1 => sm f k + f k
theorem sm_congr {f f' : Nat → Nat} : ∀ n, (∀ k, k < n → f k = f' k) → sm f n = sm f' n := by
  intro n
  induction n with
  | zero => intro _; rfl
  | succ n ih =>
    intro h
    show sm f n + f n = sm f' n + f' n
    rw [ih (fun k hk => h k (by omega)), h n (by omega)]
theorem sm_lt {f f' : Nat → Nat} {k : Nat} : ∀ n, k < n → f' k < f k → (∀ j, j < n → j ≠ k → f' j = f j) → sm f' n < sm f n := by
  intro n
  induction n with
  | zero => intro h; omega
  | succ n ih =>
    intro hk hlt h
    show sm f' n + f' n < sm f n + f n
    by_cases q : k = n
    · subst q
      rw [sm_congr (f := f') (f' := f) k (fun j hj => h j (by omega) (by omega))]
      omega
    · have := ih (by omega) hlt (fun j hj hne => h j (by omega) hne)
      have := h n (by omega) (fun z => q z.symm)
      omega
def sV (V : Nat → Nat → Nat → Nat) : Nat := sm (fun k => V (k / 120) (k / 60 % 2) (k % 60)) 3360
theorem sV_lt {V : Nat → Nat → Nat → Nat} {st w g x : Nat} (a1 : st < 28) (a2 : w < 2) (a3 : g < 60) (h : x < V st w g) : sV (up3 V st w g x) < sV V := by
  refine sm_lt (k := 120 * st + 60 * w + g) 3360 (by omega) ?_ (fun j hj hne => ?_)
  · show up3 V st w g x ((120 * st + 60 * w + g) / 120) ((120 * st + 60 * w + g) / 60 % 2) ((120 * st + 60 * w + g) % 60) < V ((120 * st + 60 * w + g) / 120) ((120 * st + 60 * w + g) / 60 % 2) ((120 * st + 60 * w + g) % 60)
    rw [show (120 * st + 60 * w + g) / 120 = st by omega, show (120 * st + 60 * w + g) / 60 % 2 = w by omega, show (120 * st + 60 * w + g) % 60 = g by omega]
    unfold up3
    rw [if_pos ⟨rfl, rfl, rfl⟩]
    exact h
  · show up3 V st w g x (j / 120) (j / 60 % 2) (j % 60) = V (j / 120) (j / 60 % 2) (j % 60)
    unfold up3
    rw [if_neg (by omega)]
