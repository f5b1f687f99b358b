def tdq (co D du : Nat → Nat) (t k : Nat) : Option Nat := if max t (co k) + D k ≤ du k then some (max t (co k) + D k) else none
theorem tdq_some {co D du : Nat → Nat} {t k u : Nat} : tdq co D du t k = some u ↔ u = max t (co k) + D k ∧ max t (co k) + D k ≤ du k := by
  unfold tdq
  constructor
  · intro h
    split at h
    · rename_i q; cases h; exact ⟨rfl, q⟩
    · cases h
  · rintro ⟨h1, h2⟩
    rw [if_pos h2, h1]
theorem tdq_none {co D du : Nat → Nat} {t k : Nat} : tdq co D du t k = none ↔ ¬ max t (co k) + D k ≤ du k := by
  unfold tdq
  constructor
  · intro h q
    rw [if_pos q] at h
    cases h
  · intro h
    rw [if_neg h]
theorem tdq_mn (co D du : Nat → Nat) : tmn (tdq co D du) := by
  intro t t' k u' h1 h2
  rw [tdq_some] at h2
  exact ⟨max t (co k) + D k, tdq_some.mpr ⟨rfl, by omega⟩, by omega⟩
/-- the greater of a number that may be, and one -/
def omx (p : Option Nat) (t : Nat) : Option Nat := match p with
  | none => some t
  | some a => if a < t then some t else some a
def ltE (co D du : Nat → Nat) (A : Nat → Option Nat) (S : Nat) : Nat → Option Nat
  | 0 => none
  | q + 1 => if S.testBit q = true then (match A (clr S q) with
      | none => ltE co D du A S q
      | some y => if co q + D q ≤ min y (du q) then omx (ltE co D du A S q) (min y (du q) - D q) else ltE co D du A S q) else ltE co D du A S q
theorem ltE_s (co D du : Nat → Nat) (A : Nat → Option Nat) (S q : Nat) : ltE co D du A S (q + 1) = if S.testBit q = true then (match A (clr S q) with
      | none => ltE co D du A S q
      | some y => if co q + D q ≤ min y (du q) then omx (ltE co D du A S q) (min y (du q) - D q) else ltE co D du A S q) else ltE co D du A S q := rfl
def fitL (co D du : Nat → Nat) (A : Nat → Option Nat) (S n t : Nat) : Prop := ∃ q, q < n ∧ S.testBit q = true ∧ ∃ y, A (clr S q) = some y ∧ co q + D q ≤ min y (du q) ∧ t + D q ≤ min y (du q)
theorem ltE_spec (co D du : Nat → Nat) (A : Nat → Option Nat) (S : Nat) : ∀ n t, (∃ x, ltE co D du A S n = some x ∧ t ≤ x) ↔ fitL co D du A S n t := by
  intro n
  induction n with
  | zero =>
    intro t
    exact ⟨fun ⟨x, hx, _⟩ => (by cases hx), fun ⟨q, hq, _⟩ => absurd hq (Nat.not_lt_zero _)⟩
  | succ n ih =>
    intro t
    have same : (¬ (S.testBit n = true ∧ ∃ y, A (clr S n) = some y ∧ co n + D n ≤ min y (du n))) → ((∃ x, ltE co D du A S n = some x ∧ t ≤ x) ↔ fitL co D du A S (n + 1) t) := by
      intro hz
      rw [ih t]
      constructor
      · rintro ⟨q, h1, h2⟩; exact ⟨q, by omega, h2⟩
      · rintro ⟨q, h1, h2, y, h3, h4, h5⟩
        by_cases e : q = n
        · subst e; exact absurd ⟨h2, y, h3, h4⟩ hz
        · exact ⟨q, by omega, h2, y, h3, h4, h5⟩
    rw [ltE_s]
    by_cases hb : S.testBit n = true
    · rw [if_pos hb]
      cases hA : A (clr S n) with
      | none => exact same (fun ⟨_, y, hy, _⟩ => by rw [hA] at hy; cases hy)
      | some y =>
        show (∃ x, (if co n + D n ≤ min y (du n) then omx (ltE co D du A S n) (min y (du n) - D n) else ltE co D du A S n) = some x ∧ t ≤ x) ↔ _
        by_cases hf : co n + D n ≤ min y (du n)
        · rw [if_pos hf]
          have key : (∃ x, omx (ltE co D du A S n) (min y (du n) - D n) = some x ∧ t ≤ x) ↔ ((∃ x, ltE co D du A S n = some x ∧ t ≤ x) ∨ t ≤ min y (du n) - D n) := by
            cases hl : ltE co D du A S n with
            | none =>
              constructor
              · rintro ⟨x, hx, ht⟩
                have hx : some (min y (du n) - D n) = some x := hx
                cases hx; exact Or.inr ht
              · rintro (⟨x, hx, _⟩ | ht)
                · cases hx
                · exact ⟨_, rfl, ht⟩
            | some a =>
              show (∃ x, (if a < min y (du n) - D n then some (min y (du n) - D n) else some a) = some x ∧ t ≤ x) ↔ _
              by_cases q : a < min y (du n) - D n
              · rw [if_pos q]
                constructor
                · rintro ⟨x, hx, ht⟩
                  cases hx; exact Or.inr ht
                · rintro (⟨x, hx, ht⟩ | ht)
                  · cases hx; exact ⟨_, rfl, by omega⟩
                  · exact ⟨_, rfl, ht⟩
              · rw [if_neg q]
                constructor
                · rintro ⟨x, hx, ht⟩
                  cases hx; exact Or.inl ⟨_, rfl, ht⟩
                · rintro (⟨x, hx, ht⟩ | ht)
                  · cases hx; exact ⟨_, rfl, ht⟩
                  · exact ⟨_, rfl, by omega⟩
          rw [key, ih t]
          constructor
          · rintro (⟨q, h1, h2⟩ | ht)
            · exact ⟨q, by omega, h2⟩
            · exact ⟨n, by omega, hb, y, hA, hf, by omega⟩
          · rintro ⟨q, h1, h2, y', h3, h4, h5⟩
            by_cases e : q = n
            · subst e
              rw [hA] at h3; cases h3
              exact Or.inr (by omega)
            · exact Or.inl ⟨q, by omega, h2, y', h3, h4, h5⟩
        · rw [if_neg hf]
          exact same (fun ⟨_, y', hy, h⟩ => by rw [hA] at hy; cases hy; exact hf h)
    · rw [if_neg hb]
      exact same (fun h => hb h.1)
theorem ltE_congr {co D du : Nat → Nat} {A A' : Nat → Option Nat} {S : Nat} (h : ∀ q, S.testBit q = true → A (clr S q) = A' (clr S q)) : ∀ n, ltE co D du A S n = ltE co D du A' S n := by
  intro n
  induction n with
  | zero => rfl
  | succ n ih =>
    rw [ltE_s, ltE_s, ih]
    by_cases q : S.testBit n = true
    · rw [if_pos q, if_pos q, h n q]
    · rw [if_neg q, if_neg q]
def ltb (co D du : Nat → Nat) (N e : Nat) : Nat → Nat → Option Nat
  | 0 => fun _ => none
  | S + 1 => fun x => if x = S then (if S = 0 then some e else ltE co D du (ltb co D du N e S) S N) else ltb co D du N e S x
/-- the last minute from which on a set can still be done by e -/
def Le (co D du : Nat → Nat) (N e S : Nat) : Option Nat := ltb co D du N e (S + 1) S
theorem ltb_lt {co D du : Nat → Nat} {N e : Nat} : ∀ S x, x < S → ltb co D du N e S x = Le co D du N e x := by
  intro S
  induction S with
  | zero => intro x hx; omega
  | succ S ih =>
    intro x hx
    by_cases q : x = S
    · rw [q]; rfl
    · show (if x = S then (if S = 0 then some e else ltE co D du (ltb co D du N e S) S N) else ltb co D du N e S x) = _
      rw [if_neg q]
      exact ih x (by omega)
theorem Le_0 (co D du : Nat → Nat) (N e : Nat) : Le co D du N e 0 = some e := rfl
theorem Le_s {co D du : Nat → Nat} {N e S : Nat} (h : ¬ S = 0) : Le co D du N e S = ltE co D du (Le co D du N e) S N := by
  show (if S = S then (if S = 0 then some e else ltE co D du (ltb co D du N e S) S N) else ltb co D du N e S S) = _
  rw [if_pos rfl, if_neg h]
  exact ltE_congr (fun q hq => ltb_lt S _ (clr_lt hq)) N
theorem Le_R {co D du : Nat → Nat} {N e : Nat} : ∀ S t, (∃ x, Le co D du N e S = some x ∧ t ≤ x) ↔ Rr (tdq co D du) N t S e := by
  intro S
  induction S using Nat.strongRecOn with
  | _ S ih =>
    intro t
    by_cases h0 : S = 0
    · subst h0
      rw [Rr_0, Le_0]
      exact ⟨fun ⟨x, hx, h⟩ => by cases hx; exact h, fun h => ⟨e, rfl, h⟩⟩
    · rw [Le_s h0, ltE_spec, Rr_first (tdq_mn co D du) h0]
      constructor
      · rintro ⟨q, h1, h2, y, h3, h4, h5⟩
        refine ⟨q, h1, h2, max t (co q) + D q, tdq_some.mpr ⟨rfl, by omega⟩, ?_⟩
        exact (ih _ (clr_lt h2) _).mp ⟨y, h3, by omega⟩
      · rintro ⟨q, h1, h2, t', h3, h4⟩
        obtain ⟨y, hy, hle⟩ := (ih _ (clr_lt h2) _).mpr h4
        rw [tdq_some] at h3
        exact ⟨q, h1, h2, y, hy, by omega, by omega⟩
/-- may q be told next -/
def nxt (co D du : Nat → Nat) (N e t S q : Nat) : Prop := S.testBit q = true ∧ max t (co q) + D q ≤ du q ∧ Rr (tdq co D du) N (max t (co q) + D q) (clr S q) e
/-- q is the first that may -/
def isN (co D du : Nat → Nat) (N e t S q : Nat) : Prop := q < N ∧ nxt co D du N e t S q ∧ ∀ r, r < q → ¬ nxt co D du N e t S r
theorem isN.uniq {co D du : Nat → Nat} {N e t S q q' : Nat} (h : isN co D du N e t S q) (h' : isN co D du N e t S q') : q = q' := by
  rcases Nat.lt_trichotomy q q' with w | w | w
  · exact absurd h.2.1 (h'.2.2 q w)
  · exact w
  · exact absurd h'.2.1 (h.2.2 q' w)
theorem isN_ex {co D du : Nat → Nat} {N e t S : Nat} (h0 : ¬ S = 0) (h : Rr (tdq co D du) N t S e) : ∃ q, isN co D du N e t S q := by
  obtain ⟨k, h1, h2, t', h3, h4⟩ := (Rr_first (tdq_mn co D du) h0).mp h
  rw [tdq_some] at h3
  have hk : nxt co D du N e t S k := ⟨h2, h3.2, by rw [← h3.1]; exact h4⟩
  obtain ⟨q, hq, hm⟩ := pk_least (fun q => nxt co D du N e t S q) ⟨k, hk⟩
  refine ⟨q, ?_, hq, hm⟩
  rcases Nat.lt_or_ge k q with w | w
  · exact absurd hk (hm k w)
  · omega
/-- l is the order from t on of the set S -/
def isO (co D du : Nat → Nat) (N e : Nat) : Nat → Nat → List Nat → Prop
  | _, S, [] => S = 0
  | t, S, q :: l => ¬ S = 0 ∧ isN co D du N e t S q ∧ isO co D du N e (max t (co q) + D q) (clr S q) l
theorem isO_ex {co D du : Nat → Nat} {N e : Nat} : ∀ S t, Rr (tdq co D du) N t S e → ∃ l, isO co D du N e t S l := by
  intro S
  induction S using Nat.strongRecOn with
  | _ S ih =>
    intro t h
    by_cases h0 : S = 0
    · exact ⟨[], h0⟩
    · obtain ⟨q, hq⟩ := isN_ex h0 h
      obtain ⟨l, hl⟩ := ih _ (clr_lt hq.2.1.1) _ hq.2.1.2.2
      exact ⟨q :: l, h0, hq, hl⟩
theorem isO_len {co D du : Nat → Nat} {N e : Nat} (hN : N ≤ 12) : ∀ (l : List Nat) (S t : Nat), isO co D du N e t S l → l.length = on1 S 12 := by
  intro l
  induction l with
  | nil =>
    intro S t h
    have h : S = 0 := h
    subst h
    have : ∀ k, on1 0 k = 0 := by
      intro k
      induction k with
      | zero => rfl
      | succ k ih => rw [on1_s, ih, Nat.zero_testBit]; rfl
    rw [this 12]; rfl
  | cons q l ih =>
    intro S t h
    obtain ⟨-, hq, hl⟩ := h
    have e := ih _ _ hl
    have hb := hq.2.1.1
    have hqN := hq.1
    have key : ∀ k, on1 S k = on1 (clr S q) k + (if q < k then 1 else 0) := by
      intro k
      induction k with
      | zero => rw [if_neg (by omega)]; rfl
      | succ k ih =>
        rw [on1_s, on1_s, ih, clr_tb]
        by_cases z : q = k
        · subst z
          rw [if_neg (by omega), if_pos (by omega), hb]
          simp
        · by_cases z2 : q < k
          · rw [if_pos z2, if_pos (show q < k + 1 by omega)]
            simp [z]
            omega
          · rw [if_neg z2, if_neg (show ¬ q < k + 1 by omega)]
            simp [z]
    rw [key 12, if_pos (by omega), ← e]
    rfl
