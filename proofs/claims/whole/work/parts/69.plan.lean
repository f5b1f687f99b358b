/-! the most in time: what is meant -/
def isMn (X : Option Nat) (C : Nat → Prop) : Prop := (∀ t, C t → ∃ a, X = some a ∧ a ≤ t) ∧ ∀ a, X = some a → C a
theorem isMn.uniq {X Y : Option Nat} {C : Nat → Prop} (h : isMn X C) (h' : isMn Y C) : X = Y := by
  cases e : X with
  | none =>
    cases e' : Y with
    | none => rfl
    | some b =>
      obtain ⟨a, ha, -⟩ := h.1 b (h'.2 b e')
      rw [e] at ha; cases ha
  | some a =>
    cases e' : Y with
    | none =>
      obtain ⟨b, hb, -⟩ := h'.1 a (h.2 a e)
      rw [e'] at hb; cases hb
    | some b =>
      obtain ⟨a', ha, h1⟩ := h.1 b (h'.2 b e')
      obtain ⟨b', hb, h2⟩ := h'.1 a (h.2 a e)
      rw [e] at ha; cases ha
      rw [e'] at hb; cases hb
      rw [Nat.le_antisymm h1 h2]
/-- the smaller of a number that may be, and one -/
def omn (p : Option Nat) (t : Nat) : Option Nat := match p with
  | none => some t
  | some a => if t < a then some t else some a
theorem isMn.add {p : Option Nat} {C : Nat → Prop} {t : Nat} (h : isMn p C) : isMn (omn p t) (fun x => C x ∨ x = t) := by
  cases p with
  | none =>
    refine ⟨fun x hx => ?_, fun a ha => ?_⟩
    · rcases hx with hx | hx
      · obtain ⟨a, ha, -⟩ := h.1 x hx; cases ha
      · exact ⟨t, rfl, by omega⟩
    · have ha : some t = some a := ha
      cases ha; exact Or.inr rfl
  | some b =>
    show isMn (if t < b then some t else some b) (fun x => C x ∨ x = t)
    by_cases q : t < b
    · rw [if_pos q]
      refine ⟨fun x hx => ?_, fun a ha => ?_⟩
      · rcases hx with hx | hx
        · obtain ⟨a, ha, h1⟩ := h.1 x hx; cases ha; exact ⟨t, rfl, by omega⟩
        · exact ⟨t, rfl, by omega⟩
      · cases ha; exact Or.inr rfl
    · rw [if_neg q]
      refine ⟨fun x hx => ?_, fun a ha => ?_⟩
      · rcases hx with hx | hx
        · obtain ⟨a, ha, h1⟩ := h.1 x hx; cases ha; exact ⟨b, rfl, h1⟩
        · exact ⟨b, rfl, by omega⟩
      · cases ha; exact Or.inl (h.2 b rfl)
theorem isMn.congr {p : Option Nat} {C C' : Nat → Prop} (h : isMn p C) (e : ∀ x, C x ↔ C' x) : isMn p C' := ⟨fun t ht => h.1 t ((e t).mpr ht), fun a ha => (e a).mp (h.2 a ha)⟩
def mnE (td : Nat → Nat → Option Nat) (A : Nat → Option Nat) (S : Nat) : Nat → Option Nat
  | 0 => none
  | k + 1 => if S.testBit k = true then (match A (clr S k) with
      | none => mnE td A S k
      | some u => match td u k with
        | none => mnE td A S k
        | some t => omn (mnE td A S k) t) else mnE td A S k
theorem mnE_s (td : Nat → Nat → Option Nat) (A : Nat → Option Nat) (S k : Nat) : mnE td A S (k + 1) = if S.testBit k = true then (match A (clr S k) with
      | none => mnE td A S k
      | some u => match td u k with
        | none => mnE td A S k
        | some t => omn (mnE td A S k) t) else mnE td A S k := rfl
def can (td : Nat → Nat → Option Nat) (A : Nat → Option Nat) (S n t : Nat) : Prop := ∃ k, k < n ∧ S.testBit k = true ∧ ∃ u, A (clr S k) = some u ∧ td u k = some t
theorem mnE_min (td : Nat → Nat → Option Nat) (A : Nat → Option Nat) (S : Nat) : ∀ n, isMn (mnE td A S n) (can td A S n) := by
  intro n
  induction n with
  | zero => exact ⟨fun t ⟨k, hk, _⟩ => absurd hk (Nat.not_lt_zero _), fun a ha => by cases ha⟩
  | succ n ih =>
    have same : (∀ t, ¬ (S.testBit n = true ∧ ∃ u, A (clr S n) = some u ∧ td u n = some t)) → isMn (mnE td A S n) (can td A S (n + 1)) := by
      intro hz
      refine ih.congr (fun x => ⟨fun ⟨k, h1, h2⟩ => ⟨k, by omega, h2⟩, fun ⟨k, h1, h2⟩ => ⟨k, ?_, h2⟩⟩)
      by_cases q : k = n
      · subst q; exact absurd h2 (hz x)
      · omega
    rw [mnE_s]
    by_cases q : S.testBit n = true
    · rw [if_pos q]
      cases hA : A (clr S n) with
      | none => exact same (fun t ⟨_, u, hu, _⟩ => by rw [hA] at hu; cases hu)
      | some u =>
        show isMn (match td u n with
          | none => mnE td A S n
          | some t => omn (mnE td A S n) t) (can td A S (n + 1))
        cases ht : td u n with
        | none => exact same (fun t ⟨_, u', hu, ht'⟩ => by rw [hA] at hu; cases hu; rw [ht] at ht'; cases ht')
        | some t =>
          refine ih.add.congr (fun x => ⟨fun hx => ?_, fun ⟨k, h1, h2, u', h3, h4⟩ => ?_⟩)
          · rcases hx with ⟨k, h1, h2⟩ | hx
            · exact ⟨k, by omega, h2⟩
            · exact ⟨n, by omega, q, u, hA, by rw [hx]; exact ht⟩
          · by_cases e : k = n
            · subst e
              rw [hA] at h3; cases h3
              rw [ht] at h4; cases h4
              exact Or.inr rfl
            · exact Or.inl ⟨k, by omega, h2, u', h3, h4⟩
    · rw [if_neg q]
      exact same (fun t h => q h.1)
theorem mnE_congr {td : Nat → Nat → Option Nat} {A A' : Nat → Option Nat} {S : Nat} (h : ∀ x, x < S → A x = A' x) : ∀ n, mnE td A S n = mnE td A' S n := by
  intro n
  induction n with
  | zero => rfl
  | succ n ih =>
    rw [mnE_s, mnE_s, ih]
    by_cases q : S.testBit n = true
    · rw [if_pos q, if_pos q, h _ (clr_lt q)]
    · rw [if_neg q, if_neg q]
/-- the table of the first minutes at which sets can be done -/
def tbl (td : Nat → Nat → Option Nat) (N f : Nat) : Nat → Nat → Option Nat
  | 0 => fun _ => none
  | S + 1 => fun x => if x = S then (if S = 0 then some f else mnE td (tbl td N f S) S N) else tbl td N f S x
def Ee (td : Nat → Nat → Option Nat) (N f S : Nat) : Option Nat := tbl td N f (S + 1) S
theorem tbl_lt {td : Nat → Nat → Option Nat} {N f : Nat} : ∀ S x, x < S → tbl td N f S x = Ee td N f x := by
  intro S
  induction S with
  | zero => intro x hx; omega
  | succ S ih =>
    intro x hx
    by_cases q : x = S
    · rw [q]; rfl
    · show (if x = S then (if S = 0 then some f else mnE td (tbl td N f S) S N) else tbl td N f S x) = _
      rw [if_neg q]
      exact ih x (by omega)
theorem Ee_0 (td : Nat → Nat → Option Nat) (N f : Nat) : Ee td N f 0 = some f := rfl
theorem Ee_s {td : Nat → Nat → Option Nat} {N f S : Nat} (h : ¬ S = 0) : Ee td N f S = mnE td (Ee td N f) S N := by
  show (if S = S then (if S = 0 then some f else mnE td (tbl td N f S) S N) else tbl td N f S S) = _
  rw [if_pos rfl, if_neg h]
  exact mnE_congr (fun x hx => tbl_lt S x hx) N
/-- told one after another -/
def rns (td : Nat → Nat → Option Nat) : Nat → List Nat → Option Nat
  | t, [] => some t
  | t, k :: l => match td t k with
    | none => none
    | some t' => rns td t' l
theorem rns_c {td : Nat → Nat → Option Nat} {t k t' : Nat} {l : List Nat} (h : td t k = some t') : rns td t (k :: l) = rns td t' l := by
  show (match td t k with
    | none => none
    | some t' => rns td t' l) = _
  rw [h]
theorem rns_n {td : Nat → Nat → Option Nat} {t k : Nat} {l : List Nat} (h : td t k = none) : rns td t (k :: l) = none := by
  show (match td t k with
    | none => none
    | some t' => rns td t' l) = _
  rw [h]
theorem rns_snoc {td : Nat → Nat → Option Nat} {k : Nat} : ∀ (l : List Nat) (t : Nat), rns td t (l ++ [k]) = (match rns td t l with
    | none => none
    | some v => td v k) := by
  intro l
  induction l with
  | nil =>
    intro t
    show rns td t [k] = td t k
    cases h : td t k with
    | none => rw [rns_n h]
    | some t' => rw [rns_c h]; rfl
  | cons a l ih =>
    intro t
    show rns td t (a :: (l ++ [k])) = _
    cases h : td t a with
    | none => rw [rns_n h, rns_n h]
    | some t' => rw [rns_c h, rns_c h]; exact ih t'
def odF (N : Nat) : Nat → List Nat → Prop
  | S, [] => S = 0
  | S, k :: l => k < N ∧ S.testBit k = true ∧ odF N (clr S k) l
theorem clr_comm (S a k : Nat) : clr (clr S a) k = clr (clr S k) a := by
  apply Nat.eq_of_testBit_eq
  intro i
  rw [clr_tb, clr_tb, clr_tb, clr_tb]
  cases S.testBit i <;> cases decide (a = i) <;> cases decide (k = i) <;> rfl
theorem odF_snoc {N k : Nat} : ∀ (l : List Nat) (S : Nat), odF N S (l ++ [k]) ↔ k < N ∧ S.testBit k = true ∧ odF N (clr S k) l := by
  intro l
  induction l with
  | nil => intro S; exact Iff.rfl
  | cons a l ih =>
    intro S
    show (a < N ∧ S.testBit a = true ∧ odF N (clr S a) (l ++ [k])) ↔ _
    rw [ih (clr S a), clr_tb, clr_comm S a k]
    show _ ↔ k < N ∧ S.testBit k = true ∧ a < N ∧ (clr S k).testBit a = true ∧ odF N (clr (clr S k) a) l
    rw [clr_tb]
    have sw : (decide (a = k)) = (decide (k = a)) := by
      by_cases e : a = k
      · subst e; rfl
      · simp [e]; omega
    rw [sw]
    cases decide (k = a) <;> simp <;> grind
def tmn (td : Nat → Nat → Option Nat) : Prop := ∀ t t' k u', t ≤ t' → td t' k = some u' → ∃ u, td t k = some u ∧ u ≤ u'
theorem Ee_run {td : Nat → Nat → Option Nat} {N t : Nat} (hm : tmn td) : ∀ S u, Ee td N t S = some u → ∃ l u', odF N S l ∧ rns td t l = some u' ∧ u' ≤ u := by
  intro S
  induction S using Nat.strongRecOn with
  | _ S ih =>
    intro u hu
    by_cases h0 : S = 0
    · subst h0
      rw [Ee_0] at hu
      cases hu
      exact ⟨[], t, rfl, rfl, Nat.le_refl _⟩
    · rw [Ee_s h0] at hu
      obtain ⟨k, hk, hb, v, hv, ht⟩ := (mnE_min td (Ee td N t) S N).2 u hu
      obtain ⟨l, v', ol, rl, hv'⟩ := ih _ (clr_lt hb) v hv
      obtain ⟨u', hu', hle⟩ := hm v' v k u hv' ht
      refine ⟨l ++ [k], u', (odF_snoc l S).mpr ⟨hk, hb, ol⟩, ?_, hle⟩
      rw [rns_snoc, rl]
      exact hu'
theorem run_Ee {td : Nat → Nat → Option Nat} {N t : Nat} (hm : tmn td) : ∀ S l u', odF N S l → rns td t l = some u' → ∃ u, Ee td N t S = some u ∧ u ≤ u' := by
  intro S
  induction S using Nat.strongRecOn with
  | _ S ih =>
    intro l u' ol rl
    rcases List.eq_nil_or_concat l with e | ⟨l', k, e⟩
    · subst e
      have ol : S = 0 := ol
      subst ol
      have rl : some t = some u' := rl
      cases rl
      exact ⟨t, Ee_0 td N t, Nat.le_refl _⟩
    · rw [List.concat_eq_append] at e
      subst e
      obtain ⟨hk, hb, ol'⟩ := (odF_snoc l' S).mp ol
      rw [rns_snoc] at rl
      cases hv : rns td t l' with
      | none => rw [hv] at rl; cases rl
      | some v' =>
        rw [hv] at rl
        obtain ⟨v, hv2, hle⟩ := ih _ (clr_lt hb) l' v' ol' hv
        obtain ⟨u2, hu2, hle2⟩ := hm v v' k u' hle rl
        have h0 : ¬ S = 0 := fun z => by subst z; rw [Nat.zero_testBit] at hb; cases hb
        obtain ⟨u, hu, hle3⟩ := (mnE_min td (Ee td N t) S N).1 u2 ⟨k, hk, hb, v, hv2, hu2⟩
        exact ⟨u, by rw [Ee_s h0]; exact hu, by omega⟩
/-- the set S can be told from t on, and be done by e -/
def Rr (td : Nat → Nat → Option Nat) (N t S e : Nat) : Prop := ∃ u, Ee td N t S = some u ∧ u ≤ e
theorem Rr_run {td : Nat → Nat → Option Nat} {N t S e : Nat} (hm : tmn td) : Rr td N t S e ↔ ∃ l u, odF N S l ∧ rns td t l = some u ∧ u ≤ e := by
  constructor
  · rintro ⟨u, hu, hle⟩
    obtain ⟨l, u', h1, h2, h3⟩ := Ee_run hm S u hu
    exact ⟨l, u', h1, h2, by omega⟩
  · rintro ⟨l, u', h1, h2, h3⟩
    obtain ⟨u, hu, hle⟩ := run_Ee hm S l u' h1 h2
    exact ⟨u, hu, by omega⟩
/-- by the first that is told -/
theorem Rr_first {td : Nat → Nat → Option Nat} {N t S e : Nat} (hm : tmn td) (h0 : ¬ S = 0) : Rr td N t S e ↔ ∃ k, k < N ∧ S.testBit k = true ∧ ∃ t', td t k = some t' ∧ Rr td N t' (clr S k) e := by
  rw [Rr_run hm]
  constructor
  · rintro ⟨l, u, h1, h2, h3⟩
    cases l with
    | nil => exact absurd h1 h0
    | cons k l =>
      obtain ⟨hk, hb, ol⟩ := h1
      cases ht : td t k with
      | none => rw [rns_n ht] at h2; cases h2
      | some t' =>
        rw [rns_c ht] at h2
        exact ⟨k, hk, hb, t', ht, (Rr_run hm).mpr ⟨l, u, ol, h2, h3⟩⟩
  · rintro ⟨k, hk, hb, t', ht, hR⟩
    obtain ⟨l, u, ol, h2, h3⟩ := (Rr_run hm).mp hR
    exact ⟨k :: l, u, ⟨hk, hb, ol⟩, by rw [rns_c ht]; exact h2, h3⟩
theorem Rr_0 {td : Nat → Nat → Option Nat} {N t e : Nat} : Rr td N t 0 e ↔ t ≤ e := by
  unfold Rr
  rw [Ee_0]
  exact ⟨fun ⟨u, hu, h⟩ => by cases hu; exact h, fun h => ⟨t, rfl, h⟩⟩
