/-! what the small machine's cells are in the heap -/
def tkFv (ads : Nat → Nat) (h : tkH) (a : Nat) (ks : List Nat) (j : Nat) : Value := if ks.getD j 0 = 2 then .ref (ads (tkRf a j)) else .int (h.1 a j)
def tkFs (ads : Nat → Nat) (h : tkH) (a ci : Nat) : List Value := (List.range (tkFk ci).length).map (tkFv ads h a (tkFk ci))
def tkWc (ads : Nat → Nat) (cy : Nat → ClassId) (h : tkH) (k : Nat) : va_E :=
  if (tkSh k).1 = 64 then .inl (cy 0, (tkSh k).2, .inl (h.1 k))
  else if (tkSh k).1 = 65 then .inl (cy 1, (tkSh k).2, .inl (h.1 k))
  else if (tkSh k).1 = 66 then .inl (cy 2, (tkSh k).2, .inr (.inl (h.2 k)))
  else if (tkSh k).1 = 67 then .inl (cy 3, (tkSh k).2, .inr (.inr (.inr (.inr (fun j => some (ads (tkRf k j)))))))
  else .inr ((tkSh k).1, tkFs ads h k (tkSh k).1)
def tkTy (cy : Nat → ClassId) : List (ClassId × FieldType) := [(cy 0, .int), (cy 1, .boolean), (cy 2, .long), (cy 3, .object "TickerHouse$Machine")]
def tkWs (ads : Nat → Nat) (cy : Nat → ClassId) (h : tkH) : va_W := (List.range 128).map (fun k => (ads k, tkWc ads cy h k))
def tkA (ads : Nat → Nat) : Nat → Prop := fun q => ∃ k, k < 128 ∧ q = ads k
def tk_cv (ads : Nat → Nat) : Value → Value
  | .ref k => .ref (ads k)
  | v => v
theorem tk_cv_cat (ads : Nat → Nat) (v : Value) : (tk_cv ads v).category = v.category := by cases v <;> rfl
theorem tk_stW (ads : Nat → Nat) : ∀ st : List Value, ((st.map (tk_cv ads)).map fun v => v.category).sum = stW st := by
  intro st
  induction st with
  | nil => rfl
  | cons v l ih =>
    simp only [List.map_cons, List.sum_cons, stW, tk_cv_cat, ih]
theorem tkSh_lt {a : Nat} (h : (tkSh a).1 ≠ 99) : a < 128 := by
  rcases Nat.lt_or_ge a 128 with q | q
  · exact q
  · exact absurd (by simp [tkSh, List.getD, List.getElem?_eq_none (show tkShT.length ≤ a from q)]) h
theorem tkWs_at {ads : Nat → Nat} {cy : Nat → ClassId} {h : tkH} {k : Nat} (hk : k < 128) : (tkWs ads cy h)[k]? = some (ads k, tkWc ads cy h k) := by
  unfold tkWs
  rw [List.getElem?_map, List.getElem?_range hk]
  rfl
theorem tkWs_set {ads : Nat → Nat} {cy : Nat → ClassId} {h h' : tkH} {k : Nat} {e : va_E} (hk : k < 128) (he : tkWc ads cy h' k = e) (ho : ∀ j, j ≠ k → tkWc ads cy h' j = tkWc ads cy h j) : (tkWs ads cy h).set k (ads k, e) = tkWs ads cy h' := by
  apply List.ext_getElem?
  intro i
  rw [List.getElem?_set]
  by_cases hi : k = i
  · subst hi
    rw [if_pos rfl, if_pos (by simpa [tkWs] using hk), tkWs_at hk, he]
  · rw [if_neg hi]
    rcases Nat.lt_or_ge i 128 with q | q
    · rw [tkWs_at q, tkWs_at q, ho i (fun x => hi x.symm)]
    · rw [List.getElem?_eq_none (by simpa [tkWs] using q), List.getElem?_eq_none (by simpa [tkWs] using q)]
theorem tkWs_D {ads : Nat → Nat} (hi : ∀ i j, i < 128 → j < 128 → ads i = ads j → i = j) (cy : Nat → ClassId) (h : tkH) : va_D (tkA ads) (tkWs ads cy h) := by
  have e : ∀ (k : Nat) (q : Nat × va_E), (tkWs ads cy h)[k]? = some q → k < 128 ∧ q.1 = ads k := by
    intro k q hq
    rcases Nat.lt_or_ge k 128 with z | z
    · rw [tkWs_at z] at hq
      exact ⟨z, by rw [← Option.some.inj hq]⟩
    · rw [List.getElem?_eq_none (by simpa [tkWs] using z)] at hq
      cases hq
  refine ⟨fun i j p q h1 h2 h3 => ?_, fun k q hk => ⟨k, (e k q hk).1, (e k q hk).2⟩⟩
  exact hi i j (e i p h1).1 (e j q h2).1 (by rw [← (e i p h1).2, h3, (e j q h2).2])
theorem up2_self (f : Nat → Nat → Int32) (a j : Nat) (v : Int32) : up2 f a j v a = upd (f a) j v := by
  funext k
  by_cases h : k = j <;> simp [up2, upd, h]
theorem up2_ne (f : Nat → Nat → Int32) {a b : Nat} (j : Nat) (v : Int32) (h : b ≠ a) : up2 f a j v b = f b := by
  funext k
  simp [up2, h]
theorem up2L_self (f : Nat → Nat → Int64) (a j : Nat) (v : Int64) : up2L f a j v a = vp_updL (f a) j v := by
  funext k
  by_cases h : k = j <;> simp [up2L, vp_updL, h]
theorem up2L_ne (f : Nat → Nat → Int64) {a b : Nat} (j : Nat) (v : Int64) (h : b ≠ a) : up2L f a j v b = f b := by
  funext k
  simp [up2L, h]
theorem tkFs_ne {ads : Nat → Nat} {h h' : tkH} {a ci : Nat} (he : h'.1 a = h.1 a) : tkFs ads h' a ci = tkFs ads h a ci := by
  unfold tkFs
  apply List.map_congr_left
  intro j _
  unfold tkFv
  rw [he]
theorem tkWc_ne {ads : Nat → Nat} {cy : Nat → ClassId} {h h' : tkH} {k : Nat} (h1 : h'.1 k = h.1 k) (h2 : h'.2 k = h.2 k) : tkWc ads cy h' k = tkWc ads cy h k := by
  unfold tkWc
  rw [h1, h2, tkFs_ne h1]
theorem tkFs_set {ads : Nat → Nat} {h : tkH} {a ci j : Nat} {v : Int32} (hk : (tkFk ci).getD j 0 ≠ 2) : (tkFs ads h a ci).set j (.int v) = tkFs ads (up2 h.1 a j v, h.2) a ci := by
  apply List.ext_getElem?
  intro i
  rw [List.getElem?_set]
  unfold tkFs
  simp only [List.length_map, List.length_range, List.getElem?_map]
  by_cases hi : j = i
  · subst hi
    rw [if_pos rfl]
    by_cases hl : j < (tkFk ci).length
    · rw [if_pos hl, List.getElem?_range hl, Option.map_some]
      unfold tkFv
      rw [if_neg hk]
      simp [up2]
    · rw [if_neg hl, List.getElem?_eq_none (by simpa using hl)]
      rfl
  · rw [if_neg hi]
    by_cases hl : i < (tkFk ci).length
    · rw [List.getElem?_range hl, Option.map_some, Option.map_some]
      unfold tkFv
      simp [up2, show ¬ i = j from fun q => hi q.symm]
    · rw [List.getElem?_eq_none (by simpa using hl)]
      rfl
/-! locals -/
theorem lset1_len : ∀ (ls : List Value) (i : Nat) (v : Value), (lset1 ls i v).length = ls.length := by
  intro ls
  induction ls with
  | nil => intro i v; rfl
  | cons a l ih =>
    intro i v
    match i with
    | 0 => rfl
    | 1 => show (lset1 l 0 v).length + 1 = _; rw [ih]; rfl
    | i + 2 => show (lset1 l (i + 1) v).length + 1 = _; rw [ih]; rfl
theorem lset2_len : ∀ (ls : List Value) (i : Nat) (v : Value), (lset2 ls i v).length = ls.length := by
  intro ls
  induction ls with
  | nil => intro i v; rfl
  | cons a l ih =>
    intro i v
    match i with
    | 0 => cases l <;> rfl
    | 1 => cases l with
      | nil => rfl
      | cons b l => show (lset2 (b :: l) 0 v).length + 1 = _; rw [ih]; rfl
    | i + 2 => cases l with
      | nil => rfl
      | cons b l => show (lset2 (b :: l) (i + 1) v).length + 1 = _; rw [ih]; rfl
theorem lget_lset1 : ∀ (ls : List Value) (i : Nat) (v : Value) (j : Nat), i < ls.length → lget (lset1 ls i v) j = if j = i then v else if j + 1 = i then tk_kl (lget ls j) else lget ls j := by
  intro ls
  induction ls with
  | nil => intro i v j h; cases h
  | cons a l ih =>
    intro i v j h
    match i, j with
    | 0, 0 => rfl
    | 0, j + 1 => simp [lset1, lget]
    | 1, 0 => simp [lset1, lget]
    | 1, j + 1 =>
      show lget (lset1 l 0 v) j = _
      rw [ih 0 v j (by simp at h; omega)]
      cases j <;> simp [lget]
    | i + 2, 0 => simp [lset1, lget]
    | i + 2, j + 1 =>
      show lget (lset1 l (i + 1) v) j = _
      rw [ih (i + 1) v j (by simp at h; omega)]
      simp [lget]
theorem lget_lset2 : ∀ (ls : List Value) (i : Nat) (v : Value) (j : Nat), i + 1 < ls.length → lget (lset2 ls i v) j = if j = i then v else if j = i + 1 then .null else if j + 1 = i then tk_kl (lget ls j) else lget ls j := by
  intro ls
  induction ls with
  | nil => intro i v j h; cases h
  | cons a l ih =>
    intro i v j h
    cases l with
    | nil => simp at h
    | cons b l =>
    match i, j with
    | 0, 0 => rfl
    | 0, 1 => rfl
    | 0, j + 2 => simp [lset2, lget]
    | 1, 0 => simp [lset2, lget]
    | 1, j + 1 =>
      show lget (lset2 (b :: l) 0 v) j = _
      rw [ih 0 v j (by simp at h ⊢; omega)]
      cases j <;> simp [lget]
    | i + 2, 0 => simp [lset2, lget]
    | i + 2, j + 1 =>
      show lget (lset2 (b :: l) (i + 1) v) j = _
      rw [ih (i + 1) v j (by simp at h ⊢; omega)]
      simp [lget]
theorem lget_lt : ∀ (ls : List Value) (i : Nat), lget ls i ≠ .null → i < ls.length := by
  intro ls
  induction ls with
  | nil => intro i h; exact absurd rfl h
  | cons a l ih =>
    intro i h
    cases i with
    | zero => simp
    | succ i => have := ih i h; simp; omega
def tkL (ads : Nat → Nat) (nL : Nat) (lsA : Array Slot) (ls : List Value) : Prop := lsA.size = nL ∧ lv_wf lsA ∧ ls.length = nL ∧ ∀ i, lget ls i ≠ .null → lsA[i]? = some (.val (tk_cv ads (lget ls i)))
def tkLv (ads : Nat → Nat) (ls : List Value) : List (Nat × Value) := (List.range ls.length).filterMap (fun i => if lget ls i = .null then none else some (i, tk_cv ads (lget ls i)))
theorem tkLv_mem {ads : Nat → Nat} {ls : List Value} {q : Nat × Value} : q ∈ tkLv ads ls ↔ lget ls q.1 ≠ .null ∧ q.2 = tk_cv ads (lget ls q.1) := by
  unfold tkLv
  rw [List.mem_filterMap]
  constructor
  · rintro ⟨i, -, h⟩
    split at h
    · cases h
    · rename_i hn
      cases h
      exact ⟨hn, rfl⟩
  · rintro ⟨h1, h2⟩
    refine ⟨q.1, List.mem_range.mpr (lget_lt _ _ h1), ?_⟩
    rw [if_neg h1, ← h2]
theorem tkL.has {ads : Nat → Nat} {nL : Nat} {lsA : Array Slot} {ls : List Value} (h : tkL ads nL lsA ls) : lv_has lsA nL (tkLv ads ls) := by
  refine ⟨h.1, h.2.1, fun q hq => ?_⟩
  obtain ⟨h1, h2⟩ := tkLv_mem.mp hq
  rw [h.2.2.2 _ h1, h2]
theorem tk_kl_null {v : Value} (h : tk_kl v ≠ .null) : tk_kl v = v ∧ v.category ≠ 2 := by
  cases v <;> first | exact absurd rfl h | exact ⟨rfl, by decide⟩ | exact ⟨rfl, fun q => by cases q⟩
theorem tkL.set1 {ads : Nat → Nat} {nL : Nat} {lsA lsB : Array Slot} {ls : List Value} {i : Nat} {v : Value} (h : tkL ads nL lsA ls) (hi : i < nL)
    (hB : lv_has lsB nL ((i, tk_cv ads v) :: (tkLv ads ls).filter (fun q => !(q.1 == i) && !(q.1 + 1 == i && q.2.category == 2)))) : tkL ads nL lsB (lset1 ls i v) := by
  refine ⟨hB.1, hB.2.1, by rw [lset1_len]; exact h.2.2.1, fun j hj => ?_⟩
  rw [lget_lset1 _ _ _ _ (by rw [h.2.2.1]; exact hi)] at hj ⊢
  by_cases e1 : j = i
  · rw [if_pos e1, e1]
    exact hB.2.2 _ List.mem_cons_self
  · rw [if_neg e1] at hj ⊢
    have key : lget ls j ≠ .null → ¬ (j + 1 = i ∧ (lget ls j).category = 2) → lsB[j]? = some (.val (tk_cv ads (lget ls j))) := by
      intro hn hc
      refine hB.2.2 (j, tk_cv ads (lget ls j)) (List.mem_cons_of_mem _ (List.mem_filter.mpr ⟨tkLv_mem.mpr ⟨hn, rfl⟩, ?_⟩))
      simp only [tk_cv_cat]
      simp [e1]
      exact Decidable.not_and_iff_not_or_not.mp hc
    by_cases e2 : j + 1 = i
    · rw [if_pos e2] at hj ⊢
      obtain ⟨k1, k2⟩ := tk_kl_null hj
      rw [k1] at hj ⊢
      exact key hj (fun q => k2 q.2)
    · rw [if_neg e2] at hj ⊢
      exact key hj (fun q => e2 q.1)
theorem tkL.set2 {ads : Nat → Nat} {nL : Nat} {lsA lsB : Array Slot} {ls : List Value} {i : Nat} {v : Value} (h : tkL ads nL lsA ls) (hi : i + 1 < nL)
    (hB : lv_has lsB nL ((i, tk_cv ads v) :: (tkLv ads ls).filter (fun q => !(q.1 == i) && (!(q.1 == i + 1) && !(q.1 + 1 == i && q.2.category == 2))))) : tkL ads nL lsB (lset2 ls i v) := by
  refine ⟨hB.1, hB.2.1, by rw [lset2_len]; exact h.2.2.1, fun j hj => ?_⟩
  rw [lget_lset2 _ _ _ _ (by rw [h.2.2.1]; exact hi)] at hj ⊢
  by_cases e1 : j = i
  · rw [if_pos e1, e1]
    exact hB.2.2 _ List.mem_cons_self
  · rw [if_neg e1] at hj ⊢
    by_cases e3 : j = i + 1
    · rw [if_pos e3] at hj
      exact absurd rfl hj
    rw [if_neg e3] at hj ⊢
    have key : lget ls j ≠ .null → ¬ (j + 1 = i ∧ (lget ls j).category = 2) → lsB[j]? = some (.val (tk_cv ads (lget ls j))) := by
      intro hn hc
      refine hB.2.2 (j, tk_cv ads (lget ls j)) (List.mem_cons_of_mem _ (List.mem_filter.mpr ⟨tkLv_mem.mpr ⟨hn, rfl⟩, ?_⟩))
      simp only [tk_cv_cat]
      simp [e1, e3]
      exact Decidable.not_and_iff_not_or_not.mp hc
    by_cases e2 : j + 1 = i
    · rw [if_pos e2] at hj ⊢
      obtain ⟨k1, k2⟩ := tk_kl_null hj
      rw [k1] at hj ⊢
      exact key hj (fun q => k2 q.2)
    · rw [if_neg e2] at hj ⊢
      exact key hj (fun q => e2 q.1)
theorem tkL.int {ads : Nat → Nat} {nL : Nat} {lsA : Array Slot} {ls : List Value} (h : tkL ads nL lsA ls) {i : Nat} {x : Int32} (e : lget ls i = .int x) : lsA[i]? = some (.val (.int x)) := by
  have := h.2.2.2 i (by rw [e]; exact fun q => by cases q)
  rw [e] at this
  exact this
theorem tkL.long {ads : Nat → Nat} {nL : Nat} {lsA : Array Slot} {ls : List Value} (h : tkL ads nL lsA ls) {i : Nat} {x : Int64} (e : lget ls i = .long x) : lsA[i]? = some (.val (.long x)) := by
  have := h.2.2.2 i (by rw [e]; exact fun q => by cases q)
  rw [e] at this
  exact this
theorem tkL.ref {ads : Nat → Nat} {nL : Nat} {lsA : Array Slot} {ls : List Value} (h : tkL ads nL lsA ls) {i : Nat} {x : Nat} (e : lget ls i = .ref x) : lsA[i]? = some (.val (.ref (ads x))) := by
  have := h.2.2.2 i (by rw [e]; exact fun q => by cases q)
  rw [e] at this
  exact this

