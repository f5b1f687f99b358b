/-! sets of states as long numbers -/
def bt (x : Int64) (k : Nat) : Prop := x.toBitVec.getLsbD k = true
theorem bt_lt {x : Int64} {k : Nat} (h : bt x k) : k < 64 := BitVec.lt_of_getLsbD h
theorem bt_or (x y : Int64) (k : Nat) : bt (x ||| y) k ↔ bt x k ∨ bt y k := by
  unfold bt
  rw [Int64.toBitVec_or, BitVec.getLsbD_or, Bool.or_eq_true]
theorem bt_and (x y : Int64) (k : Nat) : bt (x &&& y) k ↔ bt x k ∧ bt y k := by
  unfold bt
  rw [Int64.toBitVec_and, BitVec.getLsbD_and, Bool.and_eq_true]
theorem bt_0 (k : Nat) : ¬ bt (Int64.ofNat 0) k := by
  unfold bt
  rw [show (Int64.ofNat 0).toBitVec = 0#64 by decide, BitVec.getLsbD_zero]
  exact Bool.false_ne_true
theorem bt_z {x : Int64} : x = Int64.ofNat 0 ↔ ∀ k, ¬ bt x k := by
  constructor
  · intro h k; rw [h]; exact bt_0 k
  · intro h
    apply Int64.toBitVec_inj.mp
    apply BitVec.eq_of_getLsbD_eq
    intro i hi
    have a := h i
    have b := bt_0 i
    unfold bt at a b
    rw [Bool.eq_false_iff.mpr a, Bool.eq_false_iff.mpr b]
theorem bt_one : ∀ t, t < 64 → (Int64.ofNat 1 <<< ((nI t).toInt64 &&& 63)).toBitVec = BitVec.twoPow 64 t := by decide +kernel
theorem bt_shl {t k : Nat} (ht : t < 64) : bt (Int64.ofNat 1 <<< ((nI t).toInt64 &&& 63)) k ↔ k = t := by
  unfold bt
  rw [bt_one t ht, BitVec.getLsbD_twoPow]
  simp only [Bool.and_eq_true, decide_eq_true_eq]
  omega
theorem bt_amt : ∀ t, t < 64 → (((nI t).toInt64.toUInt64 &&& Int64.toUInt64 63).toBitVec % 64).toNat = t := by decide +kernel
theorem bt_shr {x : Int64} {t : Nat} (ht : t < 64) : ((x.toUInt64 >>> ((nI t).toInt64.toUInt64 &&& Int64.toUInt64 63)).toInt64 &&& Int64.ofNat 1 = Int64.ofNat 0) ↔ ¬ bt x t := by
  have e : ∀ k, bt ((x.toUInt64 >>> ((nI t).toInt64.toUInt64 &&& Int64.toUInt64 63)).toInt64 &&& Int64.ofNat 1) k ↔ k = 0 ∧ bt x t := by
    intro k
    rw [bt_and]
    have h1 : bt (Int64.ofNat 1) k ↔ k = 0 := by
      unfold bt
      rw [show (Int64.ofNat 1).toBitVec = BitVec.twoPow 64 0 by decide, BitVec.getLsbD_twoPow]
      simp only [Bool.and_eq_true, decide_eq_true_eq]
      omega
    rw [h1]
    have h2 : (x.toUInt64 >>> ((nI t).toInt64.toUInt64 &&& Int64.toUInt64 63)).toInt64.toBitVec = x.toBitVec >>> t := by
      show (x.toUInt64 >>> ((nI t).toInt64.toUInt64 &&& Int64.toUInt64 63)).toBitVec = _
      rw [UInt64.toBitVec_shiftRight, BitVec.ushiftRight_eq', bt_amt t ht]
      rfl
    constructor
    · rintro ⟨a, b⟩
      subst b
      unfold bt at a ⊢
      rw [h2, BitVec.getLsbD_ushiftRight, Nat.add_zero] at a
      exact ⟨rfl, a⟩
    · rintro ⟨a, b⟩
      subst a
      unfold bt at b ⊢
      rw [h2, BitVec.getLsbD_ushiftRight, Nat.add_zero]
      exact ⟨b, rfl⟩
  rw [bt_z]
  constructor
  · intro h b; exact h 0 ((e 0).mpr ⟨rfl, b⟩)
  · intro h k hk; exact h ((e k).mp hk).2
theorem bt_meet {x y : Int64} : (x &&& y = Int64.ofNat 0) ↔ ¬ ∃ k, bt x k ∧ bt y k := by
  rw [bt_z]
  constructor
  · rintro h ⟨k, a, b⟩; exact h k ((bt_and x y k).mpr ⟨a, b⟩)
  · intro h k hk; exact h ⟨k, (bt_and x y k).mp hk⟩
theorem lc0 {x y : Int64} : (lg_cmp x y = nI 0) = (x = y) := by
  have a := tk_cmp_lt (x := x) (y := y)
  have b := tk_cmp_gt (x := x) (y := y)
  apply propext
  constructor
  · intro h
    rw [h] at a b
    have a' : ¬ x < y := by rw [← a]; decide
    have b' : ¬ y < x := by rw [← b]; decide
    exact Int64.le_antisymm (Int64.not_lt.mp b') (Int64.not_lt.mp a')
  · intro h
    subst h
    have irr : ¬ x < x := Int64.lt_irrefl
    rw [eq_false irr] at a b
    have a' : nI 0 ≤ lg_cmp x x := by rw [← i32_nlt, a]; exact fun h => h
    have b' : lg_cmp x x ≤ nI 0 := by rw [← i32_nlt, b]; exact fun h => h
    exact Int32.le_antisymm b' a'
