def ire (x y : Int32) : Int32 := x - x / y * y
def mI (n : Nat) : Int32 := Int32.ofInt (-(n : Int))
theorem ci_pos (n : Nat) : Int32.ofInt (no_index (OfNat.ofNat n)) = nI n := by
  show Int32.ofInt (n : Int) = Int32.ofNat n
  first | exact Int32.ofInt_natCast n | exact Int32.ofInt_eq_ofNat | exact (Int32.ofNat_eq_ofInt n).symm | (apply Int32.toBitVec_inj.mp; simp [Int32.ofInt, Int32.ofNat]; done) | (apply Int32.toBitVec_inj.mp; exact BitVec.ofInt_natCast 32 n)
theorem ci_neg (n : Nat) : Int32.ofInt (-(no_index (OfNat.ofNat n))) = mI n := rfl
theorem te_nil {sx : Nat × (Nat → Int32)} {call : tkC} {K : tkK} {Q : tkQ} {nb : Nat} {ls r : List Value} {h : tkH} : (tkE sx call K Q nb [] ls r h) = (K nb ls r h) := propext ⟨fun q => q, fun q => q⟩
theorem te_iconst {sx : Nat × (Nat → Int32)} {call : tkC} {K : tkK} {Q : tkQ} {nb : Nat} {is : List Instr} {ls r : List Value} {h : tkH} {n : Int} : (tkE sx call K Q nb (.iconst n :: is) ls r h) = (tkE sx call K Q nb is ls (.int (Int32.ofInt n) :: r) h) := propext ⟨fun q => q, fun q => q⟩
theorem te_ldc2 {sx : Nat × (Nat → Int32)} {call : tkC} {K : tkK} {Q : tkQ} {nb : Nat} {is : List Instr} {ls r : List Value} {h : tkH} {n : Nat} : (tkE sx call K Q nb (.ldc2_w n :: is) ls r h) = (tkE sx call K Q nb is ls (.long (Int64.ofNat n) :: r) h) := propext ⟨fun q => q, fun q => q⟩
theorem te_iload_0 {sx : Nat × (Nat → Int32)} {call : tkC} {K : tkK} {Q : tkQ} {nb : Nat} {is : List Instr} {r : List Value} {h : tkH} {l : List Value} {x : Int32} : (tkE sx call K Q nb (.iload 0 :: is) (.int x :: l) r h) = (tkE sx call K Q nb is (.int x :: l) (.int x :: r) h) := propext ⟨fun q => q, fun q => q⟩
theorem te_aload_0 {sx : Nat × (Nat → Int32)} {call : tkC} {K : tkK} {Q : tkQ} {nb : Nat} {is : List Instr} {r : List Value} {h : tkH} {l : List Value} {x : Nat} : (tkE sx call K Q nb (.aload 0 :: is) (.ref x :: l) r h) = (tkE sx call K Q nb is (.ref x :: l) (.ref x :: r) h) := propext ⟨fun q => q, fun q => q⟩
theorem te_lload_0 {sx : Nat × (Nat → Int32)} {call : tkC} {K : tkK} {Q : tkQ} {nb : Nat} {is : List Instr} {r : List Value} {h : tkH} {l : List Value} {x : Int64} : (tkE sx call K Q nb (.lload 0 :: is) (.long x :: l) r h) = (tkE sx call K Q nb is (.long x :: l) (.long x :: r) h) := propext ⟨fun q => q, fun q => q⟩
theorem te_istore_0 {sx : Nat × (Nat → Int32)} {call : tkC} {K : tkK} {Q : tkQ} {nb : Nat} {is : List Instr} {r : List Value} {h : tkH} {l : List Value} {b : Value} {x : Int32} : (tkE sx call K Q nb (.istore 0 :: is) (b :: l) (.int x :: r) h) = (tkE sx call K Q nb is (.int x :: l) r h) := propext ⟨fun q => q, fun q => q⟩
theorem te_astore_0 {sx : Nat × (Nat → Int32)} {call : tkC} {K : tkK} {Q : tkQ} {nb : Nat} {is : List Instr} {r : List Value} {h : tkH} {l : List Value} {b : Value} {x : Nat} : (tkE sx call K Q nb (.astore 0 :: is) (b :: l) (.ref x :: r) h) = (tkE sx call K Q nb is (.ref x :: l) r h) := propext ⟨fun q => q, fun q => q⟩
theorem te_lstore_0 {sx : Nat × (Nat → Int32)} {call : tkC} {K : tkK} {Q : tkQ} {nb : Nat} {is : List Instr} {r : List Value} {h : tkH} {l : List Value} {b : Value} {b2 : Value} {x : Int64} : (tkE sx call K Q nb (.lstore 0 :: is) (b :: b2 :: l) (.long x :: r) h) = (tkE sx call K Q nb is (.long x :: .null :: l) r h) := propext ⟨fun q => q, fun q => q⟩
theorem te_iinc_0 {sx : Nat × (Nat → Int32)} {call : tkC} {K : tkK} {Q : tkQ} {nb : Nat} {is : List Instr} {r : List Value} {h : tkH} {l : List Value} {n : Int} {x : Int32} : (tkE sx call K Q nb (.iinc 0 n :: is) (.int x :: l) r h) = (tkE sx call K Q nb is (.int (x + Int32.ofInt n) :: l) r h) := propext ⟨fun q => q, fun q => q⟩
theorem te_iload_1 {sx : Nat × (Nat → Int32)} {call : tkC} {K : tkK} {Q : tkQ} {nb : Nat} {is : List Instr} {r : List Value} {h : tkH} {a0 : Value} {l : List Value} {x : Int32} : (tkE sx call K Q nb (.iload 1 :: is) (a0 :: .int x :: l) r h) = (tkE sx call K Q nb is (a0 :: .int x :: l) (.int x :: r) h) := propext ⟨fun q => q, fun q => q⟩
theorem te_aload_1 {sx : Nat × (Nat → Int32)} {call : tkC} {K : tkK} {Q : tkQ} {nb : Nat} {is : List Instr} {r : List Value} {h : tkH} {a0 : Value} {l : List Value} {x : Nat} : (tkE sx call K Q nb (.aload 1 :: is) (a0 :: .ref x :: l) r h) = (tkE sx call K Q nb is (a0 :: .ref x :: l) (.ref x :: r) h) := propext ⟨fun q => q, fun q => q⟩
theorem te_lload_1 {sx : Nat × (Nat → Int32)} {call : tkC} {K : tkK} {Q : tkQ} {nb : Nat} {is : List Instr} {r : List Value} {h : tkH} {a0 : Value} {l : List Value} {x : Int64} : (tkE sx call K Q nb (.lload 1 :: is) (a0 :: .long x :: l) r h) = (tkE sx call K Q nb is (a0 :: .long x :: l) (.long x :: r) h) := propext ⟨fun q => q, fun q => q⟩
theorem te_istore_1 {sx : Nat × (Nat → Int32)} {call : tkC} {K : tkK} {Q : tkQ} {nb : Nat} {is : List Instr} {r : List Value} {h : tkH} {a0 : Value} {l : List Value} {b : Value} {x : Int32} : (tkE sx call K Q nb (.istore 1 :: is) (a0 :: b :: l) (.int x :: r) h) = (tkE sx call K Q nb is (tk_kl a0 :: .int x :: l) r h) := propext ⟨fun q => q, fun q => q⟩
theorem te_astore_1 {sx : Nat × (Nat → Int32)} {call : tkC} {K : tkK} {Q : tkQ} {nb : Nat} {is : List Instr} {r : List Value} {h : tkH} {a0 : Value} {l : List Value} {b : Value} {x : Nat} : (tkE sx call K Q nb (.astore 1 :: is) (a0 :: b :: l) (.ref x :: r) h) = (tkE sx call K Q nb is (tk_kl a0 :: .ref x :: l) r h) := propext ⟨fun q => q, fun q => q⟩
theorem te_lstore_1 {sx : Nat × (Nat → Int32)} {call : tkC} {K : tkK} {Q : tkQ} {nb : Nat} {is : List Instr} {r : List Value} {h : tkH} {a0 : Value} {l : List Value} {b : Value} {b2 : Value} {x : Int64} : (tkE sx call K Q nb (.lstore 1 :: is) (a0 :: b :: b2 :: l) (.long x :: r) h) = (tkE sx call K Q nb is (tk_kl a0 :: .long x :: .null :: l) r h) := propext ⟨fun q => q, fun q => q⟩
theorem te_iinc_1 {sx : Nat × (Nat → Int32)} {call : tkC} {K : tkK} {Q : tkQ} {nb : Nat} {is : List Instr} {r : List Value} {h : tkH} {a0 : Value} {l : List Value} {n : Int} {x : Int32} : (tkE sx call K Q nb (.iinc 1 n :: is) (a0 :: .int x :: l) r h) = (tkE sx call K Q nb is (tk_kl a0 :: .int (x + Int32.ofInt n) :: l) r h) := propext ⟨fun q => q, fun q => q⟩
theorem te_iload_2 {sx : Nat × (Nat → Int32)} {call : tkC} {K : tkK} {Q : tkQ} {nb : Nat} {is : List Instr} {r : List Value} {h : tkH} {a0 a1 : Value} {l : List Value} {x : Int32} : (tkE sx call K Q nb (.iload 2 :: is) (a0 :: a1 :: .int x :: l) r h) = (tkE sx call K Q nb is (a0 :: a1 :: .int x :: l) (.int x :: r) h) := propext ⟨fun q => q, fun q => q⟩
theorem te_aload_2 {sx : Nat × (Nat → Int32)} {call : tkC} {K : tkK} {Q : tkQ} {nb : Nat} {is : List Instr} {r : List Value} {h : tkH} {a0 a1 : Value} {l : List Value} {x : Nat} : (tkE sx call K Q nb (.aload 2 :: is) (a0 :: a1 :: .ref x :: l) r h) = (tkE sx call K Q nb is (a0 :: a1 :: .ref x :: l) (.ref x :: r) h) := propext ⟨fun q => q, fun q => q⟩
theorem te_lload_2 {sx : Nat × (Nat → Int32)} {call : tkC} {K : tkK} {Q : tkQ} {nb : Nat} {is : List Instr} {r : List Value} {h : tkH} {a0 a1 : Value} {l : List Value} {x : Int64} : (tkE sx call K Q nb (.lload 2 :: is) (a0 :: a1 :: .long x :: l) r h) = (tkE sx call K Q nb is (a0 :: a1 :: .long x :: l) (.long x :: r) h) := propext ⟨fun q => q, fun q => q⟩
theorem te_istore_2 {sx : Nat × (Nat → Int32)} {call : tkC} {K : tkK} {Q : tkQ} {nb : Nat} {is : List Instr} {r : List Value} {h : tkH} {a0 a1 : Value} {l : List Value} {b : Value} {x : Int32} : (tkE sx call K Q nb (.istore 2 :: is) (a0 :: a1 :: b :: l) (.int x :: r) h) = (tkE sx call K Q nb is (a0 :: tk_kl a1 :: .int x :: l) r h) := propext ⟨fun q => q, fun q => q⟩
theorem te_astore_2 {sx : Nat × (Nat → Int32)} {call : tkC} {K : tkK} {Q : tkQ} {nb : Nat} {is : List Instr} {r : List Value} {h : tkH} {a0 a1 : Value} {l : List Value} {b : Value} {x : Nat} : (tkE sx call K Q nb (.astore 2 :: is) (a0 :: a1 :: b :: l) (.ref x :: r) h) = (tkE sx call K Q nb is (a0 :: tk_kl a1 :: .ref x :: l) r h) := propext ⟨fun q => q, fun q => q⟩
theorem te_lstore_2 {sx : Nat × (Nat → Int32)} {call : tkC} {K : tkK} {Q : tkQ} {nb : Nat} {is : List Instr} {r : List Value} {h : tkH} {a0 a1 : Value} {l : List Value} {b : Value} {b2 : Value} {x : Int64} : (tkE sx call K Q nb (.lstore 2 :: is) (a0 :: a1 :: b :: b2 :: l) (.long x :: r) h) = (tkE sx call K Q nb is (a0 :: tk_kl a1 :: .long x :: .null :: l) r h) := propext ⟨fun q => q, fun q => q⟩
theorem te_iinc_2 {sx : Nat × (Nat → Int32)} {call : tkC} {K : tkK} {Q : tkQ} {nb : Nat} {is : List Instr} {r : List Value} {h : tkH} {a0 a1 : Value} {l : List Value} {n : Int} {x : Int32} : (tkE sx call K Q nb (.iinc 2 n :: is) (a0 :: a1 :: .int x :: l) r h) = (tkE sx call K Q nb is (a0 :: tk_kl a1 :: .int (x + Int32.ofInt n) :: l) r h) := propext ⟨fun q => q, fun q => q⟩
theorem te_iload_3 {sx : Nat × (Nat → Int32)} {call : tkC} {K : tkK} {Q : tkQ} {nb : Nat} {is : List Instr} {r : List Value} {h : tkH} {a0 a1 a2 : Value} {l : List Value} {x : Int32} : (tkE sx call K Q nb (.iload 3 :: is) (a0 :: a1 :: a2 :: .int x :: l) r h) = (tkE sx call K Q nb is (a0 :: a1 :: a2 :: .int x :: l) (.int x :: r) h) := propext ⟨fun q => q, fun q => q⟩
theorem te_aload_3 {sx : Nat × (Nat → Int32)} {call : tkC} {K : tkK} {Q : tkQ} {nb : Nat} {is : List Instr} {r : List Value} {h : tkH} {a0 a1 a2 : Value} {l : List Value} {x : Nat} : (tkE sx call K Q nb (.aload 3 :: is) (a0 :: a1 :: a2 :: .ref x :: l) r h) = (tkE sx call K Q nb is (a0 :: a1 :: a2 :: .ref x :: l) (.ref x :: r) h) := propext ⟨fun q => q, fun q => q⟩
theorem te_lload_3 {sx : Nat × (Nat → Int32)} {call : tkC} {K : tkK} {Q : tkQ} {nb : Nat} {is : List Instr} {r : List Value} {h : tkH} {a0 a1 a2 : Value} {l : List Value} {x : Int64} : (tkE sx call K Q nb (.lload 3 :: is) (a0 :: a1 :: a2 :: .long x :: l) r h) = (tkE sx call K Q nb is (a0 :: a1 :: a2 :: .long x :: l) (.long x :: r) h) := propext ⟨fun q => q, fun q => q⟩
theorem te_istore_3 {sx : Nat × (Nat → Int32)} {call : tkC} {K : tkK} {Q : tkQ} {nb : Nat} {is : List Instr} {r : List Value} {h : tkH} {a0 a1 a2 : Value} {l : List Value} {b : Value} {x : Int32} : (tkE sx call K Q nb (.istore 3 :: is) (a0 :: a1 :: a2 :: b :: l) (.int x :: r) h) = (tkE sx call K Q nb is (a0 :: a1 :: tk_kl a2 :: .int x :: l) r h) := propext ⟨fun q => q, fun q => q⟩
theorem te_astore_3 {sx : Nat × (Nat → Int32)} {call : tkC} {K : tkK} {Q : tkQ} {nb : Nat} {is : List Instr} {r : List Value} {h : tkH} {a0 a1 a2 : Value} {l : List Value} {b : Value} {x : Nat} : (tkE sx call K Q nb (.astore 3 :: is) (a0 :: a1 :: a2 :: b :: l) (.ref x :: r) h) = (tkE sx call K Q nb is (a0 :: a1 :: tk_kl a2 :: .ref x :: l) r h) := propext ⟨fun q => q, fun q => q⟩
theorem te_lstore_3 {sx : Nat × (Nat → Int32)} {call : tkC} {K : tkK} {Q : tkQ} {nb : Nat} {is : List Instr} {r : List Value} {h : tkH} {a0 a1 a2 : Value} {l : List Value} {b : Value} {b2 : Value} {x : Int64} : (tkE sx call K Q nb (.lstore 3 :: is) (a0 :: a1 :: a2 :: b :: b2 :: l) (.long x :: r) h) = (tkE sx call K Q nb is (a0 :: a1 :: tk_kl a2 :: .long x :: .null :: l) r h) := propext ⟨fun q => q, fun q => q⟩
theorem te_iinc_3 {sx : Nat × (Nat → Int32)} {call : tkC} {K : tkK} {Q : tkQ} {nb : Nat} {is : List Instr} {r : List Value} {h : tkH} {a0 a1 a2 : Value} {l : List Value} {n : Int} {x : Int32} : (tkE sx call K Q nb (.iinc 3 n :: is) (a0 :: a1 :: a2 :: .int x :: l) r h) = (tkE sx call K Q nb is (a0 :: a1 :: tk_kl a2 :: .int (x + Int32.ofInt n) :: l) r h) := propext ⟨fun q => q, fun q => q⟩
theorem te_iload_4 {sx : Nat × (Nat → Int32)} {call : tkC} {K : tkK} {Q : tkQ} {nb : Nat} {is : List Instr} {r : List Value} {h : tkH} {a0 a1 a2 a3 : Value} {l : List Value} {x : Int32} : (tkE sx call K Q nb (.iload 4 :: is) (a0 :: a1 :: a2 :: a3 :: .int x :: l) r h) = (tkE sx call K Q nb is (a0 :: a1 :: a2 :: a3 :: .int x :: l) (.int x :: r) h) := propext ⟨fun q => q, fun q => q⟩
theorem te_aload_4 {sx : Nat × (Nat → Int32)} {call : tkC} {K : tkK} {Q : tkQ} {nb : Nat} {is : List Instr} {r : List Value} {h : tkH} {a0 a1 a2 a3 : Value} {l : List Value} {x : Nat} : (tkE sx call K Q nb (.aload 4 :: is) (a0 :: a1 :: a2 :: a3 :: .ref x :: l) r h) = (tkE sx call K Q nb is (a0 :: a1 :: a2 :: a3 :: .ref x :: l) (.ref x :: r) h) := propext ⟨fun q => q, fun q => q⟩
theorem te_lload_4 {sx : Nat × (Nat → Int32)} {call : tkC} {K : tkK} {Q : tkQ} {nb : Nat} {is : List Instr} {r : List Value} {h : tkH} {a0 a1 a2 a3 : Value} {l : List Value} {x : Int64} : (tkE sx call K Q nb (.lload 4 :: is) (a0 :: a1 :: a2 :: a3 :: .long x :: l) r h) = (tkE sx call K Q nb is (a0 :: a1 :: a2 :: a3 :: .long x :: l) (.long x :: r) h) := propext ⟨fun q => q, fun q => q⟩
theorem te_istore_4 {sx : Nat × (Nat → Int32)} {call : tkC} {K : tkK} {Q : tkQ} {nb : Nat} {is : List Instr} {r : List Value} {h : tkH} {a0 a1 a2 a3 : Value} {l : List Value} {b : Value} {x : Int32} : (tkE sx call K Q nb (.istore 4 :: is) (a0 :: a1 :: a2 :: a3 :: b :: l) (.int x :: r) h) = (tkE sx call K Q nb is (a0 :: a1 :: a2 :: tk_kl a3 :: .int x :: l) r h) := propext ⟨fun q => q, fun q => q⟩
theorem te_astore_4 {sx : Nat × (Nat → Int32)} {call : tkC} {K : tkK} {Q : tkQ} {nb : Nat} {is : List Instr} {r : List Value} {h : tkH} {a0 a1 a2 a3 : Value} {l : List Value} {b : Value} {x : Nat} : (tkE sx call K Q nb (.astore 4 :: is) (a0 :: a1 :: a2 :: a3 :: b :: l) (.ref x :: r) h) = (tkE sx call K Q nb is (a0 :: a1 :: a2 :: tk_kl a3 :: .ref x :: l) r h) := propext ⟨fun q => q, fun q => q⟩
theorem te_lstore_4 {sx : Nat × (Nat → Int32)} {call : tkC} {K : tkK} {Q : tkQ} {nb : Nat} {is : List Instr} {r : List Value} {h : tkH} {a0 a1 a2 a3 : Value} {l : List Value} {b : Value} {b2 : Value} {x : Int64} : (tkE sx call K Q nb (.lstore 4 :: is) (a0 :: a1 :: a2 :: a3 :: b :: b2 :: l) (.long x :: r) h) = (tkE sx call K Q nb is (a0 :: a1 :: a2 :: tk_kl a3 :: .long x :: .null :: l) r h) := propext ⟨fun q => q, fun q => q⟩
theorem te_iinc_4 {sx : Nat × (Nat → Int32)} {call : tkC} {K : tkK} {Q : tkQ} {nb : Nat} {is : List Instr} {r : List Value} {h : tkH} {a0 a1 a2 a3 : Value} {l : List Value} {n : Int} {x : Int32} : (tkE sx call K Q nb (.iinc 4 n :: is) (a0 :: a1 :: a2 :: a3 :: .int x :: l) r h) = (tkE sx call K Q nb is (a0 :: a1 :: a2 :: tk_kl a3 :: .int (x + Int32.ofInt n) :: l) r h) := propext ⟨fun q => q, fun q => q⟩
theorem te_iload_5 {sx : Nat × (Nat → Int32)} {call : tkC} {K : tkK} {Q : tkQ} {nb : Nat} {is : List Instr} {r : List Value} {h : tkH} {a0 a1 a2 a3 a4 : Value} {l : List Value} {x : Int32} : (tkE sx call K Q nb (.iload 5 :: is) (a0 :: a1 :: a2 :: a3 :: a4 :: .int x :: l) r h) = (tkE sx call K Q nb is (a0 :: a1 :: a2 :: a3 :: a4 :: .int x :: l) (.int x :: r) h) := propext ⟨fun q => q, fun q => q⟩
theorem te_aload_5 {sx : Nat × (Nat → Int32)} {call : tkC} {K : tkK} {Q : tkQ} {nb : Nat} {is : List Instr} {r : List Value} {h : tkH} {a0 a1 a2 a3 a4 : Value} {l : List Value} {x : Nat} : (tkE sx call K Q nb (.aload 5 :: is) (a0 :: a1 :: a2 :: a3 :: a4 :: .ref x :: l) r h) = (tkE sx call K Q nb is (a0 :: a1 :: a2 :: a3 :: a4 :: .ref x :: l) (.ref x :: r) h) := propext ⟨fun q => q, fun q => q⟩
theorem te_lload_5 {sx : Nat × (Nat → Int32)} {call : tkC} {K : tkK} {Q : tkQ} {nb : Nat} {is : List Instr} {r : List Value} {h : tkH} {a0 a1 a2 a3 a4 : Value} {l : List Value} {x : Int64} : (tkE sx call K Q nb (.lload 5 :: is) (a0 :: a1 :: a2 :: a3 :: a4 :: .long x :: l) r h) = (tkE sx call K Q nb is (a0 :: a1 :: a2 :: a3 :: a4 :: .long x :: l) (.long x :: r) h) := propext ⟨fun q => q, fun q => q⟩
theorem te_istore_5 {sx : Nat × (Nat → Int32)} {call : tkC} {K : tkK} {Q : tkQ} {nb : Nat} {is : List Instr} {r : List Value} {h : tkH} {a0 a1 a2 a3 a4 : Value} {l : List Value} {b : Value} {x : Int32} : (tkE sx call K Q nb (.istore 5 :: is) (a0 :: a1 :: a2 :: a3 :: a4 :: b :: l) (.int x :: r) h) = (tkE sx call K Q nb is (a0 :: a1 :: a2 :: a3 :: tk_kl a4 :: .int x :: l) r h) := propext ⟨fun q => q, fun q => q⟩
theorem te_astore_5 {sx : Nat × (Nat → Int32)} {call : tkC} {K : tkK} {Q : tkQ} {nb : Nat} {is : List Instr} {r : List Value} {h : tkH} {a0 a1 a2 a3 a4 : Value} {l : List Value} {b : Value} {x : Nat} : (tkE sx call K Q nb (.astore 5 :: is) (a0 :: a1 :: a2 :: a3 :: a4 :: b :: l) (.ref x :: r) h) = (tkE sx call K Q nb is (a0 :: a1 :: a2 :: a3 :: tk_kl a4 :: .ref x :: l) r h) := propext ⟨fun q => q, fun q => q⟩
theorem te_lstore_5 {sx : Nat × (Nat → Int32)} {call : tkC} {K : tkK} {Q : tkQ} {nb : Nat} {is : List Instr} {r : List Value} {h : tkH} {a0 a1 a2 a3 a4 : Value} {l : List Value} {b : Value} {b2 : Value} {x : Int64} : (tkE sx call K Q nb (.lstore 5 :: is) (a0 :: a1 :: a2 :: a3 :: a4 :: b :: b2 :: l) (.long x :: r) h) = (tkE sx call K Q nb is (a0 :: a1 :: a2 :: a3 :: tk_kl a4 :: .long x :: .null :: l) r h) := propext ⟨fun q => q, fun q => q⟩
theorem te_iinc_5 {sx : Nat × (Nat → Int32)} {call : tkC} {K : tkK} {Q : tkQ} {nb : Nat} {is : List Instr} {r : List Value} {h : tkH} {a0 a1 a2 a3 a4 : Value} {l : List Value} {n : Int} {x : Int32} : (tkE sx call K Q nb (.iinc 5 n :: is) (a0 :: a1 :: a2 :: a3 :: a4 :: .int x :: l) r h) = (tkE sx call K Q nb is (a0 :: a1 :: a2 :: a3 :: tk_kl a4 :: .int (x + Int32.ofInt n) :: l) r h) := propext ⟨fun q => q, fun q => q⟩
theorem te_iload_6 {sx : Nat × (Nat → Int32)} {call : tkC} {K : tkK} {Q : tkQ} {nb : Nat} {is : List Instr} {r : List Value} {h : tkH} {a0 a1 a2 a3 a4 a5 : Value} {l : List Value} {x : Int32} : (tkE sx call K Q nb (.iload 6 :: is) (a0 :: a1 :: a2 :: a3 :: a4 :: a5 :: .int x :: l) r h) = (tkE sx call K Q nb is (a0 :: a1 :: a2 :: a3 :: a4 :: a5 :: .int x :: l) (.int x :: r) h) := propext ⟨fun q => q, fun q => q⟩
theorem te_aload_6 {sx : Nat × (Nat → Int32)} {call : tkC} {K : tkK} {Q : tkQ} {nb : Nat} {is : List Instr} {r : List Value} {h : tkH} {a0 a1 a2 a3 a4 a5 : Value} {l : List Value} {x : Nat} : (tkE sx call K Q nb (.aload 6 :: is) (a0 :: a1 :: a2 :: a3 :: a4 :: a5 :: .ref x :: l) r h) = (tkE sx call K Q nb is (a0 :: a1 :: a2 :: a3 :: a4 :: a5 :: .ref x :: l) (.ref x :: r) h) := propext ⟨fun q => q, fun q => q⟩
theorem te_lload_6 {sx : Nat × (Nat → Int32)} {call : tkC} {K : tkK} {Q : tkQ} {nb : Nat} {is : List Instr} {r : List Value} {h : tkH} {a0 a1 a2 a3 a4 a5 : Value} {l : List Value} {x : Int64} : (tkE sx call K Q nb (.lload 6 :: is) (a0 :: a1 :: a2 :: a3 :: a4 :: a5 :: .long x :: l) r h) = (tkE sx call K Q nb is (a0 :: a1 :: a2 :: a3 :: a4 :: a5 :: .long x :: l) (.long x :: r) h) := propext ⟨fun q => q, fun q => q⟩
theorem te_istore_6 {sx : Nat × (Nat → Int32)} {call : tkC} {K : tkK} {Q : tkQ} {nb : Nat} {is : List Instr} {r : List Value} {h : tkH} {a0 a1 a2 a3 a4 a5 : Value} {l : List Value} {b : Value} {x : Int32} : (tkE sx call K Q nb (.istore 6 :: is) (a0 :: a1 :: a2 :: a3 :: a4 :: a5 :: b :: l) (.int x :: r) h) = (tkE sx call K Q nb is (a0 :: a1 :: a2 :: a3 :: a4 :: tk_kl a5 :: .int x :: l) r h) := propext ⟨fun q => q, fun q => q⟩
theorem te_astore_6 {sx : Nat × (Nat → Int32)} {call : tkC} {K : tkK} {Q : tkQ} {nb : Nat} {is : List Instr} {r : List Value} {h : tkH} {a0 a1 a2 a3 a4 a5 : Value} {l : List Value} {b : Value} {x : Nat} : (tkE sx call K Q nb (.astore 6 :: is) (a0 :: a1 :: a2 :: a3 :: a4 :: a5 :: b :: l) (.ref x :: r) h) = (tkE sx call K Q nb is (a0 :: a1 :: a2 :: a3 :: a4 :: tk_kl a5 :: .ref x :: l) r h) := propext ⟨fun q => q, fun q => q⟩
theorem te_lstore_6 {sx : Nat × (Nat → Int32)} {call : tkC} {K : tkK} {Q : tkQ} {nb : Nat} {is : List Instr} {r : List Value} {h : tkH} {a0 a1 a2 a3 a4 a5 : Value} {l : List Value} {b : Value} {b2 : Value} {x : Int64} : (tkE sx call K Q nb (.lstore 6 :: is) (a0 :: a1 :: a2 :: a3 :: a4 :: a5 :: b :: b2 :: l) (.long x :: r) h) = (tkE sx call K Q nb is (a0 :: a1 :: a2 :: a3 :: a4 :: tk_kl a5 :: .long x :: .null :: l) r h) := propext ⟨fun q => q, fun q => q⟩
theorem te_iinc_6 {sx : Nat × (Nat → Int32)} {call : tkC} {K : tkK} {Q : tkQ} {nb : Nat} {is : List Instr} {r : List Value} {h : tkH} {a0 a1 a2 a3 a4 a5 : Value} {l : List Value} {n : Int} {x : Int32} : (tkE sx call K Q nb (.iinc 6 n :: is) (a0 :: a1 :: a2 :: a3 :: a4 :: a5 :: .int x :: l) r h) = (tkE sx call K Q nb is (a0 :: a1 :: a2 :: a3 :: a4 :: tk_kl a5 :: .int (x + Int32.ofInt n) :: l) r h) := propext ⟨fun q => q, fun q => q⟩
theorem te_iload_7 {sx : Nat × (Nat → Int32)} {call : tkC} {K : tkK} {Q : tkQ} {nb : Nat} {is : List Instr} {r : List Value} {h : tkH} {a0 a1 a2 a3 a4 a5 a6 : Value} {l : List Value} {x : Int32} : (tkE sx call K Q nb (.iload 7 :: is) (a0 :: a1 :: a2 :: a3 :: a4 :: a5 :: a6 :: .int x :: l) r h) = (tkE sx call K Q nb is (a0 :: a1 :: a2 :: a3 :: a4 :: a5 :: a6 :: .int x :: l) (.int x :: r) h) := propext ⟨fun q => q, fun q => q⟩
theorem te_aload_7 {sx : Nat × (Nat → Int32)} {call : tkC} {K : tkK} {Q : tkQ} {nb : Nat} {is : List Instr} {r : List Value} {h : tkH} {a0 a1 a2 a3 a4 a5 a6 : Value} {l : List Value} {x : Nat} : (tkE sx call K Q nb (.aload 7 :: is) (a0 :: a1 :: a2 :: a3 :: a4 :: a5 :: a6 :: .ref x :: l) r h) = (tkE sx call K Q nb is (a0 :: a1 :: a2 :: a3 :: a4 :: a5 :: a6 :: .ref x :: l) (.ref x :: r) h) := propext ⟨fun q => q, fun q => q⟩
theorem te_lload_7 {sx : Nat × (Nat → Int32)} {call : tkC} {K : tkK} {Q : tkQ} {nb : Nat} {is : List Instr} {r : List Value} {h : tkH} {a0 a1 a2 a3 a4 a5 a6 : Value} {l : List Value} {x : Int64} : (tkE sx call K Q nb (.lload 7 :: is) (a0 :: a1 :: a2 :: a3 :: a4 :: a5 :: a6 :: .long x :: l) r h) = (tkE sx call K Q nb is (a0 :: a1 :: a2 :: a3 :: a4 :: a5 :: a6 :: .long x :: l) (.long x :: r) h) := propext ⟨fun q => q, fun q => q⟩
theorem te_istore_7 {sx : Nat × (Nat → Int32)} {call : tkC} {K : tkK} {Q : tkQ} {nb : Nat} {is : List Instr} {r : List Value} {h : tkH} {a0 a1 a2 a3 a4 a5 a6 : Value} {l : List Value} {b : Value} {x : Int32} : (tkE sx call K Q nb (.istore 7 :: is) (a0 :: a1 :: a2 :: a3 :: a4 :: a5 :: a6 :: b :: l) (.int x :: r) h) = (tkE sx call K Q nb is (a0 :: a1 :: a2 :: a3 :: a4 :: a5 :: tk_kl a6 :: .int x :: l) r h) := propext ⟨fun q => q, fun q => q⟩
theorem te_astore_7 {sx : Nat × (Nat → Int32)} {call : tkC} {K : tkK} {Q : tkQ} {nb : Nat} {is : List Instr} {r : List Value} {h : tkH} {a0 a1 a2 a3 a4 a5 a6 : Value} {l : List Value} {b : Value} {x : Nat} : (tkE sx call K Q nb (.astore 7 :: is) (a0 :: a1 :: a2 :: a3 :: a4 :: a5 :: a6 :: b :: l) (.ref x :: r) h) = (tkE sx call K Q nb is (a0 :: a1 :: a2 :: a3 :: a4 :: a5 :: tk_kl a6 :: .ref x :: l) r h) := propext ⟨fun q => q, fun q => q⟩
theorem te_lstore_7 {sx : Nat × (Nat → Int32)} {call : tkC} {K : tkK} {Q : tkQ} {nb : Nat} {is : List Instr} {r : List Value} {h : tkH} {a0 a1 a2 a3 a4 a5 a6 : Value} {l : List Value} {b : Value} {b2 : Value} {x : Int64} : (tkE sx call K Q nb (.lstore 7 :: is) (a0 :: a1 :: a2 :: a3 :: a4 :: a5 :: a6 :: b :: b2 :: l) (.long x :: r) h) = (tkE sx call K Q nb is (a0 :: a1 :: a2 :: a3 :: a4 :: a5 :: tk_kl a6 :: .long x :: .null :: l) r h) := propext ⟨fun q => q, fun q => q⟩
theorem te_iinc_7 {sx : Nat × (Nat → Int32)} {call : tkC} {K : tkK} {Q : tkQ} {nb : Nat} {is : List Instr} {r : List Value} {h : tkH} {a0 a1 a2 a3 a4 a5 a6 : Value} {l : List Value} {n : Int} {x : Int32} : (tkE sx call K Q nb (.iinc 7 n :: is) (a0 :: a1 :: a2 :: a3 :: a4 :: a5 :: a6 :: .int x :: l) r h) = (tkE sx call K Q nb is (a0 :: a1 :: a2 :: a3 :: a4 :: a5 :: tk_kl a6 :: .int (x + Int32.ofInt n) :: l) r h) := propext ⟨fun q => q, fun q => q⟩
theorem te_iload_8 {sx : Nat × (Nat → Int32)} {call : tkC} {K : tkK} {Q : tkQ} {nb : Nat} {is : List Instr} {r : List Value} {h : tkH} {a0 a1 a2 a3 a4 a5 a6 a7 : Value} {l : List Value} {x : Int32} : (tkE sx call K Q nb (.iload 8 :: is) (a0 :: a1 :: a2 :: a3 :: a4 :: a5 :: a6 :: a7 :: .int x :: l) r h) = (tkE sx call K Q nb is (a0 :: a1 :: a2 :: a3 :: a4 :: a5 :: a6 :: a7 :: .int x :: l) (.int x :: r) h) := propext ⟨fun q => q, fun q => q⟩
theorem te_aload_8 {sx : Nat × (Nat → Int32)} {call : tkC} {K : tkK} {Q : tkQ} {nb : Nat} {is : List Instr} {r : List Value} {h : tkH} {a0 a1 a2 a3 a4 a5 a6 a7 : Value} {l : List Value} {x : Nat} : (tkE sx call K Q nb (.aload 8 :: is) (a0 :: a1 :: a2 :: a3 :: a4 :: a5 :: a6 :: a7 :: .ref x :: l) r h) = (tkE sx call K Q nb is (a0 :: a1 :: a2 :: a3 :: a4 :: a5 :: a6 :: a7 :: .ref x :: l) (.ref x :: r) h) := propext ⟨fun q => q, fun q => q⟩
theorem te_lload_8 {sx : Nat × (Nat → Int32)} {call : tkC} {K : tkK} {Q : tkQ} {nb : Nat} {is : List Instr} {r : List Value} {h : tkH} {a0 a1 a2 a3 a4 a5 a6 a7 : Value} {l : List Value} {x : Int64} : (tkE sx call K Q nb (.lload 8 :: is) (a0 :: a1 :: a2 :: a3 :: a4 :: a5 :: a6 :: a7 :: .long x :: l) r h) = (tkE sx call K Q nb is (a0 :: a1 :: a2 :: a3 :: a4 :: a5 :: a6 :: a7 :: .long x :: l) (.long x :: r) h) := propext ⟨fun q => q, fun q => q⟩
theorem te_istore_8 {sx : Nat × (Nat → Int32)} {call : tkC} {K : tkK} {Q : tkQ} {nb : Nat} {is : List Instr} {r : List Value} {h : tkH} {a0 a1 a2 a3 a4 a5 a6 a7 : Value} {l : List Value} {b : Value} {x : Int32} : (tkE sx call K Q nb (.istore 8 :: is) (a0 :: a1 :: a2 :: a3 :: a4 :: a5 :: a6 :: a7 :: b :: l) (.int x :: r) h) = (tkE sx call K Q nb is (a0 :: a1 :: a2 :: a3 :: a4 :: a5 :: a6 :: tk_kl a7 :: .int x :: l) r h) := propext ⟨fun q => q, fun q => q⟩
theorem te_astore_8 {sx : Nat × (Nat → Int32)} {call : tkC} {K : tkK} {Q : tkQ} {nb : Nat} {is : List Instr} {r : List Value} {h : tkH} {a0 a1 a2 a3 a4 a5 a6 a7 : Value} {l : List Value} {b : Value} {x : Nat} : (tkE sx call K Q nb (.astore 8 :: is) (a0 :: a1 :: a2 :: a3 :: a4 :: a5 :: a6 :: a7 :: b :: l) (.ref x :: r) h) = (tkE sx call K Q nb is (a0 :: a1 :: a2 :: a3 :: a4 :: a5 :: a6 :: tk_kl a7 :: .ref x :: l) r h) := propext ⟨fun q => q, fun q => q⟩
theorem te_lstore_8 {sx : Nat × (Nat → Int32)} {call : tkC} {K : tkK} {Q : tkQ} {nb : Nat} {is : List Instr} {r : List Value} {h : tkH} {a0 a1 a2 a3 a4 a5 a6 a7 : Value} {l : List Value} {b : Value} {b2 : Value} {x : Int64} : (tkE sx call K Q nb (.lstore 8 :: is) (a0 :: a1 :: a2 :: a3 :: a4 :: a5 :: a6 :: a7 :: b :: b2 :: l) (.long x :: r) h) = (tkE sx call K Q nb is (a0 :: a1 :: a2 :: a3 :: a4 :: a5 :: a6 :: tk_kl a7 :: .long x :: .null :: l) r h) := propext ⟨fun q => q, fun q => q⟩
theorem te_iinc_8 {sx : Nat × (Nat → Int32)} {call : tkC} {K : tkK} {Q : tkQ} {nb : Nat} {is : List Instr} {r : List Value} {h : tkH} {a0 a1 a2 a3 a4 a5 a6 a7 : Value} {l : List Value} {n : Int} {x : Int32} : (tkE sx call K Q nb (.iinc 8 n :: is) (a0 :: a1 :: a2 :: a3 :: a4 :: a5 :: a6 :: a7 :: .int x :: l) r h) = (tkE sx call K Q nb is (a0 :: a1 :: a2 :: a3 :: a4 :: a5 :: a6 :: tk_kl a7 :: .int (x + Int32.ofInt n) :: l) r h) := propext ⟨fun q => q, fun q => q⟩
theorem te_iload_9 {sx : Nat × (Nat → Int32)} {call : tkC} {K : tkK} {Q : tkQ} {nb : Nat} {is : List Instr} {r : List Value} {h : tkH} {a0 a1 a2 a3 a4 a5 a6 a7 a8 : Value} {l : List Value} {x : Int32} : (tkE sx call K Q nb (.iload 9 :: is) (a0 :: a1 :: a2 :: a3 :: a4 :: a5 :: a6 :: a7 :: a8 :: .int x :: l) r h) = (tkE sx call K Q nb is (a0 :: a1 :: a2 :: a3 :: a4 :: a5 :: a6 :: a7 :: a8 :: .int x :: l) (.int x :: r) h) := propext ⟨fun q => q, fun q => q⟩
theorem te_aload_9 {sx : Nat × (Nat → Int32)} {call : tkC} {K : tkK} {Q : tkQ} {nb : Nat} {is : List Instr} {r : List Value} {h : tkH} {a0 a1 a2 a3 a4 a5 a6 a7 a8 : Value} {l : List Value} {x : Nat} : (tkE sx call K Q nb (.aload 9 :: is) (a0 :: a1 :: a2 :: a3 :: a4 :: a5 :: a6 :: a7 :: a8 :: .ref x :: l) r h) = (tkE sx call K Q nb is (a0 :: a1 :: a2 :: a3 :: a4 :: a5 :: a6 :: a7 :: a8 :: .ref x :: l) (.ref x :: r) h) := propext ⟨fun q => q, fun q => q⟩
theorem te_lload_9 {sx : Nat × (Nat → Int32)} {call : tkC} {K : tkK} {Q : tkQ} {nb : Nat} {is : List Instr} {r : List Value} {h : tkH} {a0 a1 a2 a3 a4 a5 a6 a7 a8 : Value} {l : List Value} {x : Int64} : (tkE sx call K Q nb (.lload 9 :: is) (a0 :: a1 :: a2 :: a3 :: a4 :: a5 :: a6 :: a7 :: a8 :: .long x :: l) r h) = (tkE sx call K Q nb is (a0 :: a1 :: a2 :: a3 :: a4 :: a5 :: a6 :: a7 :: a8 :: .long x :: l) (.long x :: r) h) := propext ⟨fun q => q, fun q => q⟩
theorem te_istore_9 {sx : Nat × (Nat → Int32)} {call : tkC} {K : tkK} {Q : tkQ} {nb : Nat} {is : List Instr} {r : List Value} {h : tkH} {a0 a1 a2 a3 a4 a5 a6 a7 a8 : Value} {l : List Value} {b : Value} {x : Int32} : (tkE sx call K Q nb (.istore 9 :: is) (a0 :: a1 :: a2 :: a3 :: a4 :: a5 :: a6 :: a7 :: a8 :: b :: l) (.int x :: r) h) = (tkE sx call K Q nb is (a0 :: a1 :: a2 :: a3 :: a4 :: a5 :: a6 :: a7 :: tk_kl a8 :: .int x :: l) r h) := propext ⟨fun q => q, fun q => q⟩
theorem te_astore_9 {sx : Nat × (Nat → Int32)} {call : tkC} {K : tkK} {Q : tkQ} {nb : Nat} {is : List Instr} {r : List Value} {h : tkH} {a0 a1 a2 a3 a4 a5 a6 a7 a8 : Value} {l : List Value} {b : Value} {x : Nat} : (tkE sx call K Q nb (.astore 9 :: is) (a0 :: a1 :: a2 :: a3 :: a4 :: a5 :: a6 :: a7 :: a8 :: b :: l) (.ref x :: r) h) = (tkE sx call K Q nb is (a0 :: a1 :: a2 :: a3 :: a4 :: a5 :: a6 :: a7 :: tk_kl a8 :: .ref x :: l) r h) := propext ⟨fun q => q, fun q => q⟩
theorem te_lstore_9 {sx : Nat × (Nat → Int32)} {call : tkC} {K : tkK} {Q : tkQ} {nb : Nat} {is : List Instr} {r : List Value} {h : tkH} {a0 a1 a2 a3 a4 a5 a6 a7 a8 : Value} {l : List Value} {b : Value} {b2 : Value} {x : Int64} : (tkE sx call K Q nb (.lstore 9 :: is) (a0 :: a1 :: a2 :: a3 :: a4 :: a5 :: a6 :: a7 :: a8 :: b :: b2 :: l) (.long x :: r) h) = (tkE sx call K Q nb is (a0 :: a1 :: a2 :: a3 :: a4 :: a5 :: a6 :: a7 :: tk_kl a8 :: .long x :: .null :: l) r h) := propext ⟨fun q => q, fun q => q⟩
theorem te_iinc_9 {sx : Nat × (Nat → Int32)} {call : tkC} {K : tkK} {Q : tkQ} {nb : Nat} {is : List Instr} {r : List Value} {h : tkH} {a0 a1 a2 a3 a4 a5 a6 a7 a8 : Value} {l : List Value} {n : Int} {x : Int32} : (tkE sx call K Q nb (.iinc 9 n :: is) (a0 :: a1 :: a2 :: a3 :: a4 :: a5 :: a6 :: a7 :: a8 :: .int x :: l) r h) = (tkE sx call K Q nb is (a0 :: a1 :: a2 :: a3 :: a4 :: a5 :: a6 :: a7 :: tk_kl a8 :: .int (x + Int32.ofInt n) :: l) r h) := propext ⟨fun q => q, fun q => q⟩
theorem te_iload_10 {sx : Nat × (Nat → Int32)} {call : tkC} {K : tkK} {Q : tkQ} {nb : Nat} {is : List Instr} {r : List Value} {h : tkH} {a0 a1 a2 a3 a4 a5 a6 a7 a8 a9 : Value} {l : List Value} {x : Int32} : (tkE sx call K Q nb (.iload 10 :: is) (a0 :: a1 :: a2 :: a3 :: a4 :: a5 :: a6 :: a7 :: a8 :: a9 :: .int x :: l) r h) = (tkE sx call K Q nb is (a0 :: a1 :: a2 :: a3 :: a4 :: a5 :: a6 :: a7 :: a8 :: a9 :: .int x :: l) (.int x :: r) h) := propext ⟨fun q => q, fun q => q⟩
theorem te_aload_10 {sx : Nat × (Nat → Int32)} {call : tkC} {K : tkK} {Q : tkQ} {nb : Nat} {is : List Instr} {r : List Value} {h : tkH} {a0 a1 a2 a3 a4 a5 a6 a7 a8 a9 : Value} {l : List Value} {x : Nat} : (tkE sx call K Q nb (.aload 10 :: is) (a0 :: a1 :: a2 :: a3 :: a4 :: a5 :: a6 :: a7 :: a8 :: a9 :: .ref x :: l) r h) = (tkE sx call K Q nb is (a0 :: a1 :: a2 :: a3 :: a4 :: a5 :: a6 :: a7 :: a8 :: a9 :: .ref x :: l) (.ref x :: r) h) := propext ⟨fun q => q, fun q => q⟩
theorem te_lload_10 {sx : Nat × (Nat → Int32)} {call : tkC} {K : tkK} {Q : tkQ} {nb : Nat} {is : List Instr} {r : List Value} {h : tkH} {a0 a1 a2 a3 a4 a5 a6 a7 a8 a9 : Value} {l : List Value} {x : Int64} : (tkE sx call K Q nb (.lload 10 :: is) (a0 :: a1 :: a2 :: a3 :: a4 :: a5 :: a6 :: a7 :: a8 :: a9 :: .long x :: l) r h) = (tkE sx call K Q nb is (a0 :: a1 :: a2 :: a3 :: a4 :: a5 :: a6 :: a7 :: a8 :: a9 :: .long x :: l) (.long x :: r) h) := propext ⟨fun q => q, fun q => q⟩
theorem te_istore_10 {sx : Nat × (Nat → Int32)} {call : tkC} {K : tkK} {Q : tkQ} {nb : Nat} {is : List Instr} {r : List Value} {h : tkH} {a0 a1 a2 a3 a4 a5 a6 a7 a8 a9 : Value} {l : List Value} {b : Value} {x : Int32} : (tkE sx call K Q nb (.istore 10 :: is) (a0 :: a1 :: a2 :: a3 :: a4 :: a5 :: a6 :: a7 :: a8 :: a9 :: b :: l) (.int x :: r) h) = (tkE sx call K Q nb is (a0 :: a1 :: a2 :: a3 :: a4 :: a5 :: a6 :: a7 :: a8 :: tk_kl a9 :: .int x :: l) r h) := propext ⟨fun q => q, fun q => q⟩
theorem te_astore_10 {sx : Nat × (Nat → Int32)} {call : tkC} {K : tkK} {Q : tkQ} {nb : Nat} {is : List Instr} {r : List Value} {h : tkH} {a0 a1 a2 a3 a4 a5 a6 a7 a8 a9 : Value} {l : List Value} {b : Value} {x : Nat} : (tkE sx call K Q nb (.astore 10 :: is) (a0 :: a1 :: a2 :: a3 :: a4 :: a5 :: a6 :: a7 :: a8 :: a9 :: b :: l) (.ref x :: r) h) = (tkE sx call K Q nb is (a0 :: a1 :: a2 :: a3 :: a4 :: a5 :: a6 :: a7 :: a8 :: tk_kl a9 :: .ref x :: l) r h) := propext ⟨fun q => q, fun q => q⟩
theorem te_lstore_10 {sx : Nat × (Nat → Int32)} {call : tkC} {K : tkK} {Q : tkQ} {nb : Nat} {is : List Instr} {r : List Value} {h : tkH} {a0 a1 a2 a3 a4 a5 a6 a7 a8 a9 : Value} {l : List Value} {b : Value} {b2 : Value} {x : Int64} : (tkE sx call K Q nb (.lstore 10 :: is) (a0 :: a1 :: a2 :: a3 :: a4 :: a5 :: a6 :: a7 :: a8 :: a9 :: b :: b2 :: l) (.long x :: r) h) = (tkE sx call K Q nb is (a0 :: a1 :: a2 :: a3 :: a4 :: a5 :: a6 :: a7 :: a8 :: tk_kl a9 :: .long x :: .null :: l) r h) := propext ⟨fun q => q, fun q => q⟩
theorem te_iinc_10 {sx : Nat × (Nat → Int32)} {call : tkC} {K : tkK} {Q : tkQ} {nb : Nat} {is : List Instr} {r : List Value} {h : tkH} {a0 a1 a2 a3 a4 a5 a6 a7 a8 a9 : Value} {l : List Value} {n : Int} {x : Int32} : (tkE sx call K Q nb (.iinc 10 n :: is) (a0 :: a1 :: a2 :: a3 :: a4 :: a5 :: a6 :: a7 :: a8 :: a9 :: .int x :: l) r h) = (tkE sx call K Q nb is (a0 :: a1 :: a2 :: a3 :: a4 :: a5 :: a6 :: a7 :: a8 :: tk_kl a9 :: .int (x + Int32.ofInt n) :: l) r h) := propext ⟨fun q => q, fun q => q⟩
theorem te_iadd {sx : Nat × (Nat → Int32)} {call : tkC} {K : tkK} {Q : tkQ} {nb : Nat} {is : List Instr} {ls r : List Value} {h : tkH} {x y : Int32} : (tkE sx call K Q nb (.iadd :: is) ls (.int y :: .int x :: r) h) = (tkE sx call K Q nb is ls (.int (x + y) :: r) h) := propext ⟨fun q => q, fun q => q⟩
theorem te_isub {sx : Nat × (Nat → Int32)} {call : tkC} {K : tkK} {Q : tkQ} {nb : Nat} {is : List Instr} {ls r : List Value} {h : tkH} {x y : Int32} : (tkE sx call K Q nb (.isub :: is) ls (.int y :: .int x :: r) h) = (tkE sx call K Q nb is ls (.int (x - y) :: r) h) := propext ⟨fun q => q, fun q => q⟩
theorem te_imul {sx : Nat × (Nat → Int32)} {call : tkC} {K : tkK} {Q : tkQ} {nb : Nat} {is : List Instr} {ls r : List Value} {h : tkH} {x y : Int32} : (tkE sx call K Q nb (.imul :: is) ls (.int y :: .int x :: r) h) = (tkE sx call K Q nb is ls (.int (x * y) :: r) h) := propext ⟨fun q => q, fun q => q⟩
theorem te_iand {sx : Nat × (Nat → Int32)} {call : tkC} {K : tkK} {Q : tkQ} {nb : Nat} {is : List Instr} {ls r : List Value} {h : tkH} {x y : Int32} : (tkE sx call K Q nb (.iand :: is) ls (.int y :: .int x :: r) h) = (tkE sx call K Q nb is ls (.int (x &&& y) :: r) h) := propext ⟨fun q => q, fun q => q⟩
theorem te_ior {sx : Nat × (Nat → Int32)} {call : tkC} {K : tkK} {Q : tkQ} {nb : Nat} {is : List Instr} {ls r : List Value} {h : tkH} {x y : Int32} : (tkE sx call K Q nb (.ior :: is) ls (.int y :: .int x :: r) h) = (tkE sx call K Q nb is ls (.int (x ||| y) :: r) h) := propext ⟨fun q => q, fun q => q⟩
theorem te_ixor {sx : Nat × (Nat → Int32)} {call : tkC} {K : tkK} {Q : tkQ} {nb : Nat} {is : List Instr} {ls r : List Value} {h : tkH} {x y : Int32} : (tkE sx call K Q nb (.ixor :: is) ls (.int y :: .int x :: r) h) = (tkE sx call K Q nb is ls (.int (x ^^^ y) :: r) h) := propext ⟨fun q => q, fun q => q⟩
theorem te_ishl {sx : Nat × (Nat → Int32)} {call : tkC} {K : tkK} {Q : tkQ} {nb : Nat} {is : List Instr} {ls r : List Value} {h : tkH} {x y : Int32} : (tkE sx call K Q nb (.ishl :: is) ls (.int y :: .int x :: r) h) = (tkE sx call K Q nb is ls (.int (x <<< (y &&& 31)) :: r) h) := propext ⟨fun q => q, fun q => q⟩
theorem te_ishr {sx : Nat × (Nat → Int32)} {call : tkC} {K : tkK} {Q : tkQ} {nb : Nat} {is : List Instr} {ls r : List Value} {h : tkH} {x y : Int32} : (tkE sx call K Q nb (.ishr :: is) ls (.int y :: .int x :: r) h) = (tkE sx call K Q nb is ls (.int (x >>> (y &&& 31)) :: r) h) := propext ⟨fun q => q, fun q => q⟩
theorem te_iushr {sx : Nat × (Nat → Int32)} {call : tkC} {K : tkK} {Q : tkQ} {nb : Nat} {is : List Instr} {ls r : List Value} {h : tkH} {x y : Int32} : (tkE sx call K Q nb (.iushr :: is) ls (.int y :: .int x :: r) h) = (tkE sx call K Q nb is ls (.int ((x.toUInt32 >>> (y.toUInt32 &&& Int32.toUInt32 31)).toInt32) :: r) h) := propext ⟨fun q => q, fun q => q⟩
theorem te_idiv {sx : Nat × (Nat → Int32)} {call : tkC} {K : tkK} {Q : tkQ} {nb : Nat} {is : List Instr} {ls r : List Value} {h : tkH} {x y : Int32} : (tkE sx call K Q nb (.idiv :: is) ls (.int y :: .int x :: r) h) = (¬ y = nI 0 ∧ tkE sx call K Q nb is ls (.int (x / y) :: r) h) := propext ⟨fun q => q, fun q => q⟩
theorem te_irem {sx : Nat × (Nat → Int32)} {call : tkC} {K : tkK} {Q : tkQ} {nb : Nat} {is : List Instr} {ls r : List Value} {h : tkH} {x y : Int32} : (tkE sx call K Q nb (.irem :: is) ls (.int y :: .int x :: r) h) = (¬ y = nI 0 ∧ tkE sx call K Q nb is ls (.int (ire x y) :: r) h) := propext ⟨fun q => q, fun q => q⟩
theorem te_ladd {sx : Nat × (Nat → Int32)} {call : tkC} {K : tkK} {Q : tkQ} {nb : Nat} {is : List Instr} {ls r : List Value} {h : tkH} {x y : Int64} : (tkE sx call K Q nb (.ladd :: is) ls (.long y :: .long x :: r) h) = (tkE sx call K Q nb is ls (.long (x + y) :: r) h) := propext ⟨fun q => q, fun q => q⟩
theorem te_lmul {sx : Nat × (Nat → Int32)} {call : tkC} {K : tkK} {Q : tkQ} {nb : Nat} {is : List Instr} {ls r : List Value} {h : tkH} {x y : Int64} : (tkE sx call K Q nb (.lmul :: is) ls (.long y :: .long x :: r) h) = (tkE sx call K Q nb is ls (.long (x * y) :: r) h) := propext ⟨fun q => q, fun q => q⟩
theorem te_land {sx : Nat × (Nat → Int32)} {call : tkC} {K : tkK} {Q : tkQ} {nb : Nat} {is : List Instr} {ls r : List Value} {h : tkH} {x y : Int64} : (tkE sx call K Q nb (.land :: is) ls (.long y :: .long x :: r) h) = (tkE sx call K Q nb is ls (.long (x &&& y) :: r) h) := propext ⟨fun q => q, fun q => q⟩
theorem te_lor {sx : Nat × (Nat → Int32)} {call : tkC} {K : tkK} {Q : tkQ} {nb : Nat} {is : List Instr} {ls r : List Value} {h : tkH} {x y : Int64} : (tkE sx call K Q nb (.lor :: is) ls (.long y :: .long x :: r) h) = (tkE sx call K Q nb is ls (.long (x ||| y) :: r) h) := propext ⟨fun q => q, fun q => q⟩
theorem te_lshl {sx : Nat × (Nat → Int32)} {call : tkC} {K : tkK} {Q : tkQ} {nb : Nat} {is : List Instr} {ls r : List Value} {h : tkH} {x : Int64} {y : Int32} : (tkE sx call K Q nb (.lshl :: is) ls (.int y :: .long x :: r) h) = (tkE sx call K Q nb is ls (.long (x <<< (y.toInt64 &&& 63)) :: r) h) := propext ⟨fun q => q, fun q => q⟩
theorem te_lushr {sx : Nat × (Nat → Int32)} {call : tkC} {K : tkK} {Q : tkQ} {nb : Nat} {is : List Instr} {ls r : List Value} {h : tkH} {x : Int64} {y : Int32} : (tkE sx call K Q nb (.lushr :: is) ls (.int y :: .long x :: r) h) = (tkE sx call K Q nb is ls (.long (x.toUInt64 >>> (y.toInt64.toUInt64 &&& Int64.toUInt64 63)).toInt64 :: r) h) := propext ⟨fun q => q, fun q => q⟩
theorem te_lcmp {sx : Nat × (Nat → Int32)} {call : tkC} {K : tkK} {Q : tkQ} {nb : Nat} {is : List Instr} {ls r : List Value} {h : tkH} {x y : Int64} : (tkE sx call K Q nb (.lcmp :: is) ls (.long y :: .long x :: r) h) = (tkE sx call K Q nb is ls (.int (lg_cmp x y) :: r) h) := propext ⟨fun q => q, fun q => q⟩
theorem te_i2l {sx : Nat × (Nat → Int32)} {call : tkC} {K : tkK} {Q : tkQ} {nb : Nat} {is : List Instr} {ls r : List Value} {h : tkH} {x : Int32} : (tkE sx call K Q nb (.i2l :: is) ls (.int x :: r) h) = (tkE sx call K Q nb is ls (.long x.toInt64 :: r) h) := propext ⟨fun q => q, fun q => q⟩
theorem te_getfield {sx : Nat × (Nat → Int32)} {call : tkC} {K : tkK} {Q : tkQ} {nb : Nat} {is : List Instr} {ls r : List Value} {h : tkH} {n a : Nat} : (tkE sx call K Q nb (.getfield n :: is) ls (.ref a :: r) h) = ((tkSh a).1 = n / 64 ∧ tkE sx call K Q nb is ls (.int (h.1 a (n % 64)) :: r) h) := propext ⟨fun q => q, fun q => q⟩
theorem te_getref {sx : Nat × (Nat → Int32)} {call : tkC} {K : tkK} {Q : tkQ} {nb : Nat} {is : List Instr} {ls r : List Value} {h : tkH} {n a : Nat} : (tkE sx call K Q nb (.getstatic n :: is) ls (.ref a :: r) h) = ((tkSh a).1 = n / 64 ∧ tkE sx call K Q nb is ls (.ref (tkRf a (n % 64)) :: r) h) := propext ⟨fun q => q, fun q => q⟩
theorem te_putfield {sx : Nat × (Nat → Int32)} {call : tkC} {K : tkK} {Q : tkQ} {nb : Nat} {is : List Instr} {ls r : List Value} {h : tkH} {n a : Nat} {v : Int32} : (tkE sx call K Q nb (.putfield n :: is) ls (.int v :: .ref a :: r) h) = ((tkSh a).1 = n / 64 ∧ tkE sx call K Q nb is ls r (up2 h.1 a (n % 64) v, h.2)) := propext ⟨fun q => q, fun q => q⟩
theorem te_putbool {sx : Nat × (Nat → Int32)} {call : tkC} {K : tkK} {Q : tkQ} {nb : Nat} {is : List Instr} {ls r : List Value} {h : tkH} {n a : Nat} {v : Int32} : (tkE sx call K Q nb (.putstatic n :: is) ls (.int v :: .ref a :: r) h) = ((tkSh a).1 = n / 64 ∧ (v = 0 ∨ v = 1) ∧ tkE sx call K Q nb is ls r (up2 h.1 a (n % 64) v, h.2)) := propext ⟨fun q => q, fun q => q⟩
theorem te_iaload {sx : Nat × (Nat → Int32)} {call : tkC} {K : tkK} {Q : tkQ} {nb : Nat} {is : List Instr} {ls r : List Value} {h : tkH} {a : Nat} {j : Int32} : (tkE sx call K Q nb (.iaload :: is) ls (.int j :: .ref a :: r) h) = ((tkSh a).1 = 64 ∧ vp_in j (tkSh a).2 ∧ tkE sx call K Q nb is ls (.int (h.1 a j.toNatClampNeg) :: r) h) := propext ⟨fun q => q, fun q => q⟩
theorem te_baload {sx : Nat × (Nat → Int32)} {call : tkC} {K : tkK} {Q : tkQ} {nb : Nat} {is : List Instr} {ls r : List Value} {h : tkH} {a : Nat} {j : Int32} : (tkE sx call K Q nb (.baload :: is) ls (.int j :: .ref a :: r) h) = ((tkSh a).1 = 65 ∧ vp_in j (tkSh a).2 ∧ tkE sx call K Q nb is ls (.int (h.1 a j.toNatClampNeg) :: r) h) := propext ⟨fun q => q, fun q => q⟩
theorem te_laload {sx : Nat × (Nat → Int32)} {call : tkC} {K : tkK} {Q : tkQ} {nb : Nat} {is : List Instr} {ls r : List Value} {h : tkH} {a : Nat} {j : Int32} : (tkE sx call K Q nb (.laload :: is) ls (.int j :: .ref a :: r) h) = ((tkSh a).1 = 66 ∧ vp_in j (tkSh a).2 ∧ tkE sx call K Q nb is ls (.long (h.2 a j.toNatClampNeg) :: r) h) := propext ⟨fun q => q, fun q => q⟩
theorem te_aaload {sx : Nat × (Nat → Int32)} {call : tkC} {K : tkK} {Q : tkQ} {nb : Nat} {is : List Instr} {ls r : List Value} {h : tkH} {a : Nat} {j : Int32} : (tkE sx call K Q nb (.aaload :: is) ls (.int j :: .ref a :: r) h) = ((tkSh a).1 = 67 ∧ vp_in j (tkSh a).2 ∧ tkE sx call K Q nb is ls (.ref (tkRf a j.toNatClampNeg) :: r) h) := propext ⟨fun q => q, fun q => q⟩
theorem te_caload {sx : Nat × (Nat → Int32)} {call : tkC} {K : tkK} {Q : tkQ} {nb : Nat} {is : List Instr} {ls r : List Value} {h : tkH} {a : Nat} {j : Int32} : (tkE sx call K Q nb (.caload :: is) ls (.int j :: .ref a :: r) h) = (a = 1000 ∧ vp_in j sx.1 ∧ tkE sx call K Q nb is ls (.int (sx.2 j.toNatClampNeg) :: r) h) := propext ⟨fun q => q, fun q => q⟩
theorem te_castore {sx : Nat × (Nat → Int32)} {call : tkC} {K : tkK} {Q : tkQ} {nb : Nat} {is : List Instr} {ls r : List Value} {h : tkH} {a : Nat} : (tkE sx call K Q nb (.castore :: is) ls (.ref a :: r) h) = (a = 1000 ∧ tkE sx call K Q nb is ls (.int (Int32.ofNat sx.1) :: r) h) := propext ⟨fun q => q, fun q => q⟩
theorem te_iastore {sx : Nat × (Nat → Int32)} {call : tkC} {K : tkK} {Q : tkQ} {nb : Nat} {is : List Instr} {ls r : List Value} {h : tkH} {a : Nat} {j v : Int32} : (tkE sx call K Q nb (.iastore :: is) ls (.int v :: .int j :: .ref a :: r) h) = ((tkSh a).1 = 64 ∧ vp_in j (tkSh a).2 ∧ tkE sx call K Q nb is ls r (up2 h.1 a j.toNatClampNeg v, h.2)) := propext ⟨fun q => q, fun q => q⟩
theorem te_bastore {sx : Nat × (Nat → Int32)} {call : tkC} {K : tkK} {Q : tkQ} {nb : Nat} {is : List Instr} {ls r : List Value} {h : tkH} {a : Nat} {j v : Int32} : (tkE sx call K Q nb (.bastore :: is) ls (.int v :: .int j :: .ref a :: r) h) = ((tkSh a).1 = 65 ∧ vp_in j (tkSh a).2 ∧ (v = 0 ∨ v = 1) ∧ tkE sx call K Q nb is ls r (up2 h.1 a j.toNatClampNeg v, h.2)) := propext ⟨fun q => q, fun q => q⟩
theorem te_lastore {sx : Nat × (Nat → Int32)} {call : tkC} {K : tkK} {Q : tkQ} {nb : Nat} {is : List Instr} {ls r : List Value} {h : tkH} {a : Nat} {j : Int32} {v : Int64} : (tkE sx call K Q nb (.lastore :: is) ls (.long v :: .int j :: .ref a :: r) h) = ((tkSh a).1 = 66 ∧ vp_in j (tkSh a).2 ∧ tkE sx call K Q nb is ls r (h.1, up2L h.2 a j.toNatClampNeg v)) := propext ⟨fun q => q, fun q => q⟩
theorem te_arraylength {sx : Nat × (Nat → Int32)} {call : tkC} {K : tkK} {Q : tkQ} {nb : Nat} {is : List Instr} {ls r : List Value} {h : tkH} {a : Nat} : (tkE sx call K Q nb (.arraylength :: is) ls (.ref a :: r) h) = (((tkSh a).1 = 64 ∨ (tkSh a).1 = 66) ∧ tkE sx call K Q nb is ls (.int (Int32.ofNat (tkSh a).2) :: r) h) := propext ⟨fun q => q, fun q => q⟩
theorem te_icmp_eq {sx : Nat × (Nat → Int32)} {call : tkC} {K : tkK} {Q : tkQ} {nb : Nat} {is : List Instr} {ls r : List Value} {h : tkH} {x y : Int32} {t : Int} : (tkE sx call K Q nb (.if_icmp .eq t :: is) ls (.int y :: .int x :: r) h) = ((x = y → K t.toNat ls r h) ∧ (¬ (x = y) → tkE sx call K Q nb is ls r h)) := propext ⟨fun q => q, fun q => q⟩
theorem te_if_eq {sx : Nat × (Nat → Int32)} {call : tkC} {K : tkK} {Q : tkQ} {nb : Nat} {is : List Instr} {ls r : List Value} {h : tkH} {x : Int32} {t : Int} : (tkE sx call K Q nb (.ifCond .eq t :: is) ls (.int x :: r) h) = ((x = nI 0 → K t.toNat ls r h) ∧ (¬ (x = nI 0) → tkE sx call K Q nb is ls r h)) := propext ⟨fun q => q, fun q => q⟩
theorem te_icmp_ne {sx : Nat × (Nat → Int32)} {call : tkC} {K : tkK} {Q : tkQ} {nb : Nat} {is : List Instr} {ls r : List Value} {h : tkH} {x y : Int32} {t : Int} : (tkE sx call K Q nb (.if_icmp .ne t :: is) ls (.int y :: .int x :: r) h) = ((¬ x = y → K t.toNat ls r h) ∧ (¬ ¬ x = y → tkE sx call K Q nb is ls r h)) := propext ⟨fun q => q, fun q => q⟩
theorem te_if_ne {sx : Nat × (Nat → Int32)} {call : tkC} {K : tkK} {Q : tkQ} {nb : Nat} {is : List Instr} {ls r : List Value} {h : tkH} {x : Int32} {t : Int} : (tkE sx call K Q nb (.ifCond .ne t :: is) ls (.int x :: r) h) = ((¬ x = nI 0 → K t.toNat ls r h) ∧ (¬ ¬ x = nI 0 → tkE sx call K Q nb is ls r h)) := propext ⟨fun q => q, fun q => q⟩
theorem te_icmp_lt {sx : Nat × (Nat → Int32)} {call : tkC} {K : tkK} {Q : tkQ} {nb : Nat} {is : List Instr} {ls r : List Value} {h : tkH} {x y : Int32} {t : Int} : (tkE sx call K Q nb (.if_icmp .lt t :: is) ls (.int y :: .int x :: r) h) = ((x < y → K t.toNat ls r h) ∧ (¬ (x < y) → tkE sx call K Q nb is ls r h)) := propext ⟨fun q => q, fun q => q⟩
theorem te_if_lt {sx : Nat × (Nat → Int32)} {call : tkC} {K : tkK} {Q : tkQ} {nb : Nat} {is : List Instr} {ls r : List Value} {h : tkH} {x : Int32} {t : Int} : (tkE sx call K Q nb (.ifCond .lt t :: is) ls (.int x :: r) h) = ((x < nI 0 → K t.toNat ls r h) ∧ (¬ (x < nI 0) → tkE sx call K Q nb is ls r h)) := propext ⟨fun q => q, fun q => q⟩
theorem te_icmp_ge {sx : Nat × (Nat → Int32)} {call : tkC} {K : tkK} {Q : tkQ} {nb : Nat} {is : List Instr} {ls r : List Value} {h : tkH} {x y : Int32} {t : Int} : (tkE sx call K Q nb (.if_icmp .ge t :: is) ls (.int y :: .int x :: r) h) = ((y ≤ x → K t.toNat ls r h) ∧ (¬ (y ≤ x) → tkE sx call K Q nb is ls r h)) := propext ⟨fun q => q, fun q => q⟩
theorem te_if_ge {sx : Nat × (Nat → Int32)} {call : tkC} {K : tkK} {Q : tkQ} {nb : Nat} {is : List Instr} {ls r : List Value} {h : tkH} {x : Int32} {t : Int} : (tkE sx call K Q nb (.ifCond .ge t :: is) ls (.int x :: r) h) = ((nI 0 ≤ x → K t.toNat ls r h) ∧ (¬ (nI 0 ≤ x) → tkE sx call K Q nb is ls r h)) := propext ⟨fun q => q, fun q => q⟩
theorem te_icmp_gt {sx : Nat × (Nat → Int32)} {call : tkC} {K : tkK} {Q : tkQ} {nb : Nat} {is : List Instr} {ls r : List Value} {h : tkH} {x y : Int32} {t : Int} : (tkE sx call K Q nb (.if_icmp .gt t :: is) ls (.int y :: .int x :: r) h) = ((y < x → K t.toNat ls r h) ∧ (¬ (y < x) → tkE sx call K Q nb is ls r h)) := propext ⟨fun q => q, fun q => q⟩
theorem te_if_gt {sx : Nat × (Nat → Int32)} {call : tkC} {K : tkK} {Q : tkQ} {nb : Nat} {is : List Instr} {ls r : List Value} {h : tkH} {x : Int32} {t : Int} : (tkE sx call K Q nb (.ifCond .gt t :: is) ls (.int x :: r) h) = ((nI 0 < x → K t.toNat ls r h) ∧ (¬ (nI 0 < x) → tkE sx call K Q nb is ls r h)) := propext ⟨fun q => q, fun q => q⟩
theorem te_icmp_le {sx : Nat × (Nat → Int32)} {call : tkC} {K : tkK} {Q : tkQ} {nb : Nat} {is : List Instr} {ls r : List Value} {h : tkH} {x y : Int32} {t : Int} : (tkE sx call K Q nb (.if_icmp .le t :: is) ls (.int y :: .int x :: r) h) = ((x ≤ y → K t.toNat ls r h) ∧ (¬ (x ≤ y) → tkE sx call K Q nb is ls r h)) := propext ⟨fun q => q, fun q => q⟩
theorem te_if_le {sx : Nat × (Nat → Int32)} {call : tkC} {K : tkK} {Q : tkQ} {nb : Nat} {is : List Instr} {ls r : List Value} {h : tkH} {x : Int32} {t : Int} : (tkE sx call K Q nb (.ifCond .le t :: is) ls (.int x :: r) h) = ((x ≤ nI 0 → K t.toNat ls r h) ∧ (¬ (x ≤ nI 0) → tkE sx call K Q nb is ls r h)) := propext ⟨fun q => q, fun q => q⟩
theorem te_goto {sx : Nat × (Nat → Int32)} {call : tkC} {K : tkK} {Q : tkQ} {nb : Nat} {is : List Instr} {ls r : List Value} {h : tkH} {t : Int} : (tkE sx call K Q nb (.goto t :: is) ls r h) = (K t.toNat ls r h) := propext ⟨fun q => q, fun q => q⟩
theorem te_tsw {sx : Nat × (Nat → Int32)} {call : tkC} {K : tkK} {Q : tkQ} {nb : Nat} {is : List Instr} {ls r : List Value} {h : tkH} {d lo hi : Int} {bs : Array Int} {x : Int32} : (tkE sx call K Q nb (.tableswitch d lo hi bs :: is) ls (.int x :: r) h) = (((x.toInt < lo ∨ hi < x.toInt) → K d.toNat ls r h) ∧ (¬ x.toInt < lo → ¬ hi < x.toInt → K (bs.getD (x.toInt - lo).toNat 0).toNat ls r h)) := propext ⟨fun q => q, fun q => q⟩
theorem te_call_0 {sx : Nat × (Nat → Int32)} {call : tkC} {K : tkK} {Q : tkQ} {nb : Nat} {is : List Instr} {ls r : List Value} {h : tkH} {mi : Nat} : tkE sx call K Q nb (.invokeinterface mi 0 :: is) ls (r) h = (stW r ≤ 8 ∧ call mi [] h (fun v h' => tkE sx call K Q nb is ls (v.toList ++ r) h')) := propext ⟨fun q => q.2, fun q => ⟨by simp, q⟩⟩
theorem te_call_1 {sx : Nat × (Nat → Int32)} {call : tkC} {K : tkK} {Q : tkQ} {nb : Nat} {is : List Instr} {ls r : List Value} {h : tkH} {mi : Nat} {b0 : Value} : tkE sx call K Q nb (.invokeinterface mi 1 :: is) ls (b0 :: r) h = (stW r ≤ 8 ∧ call mi [b0] h (fun v h' => tkE sx call K Q nb is ls (v.toList ++ r) h')) := propext ⟨fun q => q.2, fun q => ⟨by simp, q⟩⟩
theorem te_call_2 {sx : Nat × (Nat → Int32)} {call : tkC} {K : tkK} {Q : tkQ} {nb : Nat} {is : List Instr} {ls r : List Value} {h : tkH} {mi : Nat} {b0 b1 : Value} : tkE sx call K Q nb (.invokeinterface mi 2 :: is) ls (b1 :: b0 :: r) h = (stW r ≤ 8 ∧ call mi [b0, b1] h (fun v h' => tkE sx call K Q nb is ls (v.toList ++ r) h')) := propext ⟨fun q => q.2, fun q => ⟨by simp, q⟩⟩
theorem te_call_3 {sx : Nat × (Nat → Int32)} {call : tkC} {K : tkK} {Q : tkQ} {nb : Nat} {is : List Instr} {ls r : List Value} {h : tkH} {mi : Nat} {b0 b1 b2 : Value} : tkE sx call K Q nb (.invokeinterface mi 3 :: is) ls (b2 :: b1 :: b0 :: r) h = (stW r ≤ 8 ∧ call mi [b0, b1, b2] h (fun v h' => tkE sx call K Q nb is ls (v.toList ++ r) h')) := propext ⟨fun q => q.2, fun q => ⟨by simp, q⟩⟩
theorem te_call_4 {sx : Nat × (Nat → Int32)} {call : tkC} {K : tkK} {Q : tkQ} {nb : Nat} {is : List Instr} {ls r : List Value} {h : tkH} {mi : Nat} {b0 b1 b2 b3 : Value} : tkE sx call K Q nb (.invokeinterface mi 4 :: is) ls (b3 :: b2 :: b1 :: b0 :: r) h = (stW r ≤ 8 ∧ call mi [b0, b1, b2, b3] h (fun v h' => tkE sx call K Q nb is ls (v.toList ++ r) h')) := propext ⟨fun q => q.2, fun q => ⟨by simp, q⟩⟩
theorem te_call_5 {sx : Nat × (Nat → Int32)} {call : tkC} {K : tkK} {Q : tkQ} {nb : Nat} {is : List Instr} {ls r : List Value} {h : tkH} {mi : Nat} {b0 b1 b2 b3 b4 : Value} : tkE sx call K Q nb (.invokeinterface mi 5 :: is) ls (b4 :: b3 :: b2 :: b1 :: b0 :: r) h = (stW r ≤ 8 ∧ call mi [b0, b1, b2, b3, b4] h (fun v h' => tkE sx call K Q nb is ls (v.toList ++ r) h')) := propext ⟨fun q => q.2, fun q => ⟨by simp, q⟩⟩
theorem te_call_6 {sx : Nat × (Nat → Int32)} {call : tkC} {K : tkK} {Q : tkQ} {nb : Nat} {is : List Instr} {ls r : List Value} {h : tkH} {mi : Nat} {b0 b1 b2 b3 b4 b5 : Value} : tkE sx call K Q nb (.invokeinterface mi 6 :: is) ls (b5 :: b4 :: b3 :: b2 :: b1 :: b0 :: r) h = (stW r ≤ 8 ∧ call mi [b0, b1, b2, b3, b4, b5] h (fun v h' => tkE sx call K Q nb is ls (v.toList ++ r) h')) := propext ⟨fun q => q.2, fun q => ⟨by simp, q⟩⟩
theorem te_call_7 {sx : Nat × (Nat → Int32)} {call : tkC} {K : tkK} {Q : tkQ} {nb : Nat} {is : List Instr} {ls r : List Value} {h : tkH} {mi : Nat} {b0 b1 b2 b3 b4 b5 b6 : Value} : tkE sx call K Q nb (.invokeinterface mi 7 :: is) ls (b6 :: b5 :: b4 :: b3 :: b2 :: b1 :: b0 :: r) h = (stW r ≤ 8 ∧ call mi [b0, b1, b2, b3, b4, b5, b6] h (fun v h' => tkE sx call K Q nb is ls (v.toList ++ r) h')) := propext ⟨fun q => q.2, fun q => ⟨by simp, q⟩⟩
theorem te_ireturn {sx : Nat × (Nat → Int32)} {call : tkC} {K : tkK} {Q : tkQ} {nb : Nat} {is : List Instr} {ls : List Value} {h : tkH} {v : Int32} : (tkE sx call K Q nb (.ireturn :: is) ls [.int v] h) = (Q (some (.int v)) h) := propext ⟨fun q => q, fun q => q⟩
theorem te_dreturn {sx : Nat × (Nat → Int32)} {call : tkC} {K : tkK} {Q : tkQ} {nb : Nat} {is : List Instr} {ls : List Value} {h : tkH} {v : Int32} : (tkE sx call K Q nb (.dreturn :: is) ls [.int v] h) = ((v = 0 ∨ v = 1) ∧ Q (some (.int v)) h) := propext ⟨fun q => q, fun q => q⟩
theorem te_lreturn {sx : Nat × (Nat → Int32)} {call : tkC} {K : tkK} {Q : tkQ} {nb : Nat} {is : List Instr} {ls : List Value} {h : tkH} {v : Int64} : (tkE sx call K Q nb (.lreturn :: is) ls [.long v] h) = (Q (some (.long v)) h) := propext ⟨fun q => q, fun q => q⟩
theorem te_areturn {sx : Nat × (Nat → Int32)} {call : tkC} {K : tkK} {Q : tkQ} {nb : Nat} {is : List Instr} {ls : List Value} {h : tkH} {v : Nat} : (tkE sx call K Q nb (.areturn :: is) ls [.ref v] h) = (Q (some (.ref v)) h) := propext ⟨fun q => q, fun q => q⟩
theorem te_return {sx : Nat × (Nat → Int32)} {call : tkC} {K : tkK} {Q : tkQ} {nb : Nat} {is : List Instr} {ls : List Value} {h : tkH} : (tkE sx call K Q nb (.return_ :: is) ls [] h) = (Q none h) := propext ⟨fun q => q, fun q => q⟩
theorem te_dup_i {sx : Nat × (Nat → Int32)} {call : tkC} {K : tkK} {Q : tkQ} {nb : Nat} {is : List Instr} {ls r : List Value} {h : tkH} {x : Int32} : tkE sx call K Q nb (.dup :: is) ls (.int x :: r) h = tkE sx call K Q nb is ls (.int x :: .int x :: r) h := propext ⟨fun q => q.2, fun q => ⟨rfl, q⟩⟩
theorem te_dup_a {sx : Nat × (Nat → Int32)} {call : tkC} {K : tkK} {Q : tkQ} {nb : Nat} {is : List Instr} {ls r : List Value} {h : tkH} {x : Nat} : tkE sx call K Q nb (.dup :: is) ls (.ref x :: r) h = tkE sx call K Q nb is ls (.ref x :: .ref x :: r) h := propext ⟨fun q => q.2, fun q => ⟨rfl, q⟩⟩
theorem te_dup2 {sx : Nat × (Nat → Int32)} {call : tkC} {K : tkK} {Q : tkQ} {nb : Nat} {is : List Instr} {ls r : List Value} {h : tkH} {x : Int32} {a : Nat} : tkE sx call K Q nb (.dup2 :: is) ls (.int x :: .ref a :: r) h = tkE sx call K Q nb is ls (.int x :: .ref a :: .int x :: .ref a :: r) h := propext ⟨fun q => q.2.2, fun q => ⟨rfl, rfl, q⟩⟩
theorem te_pop_i {sx : Nat × (Nat → Int32)} {call : tkC} {K : tkK} {Q : tkQ} {nb : Nat} {is : List Instr} {ls r : List Value} {h : tkH} {x : Int32} : tkE sx call K Q nb (.pop :: is) ls (.int x :: r) h = tkE sx call K Q nb is ls r h := propext ⟨fun q => q.2, fun q => ⟨rfl, q⟩⟩
theorem tk_kl_int {x : Int32} : tk_kl (.int x) = .int x := rfl
theorem tk_kl_ref {x : Nat} : tk_kl (.ref x) = .ref x := rfl
theorem tk_kl_null0 : tk_kl .null = .null := rfl
theorem tk_kl_long {x : Int64} : tk_kl (.long x) = .null := rfl
theorem stW_int {x : Int32} {l : List Value} : stW (.int x :: l) = 1 + stW l := rfl
theorem stW_ref {x : Nat} {l : List Value} : stW (.ref x :: l) = 1 + stW l := rfl
theorem stW_long {x : Int64} {l : List Value} : stW (.long x :: l) = 2 + stW l := rfl
theorem stW_nil : stW [] = 0 := rfl
theorem sh_0 : tkSh 0 = (10, 0) := by decide +kernel
theorem sh_1 : tkSh 1 = (2, 0) := by decide +kernel
theorem sh_2 : tkSh 2 = (2, 0) := by decide +kernel
theorem sh_3 : tkSh 3 = (8, 0) := by decide +kernel
theorem sh_4 : tkSh 4 = (8, 0) := by decide +kernel
theorem sh_5 : tkSh 5 = (0, 0) := by decide +kernel
theorem sh_6 : tkSh 6 = (6, 0) := by decide +kernel
theorem sh_7 : tkSh 7 = (5, 0) := by decide +kernel
theorem sh_8 : tkSh 8 = (4, 0) := by decide +kernel
theorem sh_9 : tkSh 9 = (9, 0) := by decide +kernel
theorem sh_10 : tkSh 10 = (7, 0) := by decide +kernel
theorem sh_11 : tkSh 11 = (1, 0) := by decide +kernel
theorem sh_12 : tkSh 12 = (8, 0) := by decide +kernel
theorem sh_13 : tkSh 13 = (11, 0) := by decide +kernel
theorem sh_14 : tkSh 14 = (64, 40) := by decide +kernel
theorem sh_15 : tkSh 15 = (64, 14) := by decide +kernel
theorem sh_16 : tkSh 16 = (64, 46) := by decide +kernel
theorem sh_17 : tkSh 17 = (64, 48) := by decide +kernel
theorem sh_18 : tkSh 18 = (64, 12) := by decide +kernel
theorem sh_19 : tkSh 19 = (66, 59) := by decide +kernel
theorem sh_20 : tkSh 20 = (67, 8) := by decide +kernel
theorem sh_21 : tkSh 21 = (64, 40) := by decide +kernel
theorem sh_22 : tkSh 22 = (64, 40) := by decide +kernel
theorem sh_23 : tkSh 23 = (64, 8) := by decide +kernel
theorem sh_24 : tkSh 24 = (3, 0) := by decide +kernel
theorem sh_25 : tkSh 25 = (64, 300) := by decide +kernel
theorem sh_26 : tkSh 26 = (3, 0) := by decide +kernel
theorem sh_27 : tkSh 27 = (64, 300) := by decide +kernel
theorem sh_28 : tkSh 28 = (3, 0) := by decide +kernel
theorem sh_29 : tkSh 29 = (64, 300) := by decide +kernel
theorem sh_30 : tkSh 30 = (3, 0) := by decide +kernel
theorem sh_31 : tkSh 31 = (64, 300) := by decide +kernel
theorem sh_32 : tkSh 32 = (3, 0) := by decide +kernel
theorem sh_33 : tkSh 33 = (64, 300) := by decide +kernel
theorem sh_34 : tkSh 34 = (3, 0) := by decide +kernel
theorem sh_35 : tkSh 35 = (64, 300) := by decide +kernel
theorem sh_36 : tkSh 36 = (3, 0) := by decide +kernel
theorem sh_37 : tkSh 37 = (64, 300) := by decide +kernel
theorem sh_38 : tkSh 38 = (3, 0) := by decide +kernel
theorem sh_39 : tkSh 39 = (64, 300) := by decide +kernel
theorem sh_40 : tkSh 40 = (3, 0) := by decide +kernel
theorem sh_41 : tkSh 41 = (64, 300) := by decide +kernel
theorem sh_42 : tkSh 42 = (67, 8) := by decide +kernel
theorem sh_43 : tkSh 43 = (64, 40) := by decide +kernel
theorem sh_44 : tkSh 44 = (64, 40) := by decide +kernel
theorem sh_45 : tkSh 45 = (64, 8) := by decide +kernel
theorem sh_46 : tkSh 46 = (3, 0) := by decide +kernel
theorem sh_47 : tkSh 47 = (64, 300) := by decide +kernel
theorem sh_48 : tkSh 48 = (3, 0) := by decide +kernel
theorem sh_49 : tkSh 49 = (64, 300) := by decide +kernel
theorem sh_50 : tkSh 50 = (3, 0) := by decide +kernel
theorem sh_51 : tkSh 51 = (64, 300) := by decide +kernel
theorem sh_52 : tkSh 52 = (3, 0) := by decide +kernel
theorem sh_53 : tkSh 53 = (64, 300) := by decide +kernel
theorem sh_54 : tkSh 54 = (3, 0) := by decide +kernel
theorem sh_55 : tkSh 55 = (64, 300) := by decide +kernel
theorem sh_56 : tkSh 56 = (3, 0) := by decide +kernel
theorem sh_57 : tkSh 57 = (64, 300) := by decide +kernel
theorem sh_58 : tkSh 58 = (3, 0) := by decide +kernel
theorem sh_59 : tkSh 59 = (64, 300) := by decide +kernel
theorem sh_60 : tkSh 60 = (3, 0) := by decide +kernel
theorem sh_61 : tkSh 61 = (64, 300) := by decide +kernel
theorem sh_62 : tkSh 62 = (3, 0) := by decide +kernel
theorem sh_63 : tkSh 63 = (64, 300) := by decide +kernel
theorem sh_64 : tkSh 64 = (64, 40) := by decide +kernel
theorem sh_65 : tkSh 65 = (64, 40) := by decide +kernel
theorem sh_66 : tkSh 66 = (64, 40) := by decide +kernel
theorem sh_67 : tkSh 67 = (64, 12) := by decide +kernel
theorem sh_68 : tkSh 68 = (64, 12) := by decide +kernel
theorem sh_69 : tkSh 69 = (64, 12) := by decide +kernel
theorem sh_70 : tkSh 70 = (64, 12) := by decide +kernel
theorem sh_71 : tkSh 71 = (64, 12) := by decide +kernel
theorem sh_72 : tkSh 72 = (64, 12) := by decide +kernel
theorem sh_73 : tkSh 73 = (64, 12) := by decide +kernel
theorem sh_74 : tkSh 74 = (64, 4096) := by decide +kernel
theorem sh_75 : tkSh 75 = (64, 4096) := by decide +kernel
theorem sh_76 : tkSh 76 = (64, 12) := by decide +kernel
theorem sh_77 : tkSh 77 = (64, 12) := by decide +kernel
theorem sh_78 : tkSh 78 = (64, 12) := by decide +kernel
theorem sh_79 : tkSh 79 = (64, 12) := by decide +kernel
theorem sh_80 : tkSh 80 = (64, 12) := by decide +kernel
theorem sh_81 : tkSh 81 = (64, 574) := by decide +kernel
theorem sh_82 : tkSh 82 = (64, 574) := by decide +kernel
theorem sh_83 : tkSh 83 = (66, 4018) := by decide +kernel
theorem sh_84 : tkSh 84 = (64, 574) := by decide +kernel
theorem sh_85 : tkSh 85 = (64, 574) := by decide +kernel
theorem sh_86 : tkSh 86 = (64, 3245) := by decide +kernel
theorem sh_87 : tkSh 87 = (64, 8) := by decide +kernel
theorem sh_88 : tkSh 88 = (64, 8) := by decide +kernel
theorem sh_89 : tkSh 89 = (64, 8) := by decide +kernel
theorem sh_90 : tkSh 90 = (65, 8) := by decide +kernel
theorem sh_91 : tkSh 91 = (64, 8) := by decide +kernel
theorem sh_92 : tkSh 92 = (64, 40) := by decide +kernel
theorem sh_93 : tkSh 93 = (64, 40) := by decide +kernel
theorem sh_94 : tkSh 94 = (64, 2) := by decide +kernel
theorem sh_95 : tkSh 95 = (64, 18) := by decide +kernel
theorem sh_96 : tkSh 96 = (64, 18) := by decide +kernel
theorem sh_97 : tkSh 97 = (64, 18) := by decide +kernel
theorem sh_98 : tkSh 98 = (65, 18) := by decide +kernel
theorem sh_99 : tkSh 99 = (64, 18) := by decide +kernel
theorem sh_100 : tkSh 100 = (64, 5400) := by decide +kernel
theorem sh_101 : tkSh 101 = (64, 40) := by decide +kernel
theorem sh_102 : tkSh 102 = (64, 48) := by decide +kernel
theorem sh_103 : tkSh 103 = (64, 12) := by decide +kernel
theorem sh_104 : tkSh 104 = (64, 12) := by decide +kernel
theorem sh_105 : tkSh 105 = (64, 16) := by decide +kernel
theorem sh_106 : tkSh 106 = (64, 12) := by decide +kernel
theorem sh_107 : tkSh 107 = (64, 12) := by decide +kernel
theorem sh_108 : tkSh 108 = (64, 12) := by decide +kernel
theorem sh_109 : tkSh 109 = (64, 12) := by decide +kernel
theorem sh_110 : tkSh 110 = (64, 12) := by decide +kernel
theorem sh_111 : tkSh 111 = (64, 12) := by decide +kernel
theorem sh_112 : tkSh 112 = (64, 12) := by decide +kernel
theorem sh_113 : tkSh 113 = (64, 12) := by decide +kernel
theorem sh_114 : tkSh 114 = (64, 12) := by decide +kernel
theorem sh_115 : tkSh 115 = (64, 4096) := by decide +kernel
theorem sh_116 : tkSh 116 = (64, 12) := by decide +kernel
theorem sh_117 : tkSh 117 = (64, 12) := by decide +kernel
theorem sh_118 : tkSh 118 = (64, 12) := by decide +kernel
theorem sh_119 : tkSh 119 = (64, 1000) := by decide +kernel
theorem sh_120 : tkSh 120 = (64, 1000) := by decide +kernel
theorem sh_121 : tkSh 121 = (64, 61) := by decide +kernel
theorem sh_122 : tkSh 122 = (64, 137760) := by decide +kernel
theorem sh_123 : tkSh 123 = (65, 137760) := by decide +kernel
theorem sh_124 : tkSh 124 = (65, 137760) := by decide +kernel
theorem sh_125 : tkSh 125 = (64, 137760) := by decide +kernel
theorem sh_126 : tkSh 126 = (64, 137760) := by decide +kernel
theorem sh_127 : tkSh 127 = (64, 50) := by decide +kernel
theorem rf_0_0 : tkRf 0 0 = 1 := by decide +kernel
theorem rf_0_1 : tkRf 0 1 = 2 := by decide +kernel
theorem rf_0_2 : tkRf 0 2 = 3 := by decide +kernel
theorem rf_0_3 : tkRf 0 3 = 4 := by decide +kernel
theorem rf_0_4 : tkRf 0 4 = 5 := by decide +kernel
theorem rf_0_5 : tkRf 0 5 = 6 := by decide +kernel
theorem rf_0_6 : tkRf 0 6 = 7 := by decide +kernel
theorem rf_0_7 : tkRf 0 7 = 8 := by decide +kernel
theorem rf_0_8 : tkRf 0 8 = 9 := by decide +kernel
theorem rf_0_9 : tkRf 0 9 = 10 := by decide +kernel
theorem rf_1_3 : tkRf 1 3 = 24 := by decide +kernel
theorem rf_1_4 : tkRf 1 4 = 20 := by decide +kernel
theorem rf_1_9 : tkRf 1 9 = 21 := by decide +kernel
theorem rf_1_10 : tkRf 1 10 = 22 := by decide +kernel
theorem rf_1_11 : tkRf 1 11 = 23 := by decide +kernel
theorem rf_2_3 : tkRf 2 3 = 46 := by decide +kernel
theorem rf_2_4 : tkRf 2 4 = 42 := by decide +kernel
theorem rf_2_9 : tkRf 2 9 = 43 := by decide +kernel
theorem rf_2_10 : tkRf 2 10 = 44 := by decide +kernel
theorem rf_2_11 : tkRf 2 11 = 45 := by decide +kernel
theorem rf_3_0 : tkRf 3 0 = 14 := by decide +kernel
theorem rf_4_0 : tkRf 4 0 = 15 := by decide +kernel
theorem rf_5_0 : tkRf 5 0 = 17 := by decide +kernel
theorem rf_5_1 : tkRf 5 1 = 18 := by decide +kernel
theorem rf_6_0 : tkRf 6 0 = 64 := by decide +kernel
theorem rf_6_1 : tkRf 6 1 = 65 := by decide +kernel
theorem rf_6_2 : tkRf 6 2 = 66 := by decide +kernel
theorem rf_6_3 : tkRf 6 3 = 67 := by decide +kernel
theorem rf_7_0 : tkRf 7 0 = 68 := by decide +kernel
theorem rf_7_1 : tkRf 7 1 = 69 := by decide +kernel
theorem rf_7_2 : tkRf 7 2 = 70 := by decide +kernel
theorem rf_7_3 : tkRf 7 3 = 71 := by decide +kernel
theorem rf_7_4 : tkRf 7 4 = 72 := by decide +kernel
theorem rf_7_5 : tkRf 7 5 = 73 := by decide +kernel
theorem rf_8_0 : tkRf 8 0 = 74 := by decide +kernel
theorem rf_8_1 : tkRf 8 1 = 75 := by decide +kernel
theorem rf_8_2 : tkRf 8 2 = 76 := by decide +kernel
theorem rf_8_3 : tkRf 8 3 = 77 := by decide +kernel
theorem rf_9_0 : tkRf 9 0 = 78 := by decide +kernel
theorem rf_9_1 : tkRf 9 1 = 79 := by decide +kernel
theorem rf_9_2 : tkRf 9 2 = 80 := by decide +kernel
theorem rf_10_0 : tkRf 10 0 = 12 := by decide +kernel
theorem rf_10_2 : tkRf 10 2 = 11 := by decide +kernel
theorem rf_10_3 : tkRf 10 3 = 81 := by decide +kernel
theorem rf_10_4 : tkRf 10 4 = 82 := by decide +kernel
theorem rf_10_5 : tkRf 10 5 = 83 := by decide +kernel
theorem rf_10_6 : tkRf 10 6 = 84 := by decide +kernel
theorem rf_10_7 : tkRf 10 7 = 85 := by decide +kernel
theorem rf_11_0 : tkRf 11 0 = 86 := by decide +kernel
theorem rf_11_1 : tkRf 11 1 = 19 := by decide +kernel
theorem rf_12_0 : tkRf 12 0 = 16 := by decide +kernel
theorem rf_13_1 : tkRf 13 1 = 87 := by decide +kernel
theorem rf_13_2 : tkRf 13 2 = 88 := by decide +kernel
theorem rf_13_3 : tkRf 13 3 = 89 := by decide +kernel
theorem rf_13_4 : tkRf 13 4 = 90 := by decide +kernel
theorem rf_13_5 : tkRf 13 5 = 91 := by decide +kernel
theorem rf_13_10 : tkRf 13 10 = 92 := by decide +kernel
theorem rf_13_11 : tkRf 13 11 = 93 := by decide +kernel
theorem rf_13_12 : tkRf 13 12 = 94 := by decide +kernel
theorem rf_13_13 : tkRf 13 13 = 95 := by decide +kernel
theorem rf_13_14 : tkRf 13 14 = 96 := by decide +kernel
theorem rf_13_15 : tkRf 13 15 = 97 := by decide +kernel
theorem rf_13_16 : tkRf 13 16 = 98 := by decide +kernel
theorem rf_13_17 : tkRf 13 17 = 99 := by decide +kernel
theorem rf_13_18 : tkRf 13 18 = 100 := by decide +kernel
theorem rf_13_20 : tkRf 13 20 = 101 := by decide +kernel
theorem rf_13_22 : tkRf 13 22 = 102 := by decide +kernel
theorem rf_13_23 : tkRf 13 23 = 103 := by decide +kernel
theorem rf_13_24 : tkRf 13 24 = 104 := by decide +kernel
theorem rf_13_26 : tkRf 13 26 = 105 := by decide +kernel
theorem rf_13_31 : tkRf 13 31 = 106 := by decide +kernel
theorem rf_13_32 : tkRf 13 32 = 107 := by decide +kernel
theorem rf_13_33 : tkRf 13 33 = 108 := by decide +kernel
theorem rf_13_34 : tkRf 13 34 = 109 := by decide +kernel
theorem rf_13_37 : tkRf 13 37 = 110 := by decide +kernel
theorem rf_13_38 : tkRf 13 38 = 111 := by decide +kernel
theorem rf_13_39 : tkRf 13 39 = 112 := by decide +kernel
theorem rf_13_40 : tkRf 13 40 = 113 := by decide +kernel
theorem rf_13_41 : tkRf 13 41 = 114 := by decide +kernel
theorem rf_13_42 : tkRf 13 42 = 115 := by decide +kernel
theorem rf_13_43 : tkRf 13 43 = 116 := by decide +kernel
theorem rf_13_44 : tkRf 13 44 = 117 := by decide +kernel
theorem rf_13_45 : tkRf 13 45 = 118 := by decide +kernel
theorem rf_13_47 : tkRf 13 47 = 119 := by decide +kernel
theorem rf_13_48 : tkRf 13 48 = 120 := by decide +kernel
theorem rf_13_49 : tkRf 13 49 = 121 := by decide +kernel
theorem rf_13_50 : tkRf 13 50 = 122 := by decide +kernel
theorem rf_13_51 : tkRf 13 51 = 123 := by decide +kernel
theorem rf_13_52 : tkRf 13 52 = 124 := by decide +kernel
theorem rf_13_53 : tkRf 13 53 = 125 := by decide +kernel
theorem rf_13_54 : tkRf 13 54 = 126 := by decide +kernel
theorem rf_13_57 : tkRf 13 57 = 127 := by decide +kernel
theorem rf_24_9 : tkRf 24 9 = 25 := by decide +kernel
theorem rf_26_9 : tkRf 26 9 = 27 := by decide +kernel
theorem rf_28_9 : tkRf 28 9 = 29 := by decide +kernel
theorem rf_30_9 : tkRf 30 9 = 31 := by decide +kernel
theorem rf_32_9 : tkRf 32 9 = 33 := by decide +kernel
theorem rf_34_9 : tkRf 34 9 = 35 := by decide +kernel
theorem rf_36_9 : tkRf 36 9 = 37 := by decide +kernel
theorem rf_38_9 : tkRf 38 9 = 39 := by decide +kernel
theorem rf_40_9 : tkRf 40 9 = 41 := by decide +kernel
theorem rf_46_9 : tkRf 46 9 = 47 := by decide +kernel
theorem rf_48_9 : tkRf 48 9 = 49 := by decide +kernel
theorem rf_50_9 : tkRf 50 9 = 51 := by decide +kernel
theorem rf_52_9 : tkRf 52 9 = 53 := by decide +kernel
theorem rf_54_9 : tkRf 54 9 = 55 := by decide +kernel
theorem rf_56_9 : tkRf 56 9 = 57 := by decide +kernel
theorem rf_58_9 : tkRf 58 9 = 59 := by decide +kernel
theorem rf_60_9 : tkRf 60 9 = 61 := by decide +kernel
theorem rf_62_9 : tkRf 62 9 = 63 := by decide +kernel
theorem tkM_at {d mi : Nat} {a : List Value} {h : tkH} {Q : tkQ} {x : Nat × Nat × List (List Instr)} (h9 : mi ≠ 999) (hx : tkT[mi]? = some x) (h1 : tkRcv x.2.1 a) (h2 : (tk_args a).length ≤ x.1) (h3 : tkR (0, fun _ => 0) (tkM tkT d) x.2.2 Q 0 (tk_lcl x.1 a) [] h) : tkM tkT (d + 1) mi a h Q := by
  unfold tkM
  rw [if_neg h9, hx]
  exact ⟨h1, h2, h3⟩
theorem tkM_copy {d : Nat} {a0 a1 : Nat} {sp dp n : Int32} {h : tkH} {Q : tkQ} (g1 : (tkSh a0).1 = 64) (g2 : (tkSh a1).1 = 64) (g3 : ¬ sp < 0) (g4 : ¬ dp < 0) (g5 : ¬ n < 0) (g6 : sp.toNatClampNeg + n.toNatClampNeg ≤ (tkSh a0).2) (g7 : dp.toNatClampNeg + n.toNatClampNeg ≤ (tkSh a1).2)
    (k : Q none (cp2 h.1 a0 sp.toNatClampNeg a1 dp.toNatClampNeg n.toNatClampNeg, h.2)) : tkM tkT (d + 1) 999 [.ref a0, .int sp, .ref a1, .int dp, .int n] h Q := by
  unfold tkM
  rw [if_pos rfl]
  exact ⟨g1, g2, g3, g4, g5, g6, g7, k⟩
theorem tkR.run {sx : Nat × (Nat → Int32)} {d : Nat} {M : List (List Instr)} {Q : tkQ} (b : Nat) {is : List Instr} {ls st : List Value} {h : tkH} (hb : M[b]? = some is)
    (H : tkE sx (tkM tkT d) (tkR sx (tkM tkT d) M Q) Q (b + 1) is ls st h) : tkR sx (tkM tkT d) M Q b ls st h := tkR.go (tkM_mono tkT d) hb H
theorem ta_0 : tkT[0]? = some (2, 0, tkm_0) := rfl
theorem ta_1 : tkT[1]? = some (3, 0, tkm_1) := rfl
theorem ta_2 : tkT[2]? = some (6, 0, tkm_2) := rfl
theorem ta_3 : tkT[3]? = some (7, 0, tkm_3) := rfl
theorem ta_4 : tkT[4]? = some (5, 0, tkm_4) := rfl
theorem ta_5 : tkT[5]? = some (4, 0, tkm_5) := rfl
theorem ta_6 : tkT[6]? = some (3, 0, tkm_6) := rfl
theorem ta_7 : tkT[7]? = some (7, 0, tkm_7) := rfl
theorem ta_8 : tkT[8]? = some (3, 1, tkm_8) := rfl
theorem ta_9 : tkT[9]? = some (6, 1, tkm_9) := rfl
theorem ta_10 : tkT[10]? = some (2, 1, tkm_10) := rfl
theorem ta_11 : tkT[11]? = some (2, 1, tkm_11) := rfl
theorem ta_12 : tkT[12]? = some (6, 1, tkm_12) := rfl
theorem ta_13 : tkT[13]? = some (6, 1, tkm_13) := rfl
theorem ta_14 : tkT[14]? = some (3, 1, tkm_14) := rfl
theorem ta_15 : tkT[15]? = some (8, 1, tkm_15) := rfl
theorem ta_16 : tkT[16]? = some (6, 1, tkm_16) := rfl
theorem ta_17 : tkT[17]? = some (2, 2, tkm_17) := rfl
theorem ta_18 : tkT[18]? = some (2, 2, tkm_18) := rfl
theorem ta_19 : tkT[19]? = some (2, 2, tkm_19) := rfl
theorem ta_20 : tkT[20]? = some (5, 2, tkm_20) := rfl
theorem ta_21 : tkT[21]? = some (3, 2, tkm_21) := rfl
theorem ta_22 : tkT[22]? = some (4, 2, tkm_22) := rfl
theorem ta_23 : tkT[23]? = some (2, 2, tkm_23) := rfl
theorem ta_24 : tkT[24]? = some (6, 2, tkm_24) := rfl
theorem ta_25 : tkT[25]? = some (3, 2, tkm_25) := rfl
theorem ta_26 : tkT[26]? = some (4, 2, tkm_26) := rfl
theorem ta_27 : tkT[27]? = some (1, 2, tkm_27) := rfl
theorem ta_28 : tkT[28]? = some (4, 2, tkm_28) := rfl
theorem ta_29 : tkT[29]? = some (4, 2, tkm_29) := rfl
theorem ta_30 : tkT[30]? = some (3, 2, tkm_30) := rfl
theorem ta_31 : tkT[31]? = some (2, 2, tkm_31) := rfl
theorem ta_32 : tkT[32]? = some (3, 2, tkm_32) := rfl
theorem ta_33 : tkT[33]? = some (2, 2, tkm_33) := rfl
theorem ta_34 : tkT[34]? = some (2, 2, tkm_34) := rfl
theorem ta_35 : tkT[35]? = some (2, 3, tkm_35) := rfl
theorem ta_36 : tkT[36]? = some (1, 3, tkm_36) := rfl
theorem ta_37 : tkT[37]? = some (3, 3, tkm_37) := rfl
theorem ta_38 : tkT[38]? = some (2, 3, tkm_38) := rfl
theorem ta_39 : tkT[39]? = some (2, 3, tkm_39) := rfl
theorem ta_40 : tkT[40]? = some (2, 3, tkm_40) := rfl
theorem ta_41 : tkT[41]? = some (5, 3, tkm_41) := rfl
theorem ta_42 : tkT[42]? = some (2, 3, tkm_42) := rfl
theorem ta_43 : tkT[43]? = some (6, 3, tkm_43) := rfl
theorem ta_44 : tkT[44]? = some (5, 4, tkm_44) := rfl
theorem ta_45 : tkT[45]? = some (5, 4, tkm_45) := rfl
theorem ta_46 : tkT[46]? = some (3, 4, tkm_46) := rfl
theorem ta_47 : tkT[47]? = some (6, 4, tkm_47) := rfl
theorem ta_48 : tkT[48]? = some (3, 4, tkm_48) := rfl
theorem ta_49 : tkT[49]? = some (7, 4, tkm_49) := rfl
theorem ta_50 : tkT[50]? = some (7, 4, tkm_50) := rfl
theorem ta_51 : tkT[51]? = some (7, 4, tkm_51) := rfl
theorem ta_52 : tkT[52]? = some (7, 5, tkm_52) := rfl
theorem ta_53 : tkT[53]? = some (1, 5, tkm_53) := rfl
theorem ta_54 : tkT[54]? = some (4, 5, tkm_54) := rfl
theorem ta_55 : tkT[55]? = some (6, 5, tkm_55) := rfl
theorem ta_56 : tkT[56]? = some (4, 6, tkm_56) := rfl
theorem ta_57 : tkT[57]? = some (2, 6, tkm_57) := rfl
theorem ta_58 : tkT[58]? = some (7, 6, tkm_58) := rfl
theorem ta_59 : tkT[59]? = some (5, 6, tkm_59) := rfl
theorem ta_60 : tkT[60]? = some (6, 6, tkm_60) := rfl
theorem ta_61 : tkT[61]? = some (4, 6, tkm_61) := rfl
theorem ta_62 : tkT[62]? = some (2, 6, tkm_62) := rfl
theorem ta_63 : tkT[63]? = some (3, 6, tkm_63) := rfl
theorem ta_64 : tkT[64]? = some (4, 6, tkm_64) := rfl
theorem ta_65 : tkT[65]? = some (3, 7, tkm_65) := rfl
theorem ta_66 : tkT[66]? = some (6, 7, tkm_66) := rfl
theorem ta_67 : tkT[67]? = some (1, 99, tkm_67) := rfl
theorem ta_68 : tkT[68]? = some (6, 7, tkm_68) := rfl
theorem ta_69 : tkT[69]? = some (7, 7, tkm_69) := rfl
theorem ta_70 : tkT[70]? = some (2, 7, tkm_70) := rfl
theorem ta_71 : tkT[71]? = some (2, 7, tkm_71) := rfl
theorem ta_72 : tkT[72]? = some (4, 7, tkm_72) := rfl
theorem ta_73 : tkT[73]? = some (4, 7, tkm_73) := rfl
theorem ta_74 : tkT[74]? = some (4, 7, tkm_74) := rfl
theorem ta_75 : tkT[75]? = some (4, 7, tkm_75) := rfl
theorem ta_76 : tkT[76]? = some (2, 7, tkm_76) := rfl
theorem ta_77 : tkT[77]? = some (4, 7, tkm_77) := rfl
theorem ta_78 : tkT[78]? = some (4, 7, tkm_78) := rfl
theorem ta_79 : tkT[79]? = some (4, 7, tkm_79) := rfl
theorem ta_80 : tkT[80]? = some (5, 7, tkm_80) := rfl
theorem ta_81 : tkT[81]? = some (2, 8, tkm_81) := rfl
theorem ta_82 : tkT[82]? = some (2, 8, tkm_82) := rfl
theorem ta_83 : tkT[83]? = some (5, 8, tkm_83) := rfl
theorem ta_84 : tkT[84]? = some (1, 8, tkm_84) := rfl
theorem ta_85 : tkT[85]? = some (2, 8, tkm_85) := rfl
theorem ta_86 : tkT[86]? = some (4, 8, tkm_86) := rfl
theorem ta_87 : tkT[87]? = some (5, 8, tkm_87) := rfl
theorem ta_88 : tkT[88]? = some (6, 8, tkm_88) := rfl
theorem ta_89 : tkT[89]? = some (6, 9, tkm_89) := rfl
theorem ta_90 : tkT[90]? = some (4, 9, tkm_90) := rfl
theorem ta_91 : tkT[91]? = some (4, 9, tkm_91) := rfl
theorem ta_92 : tkT[92]? = some (5, 9, tkm_92) := rfl
theorem ta_93 : tkT[93]? = some (7, 9, tkm_93) := rfl
theorem ta_94 : tkT[94]? = some (7, 9, tkm_94) := rfl
theorem ta_95 : tkT[95]? = some (4, 10, tkm_95) := rfl
theorem ta_96 : tkT[96]? = some (4, 10, tkm_96) := rfl
theorem ta_97 : tkT[97]? = some (4, 10, tkm_97) := rfl
theorem ta_98 : tkT[98]? = some (3, 10, tkm_98) := rfl
theorem ta_99 : tkT[99]? = some (2, 10, tkm_99) := rfl
theorem ta_100 : tkT[100]? = some (2, 10, tkm_100) := rfl
theorem ta_101 : tkT[101]? = some (3, 10, tkm_101) := rfl
theorem ta_102 : tkT[102]? = some (1, 10, tkm_102) := rfl
theorem ta_103 : tkT[103]? = some (3, 10, tkm_103) := rfl
theorem ta_104 : tkT[104]? = some (3, 10, tkm_104) := rfl
theorem ta_105 : tkT[105]? = some (2, 10, tkm_105) := rfl
theorem ta_106 : tkT[106]? = some (2, 10, tkm_106) := rfl
theorem ta_107 : tkT[107]? = some (2, 10, tkm_107) := rfl
theorem ta_108 : tkT[108]? = some (6, 10, tkm_108) := rfl
theorem ta_109 : tkT[109]? = some (2, 10, tkm_109) := rfl
theorem ta_110 : tkT[110]? = some (2, 10, tkm_110) := rfl
theorem ta_111 : tkT[111]? = some (2, 10, tkm_111) := rfl
theorem ta_112 : tkT[112]? = some (5, 10, tkm_112) := rfl
theorem ta_113 : tkT[113]? = some (2, 10, tkm_113) := rfl
theorem ta_114 : tkT[114]? = some (2, 10, tkm_114) := rfl
theorem ta_115 : tkT[115]? = some (6, 10, tkm_115) := rfl
theorem ta_116 : tkT[116]? = some (2, 10, tkm_116) := rfl
theorem ta_117 : tkT[117]? = some (3, 10, tkm_117) := rfl
theorem ta_118 : tkT[118]? = some (1, 10, tkm_118) := rfl
theorem ta_119 : tkT[119]? = some (6, 10, tkm_119) := rfl
theorem ta_120 : tkT[120]? = some (2, 10, tkm_120) := rfl
theorem ta_121 : tkT[121]? = some (2, 10, tkm_121) := rfl
theorem ta_122 : tkT[122]? = some (3, 10, tkm_122) := rfl
theorem ta_123 : tkT[123]? = some (3, 10, tkm_123) := rfl
theorem ta_124 : tkT[124]? = some (4, 10, tkm_124) := rfl
theorem ta_125 : tkT[125]? = some (4, 10, tkm_125) := rfl
theorem ta_126 : tkT[126]? = some (1, 10, tkm_126) := rfl
theorem ta_127 : tkT[127]? = some (2, 10, tkm_127) := rfl
theorem ta_128 : tkT[128]? = some (2, 10, tkm_128) := rfl
theorem ta_129 : tkT[129]? = some (3, 10, tkm_129) := rfl
theorem ta_130 : tkT[130]? = some (6, 10, tkm_130) := rfl
theorem ta_131 : tkT[131]? = some (2, 10, tkm_131) := rfl
theorem ta_132 : tkT[132]? = some (4, 10, tkm_132) := rfl
theorem ta_133 : tkT[133]? = some (3, 99, tkm_133) := rfl
theorem ta_134 : tkT[134]? = some (4, 10, tkm_134) := rfl
theorem ta_135 : tkT[135]? = some (4, 99, tkm_135) := rfl
theorem ta_136 : tkT[136]? = some (6, 10, tkm_136) := rfl
theorem ta_137 : tkT[137]? = some (1, 99, tkm_137) := rfl
theorem ta_138 : tkT[138]? = some (3, 10, tkm_138) := rfl
theorem ta_139 : tkT[139]? = some (1, 99, tkm_139) := rfl
theorem ta_140 : tkT[140]? = some (1, 99, tkm_140) := rfl
theorem ta_141 : tkT[141]? = some (1, 99, tkm_141) := rfl
theorem ta_142 : tkT[142]? = some (1, 99, tkm_142) := rfl
theorem ta_143 : tkT[143]? = some (1, 99, tkm_143) := rfl
theorem ta_144 : tkT[144]? = some (2, 99, tkm_144) := rfl
theorem ta_145 : tkT[145]? = some (6, 99, tkm_145) := rfl
theorem ta_146 : tkT[146]? = some (1, 99, tkm_146) := rfl
theorem ta_147 : tkT[147]? = some (1, 99, tkm_147) := rfl
theorem ta_148 : tkT[148]? = some (2, 99, tkm_148) := rfl
theorem ta_149 : tkT[149]? = some (4, 11, tkm_149) := rfl
theorem ta_150 : tkT[150]? = some (2, 11, tkm_150) := rfl
theorem ta_151 : tkT[151]? = some (3, 11, tkm_151) := rfl
theorem ta_152 : tkT[152]? = some (4, 11, tkm_152) := rfl
theorem ta_153 : tkT[153]? = some (3, 11, tkm_153) := rfl
theorem ta_154 : tkT[154]? = some (2, 11, tkm_154) := rfl
theorem ta_155 : tkT[155]? = some (2, 11, tkm_155) := rfl
theorem ta_156 : tkT[156]? = some (4, 11, tkm_156) := rfl
theorem ta_157 : tkT[157]? = some (3, 11, tkm_157) := rfl
theorem ta_158 : tkT[158]? = some (5, 11, tkm_158) := rfl
theorem ta_159 : tkT[159]? = some (2, 11, tkm_159) := rfl
theorem ta_160 : tkT[160]? = some (2, 11, tkm_160) := rfl
theorem ta_161 : tkT[161]? = some (5, 11, tkm_161) := rfl
theorem ta_162 : tkT[162]? = some (3, 11, tkm_162) := rfl
theorem ta_163 : tkT[163]? = some (1, 11, tkm_163) := rfl
theorem ta_164 : tkT[164]? = some (3, 11, tkm_164) := rfl
theorem ta_165 : tkT[165]? = some (3, 11, tkm_165) := rfl
theorem ta_166 : tkT[166]? = some (2, 11, tkm_166) := rfl
theorem ta_167 : tkT[167]? = some (3, 11, tkm_167) := rfl
theorem ta_168 : tkT[168]? = some (3, 11, tkm_168) := rfl
theorem ta_169 : tkT[169]? = some (4, 11, tkm_169) := rfl
theorem ta_170 : tkT[170]? = some (6, 11, tkm_170) := rfl
theorem ta_171 : tkT[171]? = some (2, 11, tkm_171) := rfl
theorem ta_172 : tkT[172]? = some (3, 11, tkm_172) := rfl
theorem ta_173 : tkT[173]? = some (2, 11, tkm_173) := rfl
theorem ta_174 : tkT[174]? = some (6, 11, tkm_174) := rfl
theorem ta_175 : tkT[175]? = some (2, 11, tkm_175) := rfl
theorem ta_176 : tkT[176]? = some (2, 11, tkm_176) := rfl
theorem ta_177 : tkT[177]? = some (3, 11, tkm_177) := rfl
theorem ta_178 : tkT[178]? = some (6, 11, tkm_178) := rfl
theorem ta_179 : tkT[179]? = some (2, 11, tkm_179) := rfl
theorem ta_180 : tkT[180]? = some (2, 11, tkm_180) := rfl
theorem ta_181 : tkT[181]? = some (2, 11, tkm_181) := rfl
theorem ta_182 : tkT[182]? = some (2, 11, tkm_182) := rfl
theorem ta_183 : tkT[183]? = some (5, 11, tkm_183) := rfl
theorem ta_184 : tkT[184]? = some (6, 11, tkm_184) := rfl
theorem ta_185 : tkT[185]? = some (4, 11, tkm_185) := rfl
theorem ta_186 : tkT[186]? = some (5, 11, tkm_186) := rfl
theorem ta_187 : tkT[187]? = some (1, 11, tkm_187) := rfl
theorem ta_188 : tkT[188]? = some (1, 11, tkm_188) := rfl
theorem ta_189 : tkT[189]? = some (6, 11, tkm_189) := rfl
theorem ta_190 : tkT[190]? = some (7, 11, tkm_190) := rfl
theorem ta_191 : tkT[191]? = some (2, 11, tkm_191) := rfl
theorem ta_192 : tkT[192]? = some (2, 11, tkm_192) := rfl
theorem ta_193 : tkT[193]? = some (3, 11, tkm_193) := rfl
theorem ta_194 : tkT[194]? = some (2, 11, tkm_194) := rfl
theorem ta_195 : tkT[195]? = some (6, 11, tkm_195) := rfl
theorem ta_196 : tkT[196]? = some (2, 11, tkm_196) := rfl
theorem ta_197 : tkT[197]? = some (6, 11, tkm_197) := rfl
theorem ta_198 : tkT[198]? = some (2, 11, tkm_198) := rfl
theorem ta_199 : tkT[199]? = some (5, 11, tkm_199) := rfl
theorem ta_200 : tkT[200]? = some (4, 11, tkm_200) := rfl
theorem ta_201 : tkT[201]? = some (3, 99, tkm_201) := rfl
theorem ta_202 : tkT[202]? = some (4, 11, tkm_202) := rfl
theorem ta_203 : tkT[203]? = some (4, 11, tkm_203) := rfl
theorem ta_204 : tkT[204]? = some (10, 11, tkm_204) := rfl
theorem ta_205 : tkT[205]? = some (7, 11, tkm_205) := rfl
theorem ta_206 : tkT[206]? = some (6, 11, tkm_206) := rfl
theorem ta_207 : tkT[207]? = some (7, 11, tkm_207) := rfl
theorem ta_208 : tkT[208]? = some (3, 11, tkm_208) := rfl
theorem ta_209 : tkT[209]? = some (4, 11, tkm_209) := rfl
theorem ta_210 : tkT[210]? = some (4, 11, tkm_210) := rfl
theorem ta_211 : tkT[211]? = some (4, 99, tkm_211) := rfl
theorem ta_212 : tkT[212]? = some (7, 11, tkm_212) := rfl
theorem ta_213 : tkT[213]? = some (11, 11, tkm_213) := rfl
theorem ta_214 : tkT[214]? = some (2, 11, tkm_214) := rfl
theorem ta_215 : tkT[215]? = some (1, 11, tkm_215) := rfl
theorem ta_216 : tkT[216]? = some (10, 11, tkm_216) := rfl
theorem ta_217 : tkT[217]? = some (11, 11, tkm_217) := rfl
theorem ta_218 : tkT[218]? = some (2, 11, tkm_218) := rfl
theorem ta_219 : tkT[219]? = some (1, 11, tkm_219) := rfl
theorem ta_220 : tkT[220]? = some (2, 11, tkm_220) := rfl
theorem ta_221 : tkT[221]? = some (2, 11, tkm_221) := rfl
theorem ta_222 : tkT[222]? = some (5, 11, tkm_222) := rfl
theorem ta_223 : tkT[223]? = some (3, 11, tkm_223) := rfl
theorem ta_224 : tkT[224]? = some (6, 11, tkm_224) := rfl
theorem ta_225 : tkT[225]? = some (2, 11, tkm_225) := rfl
theorem ta_226 : tkT[226]? = some (7, 11, tkm_226) := rfl
theorem ta_227 : tkT[227]? = some (7, 11, tkm_227) := rfl
theorem ta_228 : tkT[228]? = some (5, 11, tkm_228) := rfl
theorem ta_229 : tkT[229]? = some (1, 99, tkm_229) := rfl
theorem ta_230 : tkT[230]? = some (3, 99, tkm_230) := rfl
theorem ta_231 : tkT[231]? = some (2, 99, tkm_231) := rfl
theorem ta_232 : tkT[232]? = some (2, 99, tkm_232) := rfl
theorem ta_233 : tkT[233]? = some (3, 99, tkm_233) := rfl
theorem ta_234 : tkT[234]? = some (6, 99, tkm_234) := rfl
theorem ta_235 : tkT[235]? = some (4, 99, tkm_235) := rfl
theorem ta_236 : tkT[236]? = some (5, 99, tkm_236) := rfl
