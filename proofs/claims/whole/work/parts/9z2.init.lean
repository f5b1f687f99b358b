/-! how all stands behind the constructors -/
def i0T : List (Nat → Int32) := (fun _ => 0) :: (fun j => if j = 0 then 1000 else if j = 1 then 50 else if j = 2 then 5 else 0) :: (fun j => if j = 0 then 1000 else if j = 1 then 50 else if j = 2 then 5 else 0) :: (fun _ => 0) :: (fun _ => 0) :: (fun _ => 0) :: (fun _ => 0) :: (fun _ => 0) :: (fun j => if j = 7 then (-1) else 0) :: (fun _ => 0) :: (fun j => if j = 1 then (-1) else if j = 9 then (-1) else if j = 10 then (-1) else 0) :: (fun j => if j = 2 then (-1) else 0) :: (fun _ => 0) :: (fun j => if j = 6 then 1000 else if j = 7 then 50 else if j = 8 then 5 else 0) :: (fun _ => 0) :: (fun _ => 0) :: (fun _ => 0) :: (fun _ => 0) :: (fun j => if j < 12 then Int32.ofInt (-1) else 0) :: (fun _ => 0) :: (fun _ => 0) :: (fun _ => 0) :: (fun _ => 0) :: (fun _ => 0) :: (fun j => if j = 3 then 1 else 0) :: (fun _ => 0) :: (fun j => if j = 3 then 1 else 0) :: (fun _ => 0) :: (fun j => if j = 3 then 1 else 0) :: (fun _ => 0) :: (fun j => if j = 3 then 1 else 0) :: (fun _ => 0) :: (fun j => if j = 3 then 1 else 0) :: (fun _ => 0) :: (fun j => if j = 3 then 1 else 0) :: (fun _ => 0) :: (fun j => if j = 3 then 1 else 0) :: (fun _ => 0) :: (fun j => if j = 3 then 1 else 0) :: (fun _ => 0) :: (fun j => if j = 3 then 1 else 0) :: (fun _ => 0) :: (fun _ => 0) :: (fun _ => 0) :: (fun _ => 0) :: (fun _ => 0) :: (fun j => if j = 3 then 1 else 0) :: (fun _ => 0) :: (fun j => if j = 3 then 1 else 0) :: (fun _ => 0) :: (fun j => if j = 3 then 1 else 0) :: (fun _ => 0) :: (fun j => if j = 3 then 1 else 0) :: (fun _ => 0) :: (fun j => if j = 3 then 1 else 0) :: (fun _ => 0) :: (fun j => if j = 3 then 1 else 0) :: (fun _ => 0) :: (fun j => if j = 3 then 1 else 0) :: (fun _ => 0) :: (fun j => if j = 3 then 1 else 0) :: (fun _ => 0) :: (fun j => if j = 3 then 1 else 0) :: (fun _ => 0) :: (fun _ => 0) :: (fun _ => 0) :: (fun _ => 0) :: (fun _ => 0) :: (fun _ => 0) :: (fun _ => 0) :: (fun _ => 0) :: (fun _ => 0) :: (fun _ => 0) :: (fun _ => 0) :: (fun _ => 0) :: (fun _ => 0) :: (fun _ => 0) :: (fun _ => 0) :: (fun _ => 0) :: (fun _ => 0) :: (fun _ => 0) :: (fun _ => 0) :: (fun _ => 0) :: (fun _ => 0) :: (fun _ => 0) :: (fun _ => 0) :: (fun _ => 0) :: (fun _ => 0) :: (fun _ => 0) :: (fun _ => 0) :: (fun _ => 0) :: (fun _ => 0) :: (fun _ => 0) :: (fun _ => 0) :: (fun _ => 0) :: (fun _ => 0) :: (fun _ => 0) :: (fun _ => 0) :: (fun _ => 0) :: (fun _ => 0) :: (fun _ => 0) :: (fun _ => 0) :: (fun _ => 0) :: (fun _ => 0) :: (fun _ => 0) :: (fun _ => 0) :: (fun _ => 0) :: (fun _ => 0) :: (fun _ => 0) :: (fun _ => 0) :: (fun _ => 0) :: (fun _ => 0) :: (fun _ => 0) :: (fun _ => 0) :: (fun _ => 0) :: (fun _ => 0) :: (fun _ => 0) :: (fun _ => 0) :: (fun _ => 0) :: (fun _ => 0) :: (fun _ => 0) :: (fun _ => 0) :: (fun _ => 0) :: (fun _ => 0) :: (fun _ => 0) :: (fun _ => 0) :: (fun _ => 0) :: (fun _ => 0) :: []
def I0 (a : Nat) : Nat → Int32 := i0T.getD a (fun _ => 0)
def J0 : Nat → Nat → Int64 := fun _ _ => 0
theorem i0_0 : I0 0 = (fun _ => 0) := rfl
theorem i0_1 : I0 1 = (fun j => if j = 0 then 1000 else if j = 1 then 50 else if j = 2 then 5 else 0) := rfl
theorem i0_2 : I0 2 = (fun j => if j = 0 then 1000 else if j = 1 then 50 else if j = 2 then 5 else 0) := rfl
theorem i0_3 : I0 3 = (fun _ => 0) := rfl
theorem i0_4 : I0 4 = (fun _ => 0) := rfl
theorem i0_5 : I0 5 = (fun _ => 0) := rfl
theorem i0_6 : I0 6 = (fun _ => 0) := rfl
theorem i0_7 : I0 7 = (fun _ => 0) := rfl
theorem i0_8 : I0 8 = (fun j => if j = 7 then (-1) else 0) := rfl
theorem i0_9 : I0 9 = (fun _ => 0) := rfl
theorem i0_10 : I0 10 = (fun j => if j = 1 then (-1) else if j = 9 then (-1) else if j = 10 then (-1) else 0) := rfl
theorem i0_11 : I0 11 = (fun j => if j = 2 then (-1) else 0) := rfl
theorem i0_12 : I0 12 = (fun _ => 0) := rfl
theorem i0_13 : I0 13 = (fun j => if j = 6 then 1000 else if j = 7 then 50 else if j = 8 then 5 else 0) := rfl
theorem i0_14 : I0 14 = (fun _ => 0) := rfl
theorem i0_15 : I0 15 = (fun _ => 0) := rfl
theorem i0_16 : I0 16 = (fun _ => 0) := rfl
theorem i0_17 : I0 17 = (fun _ => 0) := rfl
theorem i0_18 : I0 18 = (fun j => if j < 12 then Int32.ofInt (-1) else 0) := rfl
theorem i0_19 : I0 19 = (fun _ => 0) := rfl
theorem i0_20 : I0 20 = (fun _ => 0) := rfl
theorem i0_21 : I0 21 = (fun _ => 0) := rfl
theorem i0_22 : I0 22 = (fun _ => 0) := rfl
theorem i0_23 : I0 23 = (fun _ => 0) := rfl
theorem i0_24 : I0 24 = (fun j => if j = 3 then 1 else 0) := rfl
theorem i0_25 : I0 25 = (fun _ => 0) := rfl
theorem i0_26 : I0 26 = (fun j => if j = 3 then 1 else 0) := rfl
theorem i0_27 : I0 27 = (fun _ => 0) := rfl
theorem i0_28 : I0 28 = (fun j => if j = 3 then 1 else 0) := rfl
theorem i0_29 : I0 29 = (fun _ => 0) := rfl
theorem i0_30 : I0 30 = (fun j => if j = 3 then 1 else 0) := rfl
theorem i0_31 : I0 31 = (fun _ => 0) := rfl
theorem i0_32 : I0 32 = (fun j => if j = 3 then 1 else 0) := rfl
theorem i0_33 : I0 33 = (fun _ => 0) := rfl
theorem i0_34 : I0 34 = (fun j => if j = 3 then 1 else 0) := rfl
theorem i0_35 : I0 35 = (fun _ => 0) := rfl
theorem i0_36 : I0 36 = (fun j => if j = 3 then 1 else 0) := rfl
theorem i0_37 : I0 37 = (fun _ => 0) := rfl
theorem i0_38 : I0 38 = (fun j => if j = 3 then 1 else 0) := rfl
theorem i0_39 : I0 39 = (fun _ => 0) := rfl
theorem i0_40 : I0 40 = (fun j => if j = 3 then 1 else 0) := rfl
theorem i0_41 : I0 41 = (fun _ => 0) := rfl
theorem i0_42 : I0 42 = (fun _ => 0) := rfl
theorem i0_43 : I0 43 = (fun _ => 0) := rfl
theorem i0_44 : I0 44 = (fun _ => 0) := rfl
theorem i0_45 : I0 45 = (fun _ => 0) := rfl
theorem i0_46 : I0 46 = (fun j => if j = 3 then 1 else 0) := rfl
theorem i0_47 : I0 47 = (fun _ => 0) := rfl
theorem i0_48 : I0 48 = (fun j => if j = 3 then 1 else 0) := rfl
theorem i0_49 : I0 49 = (fun _ => 0) := rfl
theorem i0_50 : I0 50 = (fun j => if j = 3 then 1 else 0) := rfl
theorem i0_51 : I0 51 = (fun _ => 0) := rfl
theorem i0_52 : I0 52 = (fun j => if j = 3 then 1 else 0) := rfl
theorem i0_53 : I0 53 = (fun _ => 0) := rfl
theorem i0_54 : I0 54 = (fun j => if j = 3 then 1 else 0) := rfl
theorem i0_55 : I0 55 = (fun _ => 0) := rfl
theorem i0_56 : I0 56 = (fun j => if j = 3 then 1 else 0) := rfl
theorem i0_57 : I0 57 = (fun _ => 0) := rfl
theorem i0_58 : I0 58 = (fun j => if j = 3 then 1 else 0) := rfl
theorem i0_59 : I0 59 = (fun _ => 0) := rfl
theorem i0_60 : I0 60 = (fun j => if j = 3 then 1 else 0) := rfl
theorem i0_61 : I0 61 = (fun _ => 0) := rfl
theorem i0_62 : I0 62 = (fun j => if j = 3 then 1 else 0) := rfl
theorem i0_63 : I0 63 = (fun _ => 0) := rfl
theorem i0_64 : I0 64 = (fun _ => 0) := rfl
theorem i0_65 : I0 65 = (fun _ => 0) := rfl
theorem i0_66 : I0 66 = (fun _ => 0) := rfl
theorem i0_67 : I0 67 = (fun _ => 0) := rfl
theorem i0_68 : I0 68 = (fun _ => 0) := rfl
theorem i0_69 : I0 69 = (fun _ => 0) := rfl
theorem i0_70 : I0 70 = (fun _ => 0) := rfl
theorem i0_71 : I0 71 = (fun _ => 0) := rfl
theorem i0_72 : I0 72 = (fun _ => 0) := rfl
theorem i0_73 : I0 73 = (fun _ => 0) := rfl
theorem i0_74 : I0 74 = (fun _ => 0) := rfl
theorem i0_75 : I0 75 = (fun _ => 0) := rfl
theorem i0_76 : I0 76 = (fun _ => 0) := rfl
theorem i0_77 : I0 77 = (fun _ => 0) := rfl
theorem i0_78 : I0 78 = (fun _ => 0) := rfl
theorem i0_79 : I0 79 = (fun _ => 0) := rfl
theorem i0_80 : I0 80 = (fun _ => 0) := rfl
theorem i0_81 : I0 81 = (fun _ => 0) := rfl
theorem i0_82 : I0 82 = (fun _ => 0) := rfl
theorem i0_83 : I0 83 = (fun _ => 0) := rfl
theorem i0_84 : I0 84 = (fun _ => 0) := rfl
theorem i0_85 : I0 85 = (fun _ => 0) := rfl
theorem i0_86 : I0 86 = (fun _ => 0) := rfl
theorem i0_87 : I0 87 = (fun _ => 0) := rfl
theorem i0_88 : I0 88 = (fun _ => 0) := rfl
theorem i0_89 : I0 89 = (fun _ => 0) := rfl
theorem i0_90 : I0 90 = (fun _ => 0) := rfl
theorem i0_91 : I0 91 = (fun _ => 0) := rfl
theorem i0_92 : I0 92 = (fun _ => 0) := rfl
theorem i0_93 : I0 93 = (fun _ => 0) := rfl
theorem i0_94 : I0 94 = (fun _ => 0) := rfl
theorem i0_95 : I0 95 = (fun _ => 0) := rfl
theorem i0_96 : I0 96 = (fun _ => 0) := rfl
theorem i0_97 : I0 97 = (fun _ => 0) := rfl
theorem i0_98 : I0 98 = (fun _ => 0) := rfl
theorem i0_99 : I0 99 = (fun _ => 0) := rfl
theorem i0_100 : I0 100 = (fun _ => 0) := rfl
theorem i0_101 : I0 101 = (fun _ => 0) := rfl
theorem i0_102 : I0 102 = (fun _ => 0) := rfl
theorem i0_103 : I0 103 = (fun _ => 0) := rfl
theorem i0_104 : I0 104 = (fun _ => 0) := rfl
theorem i0_105 : I0 105 = (fun _ => 0) := rfl
theorem i0_106 : I0 106 = (fun _ => 0) := rfl
theorem i0_107 : I0 107 = (fun _ => 0) := rfl
theorem i0_108 : I0 108 = (fun _ => 0) := rfl
theorem i0_109 : I0 109 = (fun _ => 0) := rfl
theorem i0_110 : I0 110 = (fun _ => 0) := rfl
theorem i0_111 : I0 111 = (fun _ => 0) := rfl
theorem i0_112 : I0 112 = (fun _ => 0) := rfl
theorem i0_113 : I0 113 = (fun _ => 0) := rfl
theorem i0_114 : I0 114 = (fun _ => 0) := rfl
theorem i0_115 : I0 115 = (fun _ => 0) := rfl
theorem i0_116 : I0 116 = (fun _ => 0) := rfl
theorem i0_117 : I0 117 = (fun _ => 0) := rfl
theorem i0_118 : I0 118 = (fun _ => 0) := rfl
theorem i0_119 : I0 119 = (fun _ => 0) := rfl
theorem i0_120 : I0 120 = (fun _ => 0) := rfl
theorem i0_121 : I0 121 = (fun _ => 0) := rfl
theorem i0_122 : I0 122 = (fun _ => 0) := rfl
theorem i0_123 : I0 123 = (fun _ => 0) := rfl
theorem i0_124 : I0 124 = (fun _ => 0) := rfl
theorem i0_125 : I0 125 = (fun _ => 0) := rfl
theorem i0_126 : I0 126 = (fun _ => 0) := rfl
theorem i0_127 : I0 127 = (fun _ => 0) := rfl
theorem i0_z {k : Nat} (hk : k ≤ 8) : I0 (mc 20 k) = (fun j => if j = 3 then 1 else 0) ∧ I0 (mc 20 k + 1) = (fun _ => 0) := by
  rcases (show k = 0 ∨ k = 1 ∨ k = 2 ∨ k = 3 ∨ k = 4 ∨ k = 5 ∨ k = 6 ∨ k = 7 ∨ k = 8 by omega) with rfl | rfl | rfl | rfl | rfl | rfl | rfl | rfl | rfl <;> exact ⟨rfl, rfl⟩
theorem init_R : InvR I0 := ⟨0, fun _ => 0, by decide, ⟨rfl, fun j hj => absurd hj (Nat.not_lt_zero _)⟩, rfl, fun j hj => absurd hj (Nat.not_lt_zero _)⟩
theorem init_S : InvS I0 := ⟨0, by decide, rfl, rfl⟩
theorem init_F : InvF I0 := ⟨0, fun _ => 0, fun _ => mI 1, by decide, fun _ => Nat.zero_le _, ⟨rfl, fun j hj => absurd hj (by omega), fun i hi => by rw [i0_18]; show (if i < 12 then Int32.ofInt (-1) else 0) = _; rw [if_pos hi]; rfl⟩, ⟨rfl, fun j hj => absurd hj (by omega), fun j hj => absurd hj (Nat.not_lt_zero _), fun j hj => absurd hj (Nat.not_lt_zero _)⟩, fun i _ => rfl, fun j hj => absurd hj (Nat.not_lt_zero _), fun i => Or.inl rfl⟩
theorem init_Q : InvQ I0 := ⟨0, 0, fun _ => (0, 0, 0, 0, 0), by decide, rfl, by decide, fun j hj => absurd hj (Nat.not_lt_zero _), ⟨rfl, fun j hj => absurd hj (Nat.not_lt_zero _)⟩, rfl, fun j hj => absurd hj (Nat.not_lt_zero _)⟩
theorem init_P : InvP 0 I0 := ⟨0, Nat.le_refl _, rfl, Or.inl rfl⟩
theorem init_X : InvX 0 I0 J0 := ⟨⟨0, Nat.le_refl _, rfl, Or.inl rfl⟩, Or.inl rfl, fun z => absurd z (by decide), Or.inl rfl, fun z => absurd z (by decide), Or.inl rfl, fun x _ => ⟨rfl, rfl⟩⟩
theorem wf0 : mwf ((0, 0, 0, 0, 0, fun _ => 0) : ms) := ⟨by decide, by decide, by decide, by decide⟩
theorem init_L : InvL I0 := by
  refine mkInvL (n := 0) (T := 0) (S := fun _ _ => false) (L := (0, fun _ => (0, 0, 0, 0, 0, fun _ => 0))) (c := (1000, 50, 5, fun _ => 0, fun _ => 0, fun _ => 0, fun _ => 0)) ⟨rfl, rfl, by decide, by decide, fun k hk => ⟨?_, ?_⟩⟩ ?_ ⟨rfl, rfl, rfl, fun k hk => absurd hk (Nat.not_lt_zero _)⟩ ⟨rfl, rfl, rfl, fun k hk => absurd hk (Nat.not_lt_zero _)⟩ ?_ ?_ ⟨rfl, 0, rfl, Nat.le_refl _⟩ rfl rfl (fun k _ h2 => ?_) ?_ ?_
  · obtain ⟨e1, e2⟩ := i0_z (k := k) (by omega)
    unfold mC
    rw [e1]
    exact ⟨rfl, rfl, rfl, rfl, rfl, rfl, fun j hj => absurd hj (Nat.not_lt_zero _)⟩
  · exact wf0
  · exact ⟨rfl, rfl, by decide, by decide, fun k hk => ⟨⟨rfl, rfl, rfl, rfl, rfl, fun j hj => absurd hj (Nat.not_lt_zero _)⟩, wf0⟩, fun _ k hk => rfl⟩
  · exact ⟨fun _ => 0, fun _ => 0, 0, ⟨rfl, by decide, fun i hi => absurd hi (Nat.not_lt_zero _)⟩, fun k q => ⟨fun h => absurd h Bool.false_ne_true, fun ⟨i, hi, _⟩ => absurd hi (Nat.not_lt_zero _)⟩, fun i j hi => absurd hi (Nat.not_lt_zero _)⟩
  · exact ⟨fun _ => 0, fun _ => 0, 0, ⟨rfl, by decide, fun i hi => absurd hi (Nat.not_lt_zero _)⟩, fun k q => ⟨fun h => absurd h Bool.false_ne_true, fun ⟨i, hi, _⟩ => absurd hi (Nat.not_lt_zero _)⟩⟩
  · rw [(i0_z (k := k) (by omega)).1]; rfl
  · exact ⟨by decide, by decide, fun k hk => Nat.zero_le _, by decide, rfl, by decide, fun k _ _ => ⟨rfl, rfl⟩, fun k _ => ⟨wf0, fun j hj => absurd hj (Nat.not_lt_zero _)⟩⟩
  · exact fun k hk => absurd hk (Nat.not_lt_zero _)
theorem init_Inv : Inv 0 I0 J0 := ⟨init_L, init_R, init_S, init_F, init_Q, init_P, init_X⟩
