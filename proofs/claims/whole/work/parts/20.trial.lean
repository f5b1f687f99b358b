/-! trying out: what a bringing costs hangs on the sender's place, wheel and run alone -/
def sc (L : ln) : Nat × Nat × Nat × Nat := (L.1, mp (L.2 8), mw (L.2 8), mr (L.2 8))
theorem sc_lgv {n n' : Nat} {g g' : Nat → Bool} {S S' : Nat → Nat → Bool} {kd t : Nat} {L L' : ln} (h : sc L = sc L') : sc (lgv n g S kd t L) = sc (lgv n' g' S' kd t L') := by
  unfold sc at h ⊢
  simp only [Prod.mk.injEq] at h
  obtain ⟨h1, h2, h3, h4⟩ := h
  rw [lgv8, lgv8, lgv1, lgv1, h1]
  generalize L.2 8 = m at h2 h3 h4
  generalize L'.2 8 = m' at h2 h3 h4
  obtain ⟨p, w, r, mi, nn, b⟩ := m
  obtain ⟨p', w', r', mi', nn', b'⟩ := m'
  dsimp only [mp, mw, mr, mm, mn, mb] at h2 h3 h4
  subst h2; subst h3; subst h4
  unfold aps steps ap ap0 ap1 ap2
  dsimp only [mp, mw, mr, mm, mn, mb]
  grind
theorem sc_lgo {n n' : Nat} {g g' : Nat → Bool} {S S' : Nat → Nat → Bool} {sg : Nat} {L L' : ln} (h : sc L = sc L') : sc (lgo n g S sg L) = sc (lgo n' g' S' sg L') := by
  have h2 := sc_lgv (n := n) (n' := n') (g := g) (g' := g') (S := S) (S' := S') (kd := 2) (t := 1) h
  have e := h
  have e2 := h2
  unfold sc at e e2
  simp only [Prod.mk.injEq] at e e2
  unfold lgo
  rw [e.2.1, e.2.2.1, e.2.2.2, e2.2.1, e2.2.2.2]
  split
  · exact sc_lgv h2
  · exact sc_lgv h
theorem sc_lcA {n n' : Nat} {g g' : Nat → Bool} {S S' : Nat → Nat → Bool} {sg : Nat} {L L' : ln} (h : sc L = sc L') : sc (lcA n g S sg L) = sc (lcA n' g' S' sg L') := by
  have e := h
  unfold sc at e
  simp only [Prod.mk.injEq] at e
  unfold lcA
  rw [e.2.2.2]
  split
  · exact h
  · exact sc_lgo h
theorem sc_lcar {n n' : Nat} {g g' : Nat → Bool} {S S' : Nat → Nat → Bool} {sg : Nat} {L L' : ln} (h : sc L = sc L') : sc (lcar n g S sg L) = sc (lcar n' g' S' sg L') := by
  have hA := sc_lcA (n := n) (n' := n') (g := g) (g' := g') (S := S) (S' := S') (sg := sg) h
  have e := hA
  unfold sc at e
  simp only [Prod.mk.injEq] at e
  unfold lcar
  rw [e.2.2.2]
  split
  · exact sc_lgv (sc_lgo (sc_lgv hA))
  · exact sc_lgv hA
theorem sc_lrow {n n' : Nat} {g g' : Nat → Bool} {S S' : Nat → Nat → Bool} {ev : Nat} {s : Nat → Nat} : ∀ (m i : Nat) (L L' : ln), sc L = sc L' → sc (lrow n g S ev s i m L) = sc (lrow n' g' S' ev s i m L') := by
  intro m
  induction m with
  | zero => intro i L L' h; exact h
  | succ m ih =>
    intro i L L' h
    unfold lrow
    refine ih (i + 1) _ _ ?_
    split
    · exact sc_lgv (sc_lgv (sc_lcar h))
    · exact sc_lcar h
/-! missed pulses are pulses -/
def mle (n : Nat) (L : ln) : Prop := ∀ k, k < n → mm (L.2 k) ≤ L.1
theorem mle_lgv {n : Nat} {g : Nat → Bool} {S : Nat → Nat → Bool} {kd t : Nat} {L : ln} (hn : n ≤ 8) (h : mle n L) : mle n (lgv n g S kd t L) := by
  intro k hk
  have := h k hk
  rw [lgv1]
  unfold lgv
  dsimp only
  rw [if_neg (by omega), if_pos hk, miss_mm, aps_mm]
  omega
theorem mle_lgo {n : Nat} {g : Nat → Bool} {S : Nat → Nat → Bool} {sg : Nat} {L : ln} (hn : n ≤ 8) (h : mle n L) : mle n (lgo n g S sg L) := by
  unfold lgo
  split
  · exact mle_lgv hn (mle_lgv hn h)
  · exact mle_lgv hn h
theorem mle_lcar {n : Nat} {g : Nat → Bool} {S : Nat → Nat → Bool} {sg : Nat} {L : ln} (hn : n ≤ 8) (h : mle n L) : mle n (lcar n g S sg L) := by
  have hA : mle n (lcA n g S sg L) := by
    unfold lcA
    split
    · exact h
    · exact mle_lgo hn h
  unfold lcar
  split
  · exact mle_lgv hn (mle_lgo hn (mle_lgv hn hA))
  · exact mle_lgv hn hA
theorem mle_luni {n : Nat} {g : Nat → Bool} {S : Nat → Nat → Bool} {L : ln} (hn : n ≤ 8) (h : mle n L) : mle n (luni n g S L) := mle_lgv hn (mle_lgv hn h)
theorem mle_lrow {n : Nat} {g : Nat → Bool} {S : Nat → Nat → Bool} {ev : Nat} {s : Nat → Nat} (hn : n ≤ 8) : ∀ (m i : Nat) (L : ln), mle n L → mle n (lrow n g S ev s i m L) := by
  intro m
  induction m with
  | zero => intro i L h; exact h
  | succ m ih =>
    intro i L h
    unfold lrow
    refine ih (i + 1) _ ?_
    split
    · exact mle_luni hn (mle_lcar hn h)
    · exact mle_lcar hn h
/-- the sender misses no pulse -/
theorem m8_lgv {n : Nat} {g : Nat → Bool} {S : Nat → Nat → Bool} {kd t : Nat} {L : ln} : mm ((lgv n g S kd t L).2 8) = mm (L.2 8) := by rw [lgv8, aps_mm]
theorem m8_lgo {n : Nat} {g : Nat → Bool} {S : Nat → Nat → Bool} {sg : Nat} {L : ln} : mm ((lgo n g S sg L).2 8) = mm (L.2 8) := by
  unfold lgo
  split
  · rw [m8_lgv, m8_lgv]
  · rw [m8_lgv]
theorem m8_lcar {n : Nat} {g : Nat → Bool} {S : Nat → Nat → Bool} {sg : Nat} {L : ln} : mm ((lcar n g S sg L).2 8) = mm (L.2 8) := by
  have hA : mm ((lcA n g S sg L).2 8) = mm (L.2 8) := by
    unfold lcA
    split
    · rfl
    · exact m8_lgo
  unfold lcar
  split
  · rw [m8_lgv, m8_lgo, m8_lgv, hA]
  · rw [m8_lgv, hA]
theorem m8_luni {n : Nat} {g : Nat → Bool} {S : Nat → Nat → Bool} {L : ln} : mm ((luni n g S L).2 8) = mm (L.2 8) := by unfold luni; rw [m8_lgv, m8_lgv]
theorem m8_lrow {n : Nat} {g : Nat → Bool} {S : Nat → Nat → Bool} {ev : Nat} {s : Nat → Nat} : ∀ (m i : Nat) (L : ln), mm ((lrow n g S ev s i m L).2 8) = mm (L.2 8) := by
  intro m
  induction m with
  | zero => intro i L; rfl
  | succ m ih =>
    intro i L
    unfold lrow
    rw [ih]
    split
    · rw [m8_luni, m8_lcar]
    · rw [m8_lcar]
/-! standing as another does -/
def rst (m : ms) : ms := (mp m, mw m, mr m, 0, 0, fun _ => 0)
def lrst (L : ln) : ln := (L.1, fun k => rst (L.2 k))
theorem mwf_rst {m : ms} (h : mwf m) : mwf (rst m) := ⟨h.1, h.2.1, h.2.2.1, Nat.zero_le _⟩
theorem sc_lrst (L : ln) : sc (lrst L) = sc L := rfl
theorem c_standAsM {d a o : Nat} {I : Nat → Nat → Int32} {J : Nat → Nat → Int64} {Q : tkQ} (ha : (tkSh a).1 = 3) (ho : (tkSh o).1 = 3) (hne : a ≠ o) (h3 : I o 3 = 0 ∨ I o 3 = 1) (h7 : I o 7 = 0 ∨ I o 7 = 1)
    (k : ∀ I', (∀ b, b ≠ a → I' b = I b) → (∀ j, j < 8 → I' a j = I o j) → I' a 8 = nI 0 → I' a 10 = nI 0 → Q none (I', J)) : tkM tkT (d + 1) 35 [.ref a, .ref o] (I, J) Q := by
  have hne2 : (o = a) = False := eq_false (fun e => hne e.symm)
  refine tkM_at (by decide) ta_35 (Or.inr ⟨_, _, rfl, ha⟩) (Nat.le_of_ble_eq_true rfl) ?_
  show tkR (0, fun _ => 0) (tkM tkT d) tkm_35 _ 0 [.ref a, .ref o] [] _
  refine tkR.run 0 rfl ?_
  simp (disch := omega) only [te_nil, te_iconst, te_ldc2, te_iload_0, te_aload_0, te_lload_0, te_istore_0, te_astore_0, te_lstore_0, te_iinc_0, te_iload_1, te_aload_1, te_lload_1, te_istore_1, te_astore_1, te_lstore_1, te_iinc_1, te_iload_2, te_aload_2, te_lload_2, te_istore_2, te_astore_2, te_lstore_2, te_iinc_2, te_iload_3, te_aload_3, te_lload_3, te_istore_3, te_astore_3, te_lstore_3, te_iinc_3, te_iload_4, te_aload_4, te_lload_4, te_istore_4, te_astore_4, te_lstore_4, te_iinc_4, te_iload_5, te_aload_5, te_lload_5, te_istore_5, te_astore_5, te_lstore_5, te_iinc_5, te_iload_6, te_aload_6, te_lload_6, te_istore_6, te_astore_6, te_lstore_6, te_iinc_6, te_iload_7, te_aload_7, te_lload_7, te_istore_7, te_astore_7, te_lstore_7, te_iinc_7, te_iload_8, te_aload_8, te_lload_8, te_istore_8, te_astore_8, te_lstore_8, te_iinc_8, te_iload_9, te_aload_9, te_lload_9, te_istore_9, te_astore_9, te_lstore_9, te_iinc_9, te_iload_10, te_aload_10, te_lload_10, te_istore_10, te_astore_10, te_lstore_10, te_iinc_10, te_iadd, te_isub, te_imul, te_iand, te_ior, te_ixor, te_ishl, te_ishr, te_iushr, te_idiv, te_irem, te_ladd, te_lmul, te_land, te_lor, te_lshl, te_lushr, te_lcmp, te_i2l, te_getfield, te_getref, te_putfield, te_putbool, te_iaload, te_baload, te_laload, te_aaload, te_caload, te_castore, te_iastore, te_bastore, te_lastore, te_arraylength, te_icmp_eq, te_if_eq, te_icmp_ne, te_if_ne, te_icmp_lt, te_if_lt, te_icmp_ge, te_if_ge, te_icmp_gt, te_if_gt, te_icmp_le, te_if_le, te_goto, te_tsw, te_call_0, te_call_1, te_call_2, te_call_3, te_call_4, te_call_5, te_call_6, te_call_7, te_ireturn, te_dreturn, te_lreturn, te_areturn, te_return, te_dup_i, te_dup_a, te_dup2, te_pop_i, tk_kl_int, tk_kl_ref, tk_kl_null0, tk_kl_long, stW_int, stW_ref, stW_long, stW_nil, Int.toNat_natCast, Int.reduceToNat, or_true, true_or, or_self, and_self, Nat.reduceDiv, Nat.reduceMod, Option.toList_some, Option.toList_none, List.cons_append, List.nil_append, true_and, and_true, not_true_eq_false, not_false_eq_true, true_implies, forall_const, implies_true, ci_pos, ci_neg, Nat.reduceLeDiff, Nat.reduceAdd, Nat.zero_le, Nat.le_refl, sh_0, sh_1, sh_2, sh_3, sh_4, sh_5, sh_6, sh_7, sh_8, sh_9, sh_10, sh_11, sh_12, sh_13, sh_14, sh_15, sh_16, sh_17, sh_18, sh_19, sh_20, sh_21, sh_22, sh_23, sh_24, sh_25, sh_26, sh_27, sh_28, sh_29, sh_30, sh_31, sh_32, sh_33, sh_34, sh_35, sh_36, sh_37, sh_38, sh_39, sh_40, sh_41, sh_42, sh_43, sh_44, sh_45, sh_46, sh_47, sh_48, sh_49, sh_50, sh_51, sh_52, sh_53, sh_54, sh_55, sh_56, sh_57, sh_58, sh_59, sh_60, sh_61, sh_62, sh_63, sh_64, sh_65, sh_66, sh_67, sh_68, sh_69, sh_70, sh_71, sh_72, sh_73, sh_74, sh_75, sh_76, sh_77, sh_78, sh_79, sh_80, sh_81, sh_82, sh_83, sh_84, sh_85, sh_86, sh_87, sh_88, sh_89, sh_90, sh_91, sh_92, sh_93, sh_94, sh_95, sh_96, sh_97, sh_98, sh_99, sh_100, sh_101, sh_102, sh_103, sh_104, sh_105, sh_106, sh_107, sh_108, sh_109, sh_110, sh_111, sh_112, sh_113, sh_114, sh_115, sh_116, sh_117, sh_118, sh_119, sh_120, sh_121, sh_122, sh_123, sh_124, sh_125, sh_126, sh_127, rf_0_0, rf_0_1, rf_0_2, rf_0_3, rf_0_4, rf_0_5, rf_0_6, rf_0_7, rf_0_8, rf_0_9, rf_1_3, rf_1_4, rf_1_9, rf_1_10, rf_1_11, rf_2_3, rf_2_4, rf_2_9, rf_2_10, rf_2_11, rf_3_0, rf_4_0, rf_5_0, rf_5_1, rf_6_0, rf_6_1, rf_6_2, rf_6_3, rf_7_0, rf_7_1, rf_7_2, rf_7_3, rf_7_4, rf_7_5, rf_8_0, rf_8_1, rf_8_2, rf_8_3, rf_9_0, rf_9_1, rf_9_2, rf_10_0, rf_10_2, rf_10_3, rf_10_4, rf_10_5, rf_10_6, rf_10_7, rf_11_0, rf_11_1, rf_12_0, rf_13_1, rf_13_2, rf_13_3, rf_13_4, rf_13_5, rf_13_10, rf_13_11, rf_13_12, rf_13_13, rf_13_14, rf_13_15, rf_13_16, rf_13_17, rf_13_18, rf_13_20, rf_13_22, rf_13_23, rf_13_24, rf_13_26, rf_13_31, rf_13_32, rf_13_33, rf_13_34, rf_13_37, rf_13_38, rf_13_39, rf_13_40, rf_13_41, rf_13_42, rf_13_43, rf_13_44, rf_13_45, rf_13_47, rf_13_48, rf_13_49, rf_13_50, rf_13_51, rf_13_52, rf_13_53, rf_13_54, rf_13_57, rf_24_9, rf_26_9, rf_28_9, rf_30_9, rf_32_9, rf_34_9, rf_36_9, rf_38_9, rf_40_9, rf_46_9, rf_48_9, rf_50_9, rf_52_9, rf_54_9, rf_56_9, rf_58_9, rf_60_9, rf_62_9, false_implies, Nat.reduceLT, Nat.lt_irrefl, nI_eq', nI_le', nI_lt', nI_add, nI_sub, nI_clamp, vp_in_eq, nI_mI, mI_nI, mI_eq, nI_lt_mI, mI_lt_nI, pk_mul, pk_div, ire_n, nI_m1, b_0, b_1, up2_app, na1, na2, Nat.reduceAdd, Nat.reduceSub, Nat.reduceMul, Nat.reduceDiv, Nat.reduceMod, Nat.reduceLeDiff, Nat.reduceEqDiff, not_true_eq_false, not_false_eq_true, true_and, and_true, false_and, and_false, or_true, true_or, or_false, false_or, if_true, if_false, ite_true, ite_false, reduceIte, ha, ho, hne2]
  refine ⟨h3, h7, k _ (fun b hb => ?_) (fun j hj => ?_) ?_ ?_⟩
  · funext j
    simp only [up2_app, hb, false_and, if_false]
  · match j, hj with
    | 0, _ => simp [up2_app]
    | 1, _ => simp [up2_app]
    | 2, _ => simp [up2_app]
    | 3, _ => simp [up2_app]
    | 4, _ => simp [up2_app]
    | 5, _ => simp [up2_app]
    | 6, _ => simp [up2_app]
    | 7, _ => simp [up2_app]
    | j + 8, h => omega
  · simp [up2_app]
  · simp [up2_app]
theorem mC.rst {a o : Nat} {I I' : Nat → Nat → Int32} {m : ms} (h : mC o I m) (h1 : ∀ j, j < 8 → I' a j = I o j) (h8 : I' a 8 = nI 0) (h10 : I' a 10 = nI 0) : mC a I' (rst m) := by
  obtain ⟨c1, c2, c3, c4, c5, c6, c7⟩ := h
  exact ⟨by rw [h1 4 (by decide)]; exact c1, by rw [h1 5 (by decide)]; exact c2, by rw [h1 6 (by decide)]; exact c3, by rw [h1 7 (by decide)]; exact c4, h8, h10, fun j hj => absurd hj (Nat.not_lt_zero j)⟩
theorem b01 {n : Nat} (h : n ≤ 1) : nI n = 0 ∨ nI n = 1 := by
  match n, h with
  | 0, _ => exact Or.inl rfl
  | 1, _ => exact Or.inr rfl
  | n + 2, h => omega
theorem mC.b7 {a : Nat} {I : Nat → Nat → Int32} {m : ms} (h : mC a I m) : I a 7 = 0 ∨ I a 7 = 1 := by rw [h.2.2.2.1]; exact b01 (by split <;> omega)
/-- the trial wire takes the sender alone -/
theorem c_standAsSenderOf {d n N B : Nat} {g : Nat → Bool} {S : Nat → Nat → Bool} {L : ln} {I : Nat → Nat → Int32} {J : Nat → Nat → Int64} {Q : tkQ} (hL : lR 1 20 I n N g S L B) (h3 : I 24 3 = 0 ∨ I 24 3 = 1)
    (k : ∀ I', (∀ c, c ≠ 2 → c ≠ 46 → I' c = I c) → lR 2 42 I' 0 0 (fun _ => false) (fun _ _ => false) (lrst L) B → Q none (I', J)) : tkM tkT (d + 2) 33 [.ref 2, .ref 1] (I, J) Q := by
  obtain ⟨m1, m2⟩ := hL.sender
  have l2 := hL.1.2.1
  have hB := hL.2.2.2.1
  refine tkM_at (by decide) ta_33 (Or.inr ⟨_, _, rfl, rfl⟩) (Nat.le_of_ble_eq_true rfl) ?_
  show tkR (0, fun _ => 0) (tkM tkT (d+1)) tkm_33 _ 0 [.ref 2, .ref 1] [] _
  refine tkR.run 0 rfl ?_
  simp (disch := omega) only [te_nil, te_iconst, te_ldc2, te_iload_0, te_aload_0, te_lload_0, te_istore_0, te_astore_0, te_lstore_0, te_iinc_0, te_iload_1, te_aload_1, te_lload_1, te_istore_1, te_astore_1, te_lstore_1, te_iinc_1, te_iload_2, te_aload_2, te_lload_2, te_istore_2, te_astore_2, te_lstore_2, te_iinc_2, te_iload_3, te_aload_3, te_lload_3, te_istore_3, te_astore_3, te_lstore_3, te_iinc_3, te_iload_4, te_aload_4, te_lload_4, te_istore_4, te_astore_4, te_lstore_4, te_iinc_4, te_iload_5, te_aload_5, te_lload_5, te_istore_5, te_astore_5, te_lstore_5, te_iinc_5, te_iload_6, te_aload_6, te_lload_6, te_istore_6, te_astore_6, te_lstore_6, te_iinc_6, te_iload_7, te_aload_7, te_lload_7, te_istore_7, te_astore_7, te_lstore_7, te_iinc_7, te_iload_8, te_aload_8, te_lload_8, te_istore_8, te_astore_8, te_lstore_8, te_iinc_8, te_iload_9, te_aload_9, te_lload_9, te_istore_9, te_astore_9, te_lstore_9, te_iinc_9, te_iload_10, te_aload_10, te_lload_10, te_istore_10, te_astore_10, te_lstore_10, te_iinc_10, te_iadd, te_isub, te_imul, te_iand, te_ior, te_ixor, te_ishl, te_ishr, te_iushr, te_idiv, te_irem, te_ladd, te_lmul, te_land, te_lor, te_lshl, te_lushr, te_lcmp, te_i2l, te_getfield, te_getref, te_putfield, te_putbool, te_iaload, te_baload, te_laload, te_aaload, te_caload, te_castore, te_iastore, te_bastore, te_lastore, te_arraylength, te_icmp_eq, te_if_eq, te_icmp_ne, te_if_ne, te_icmp_lt, te_if_lt, te_icmp_ge, te_if_ge, te_icmp_gt, te_if_gt, te_icmp_le, te_if_le, te_goto, te_tsw, te_call_0, te_call_1, te_call_2, te_call_3, te_call_4, te_call_5, te_call_6, te_call_7, te_ireturn, te_dreturn, te_lreturn, te_areturn, te_return, te_dup_i, te_dup_a, te_dup2, te_pop_i, tk_kl_int, tk_kl_ref, tk_kl_null0, tk_kl_long, stW_int, stW_ref, stW_long, stW_nil, Int.toNat_natCast, Int.reduceToNat, or_true, true_or, or_self, and_self, Nat.reduceDiv, Nat.reduceMod, Option.toList_some, Option.toList_none, List.cons_append, List.nil_append, true_and, and_true, not_true_eq_false, not_false_eq_true, true_implies, forall_const, implies_true, ci_pos, ci_neg, Nat.reduceLeDiff, Nat.reduceAdd, Nat.zero_le, Nat.le_refl, sh_0, sh_1, sh_2, sh_3, sh_4, sh_5, sh_6, sh_7, sh_8, sh_9, sh_10, sh_11, sh_12, sh_13, sh_14, sh_15, sh_16, sh_17, sh_18, sh_19, sh_20, sh_21, sh_22, sh_23, sh_24, sh_25, sh_26, sh_27, sh_28, sh_29, sh_30, sh_31, sh_32, sh_33, sh_34, sh_35, sh_36, sh_37, sh_38, sh_39, sh_40, sh_41, sh_42, sh_43, sh_44, sh_45, sh_46, sh_47, sh_48, sh_49, sh_50, sh_51, sh_52, sh_53, sh_54, sh_55, sh_56, sh_57, sh_58, sh_59, sh_60, sh_61, sh_62, sh_63, sh_64, sh_65, sh_66, sh_67, sh_68, sh_69, sh_70, sh_71, sh_72, sh_73, sh_74, sh_75, sh_76, sh_77, sh_78, sh_79, sh_80, sh_81, sh_82, sh_83, sh_84, sh_85, sh_86, sh_87, sh_88, sh_89, sh_90, sh_91, sh_92, sh_93, sh_94, sh_95, sh_96, sh_97, sh_98, sh_99, sh_100, sh_101, sh_102, sh_103, sh_104, sh_105, sh_106, sh_107, sh_108, sh_109, sh_110, sh_111, sh_112, sh_113, sh_114, sh_115, sh_116, sh_117, sh_118, sh_119, sh_120, sh_121, sh_122, sh_123, sh_124, sh_125, sh_126, sh_127, rf_0_0, rf_0_1, rf_0_2, rf_0_3, rf_0_4, rf_0_5, rf_0_6, rf_0_7, rf_0_8, rf_0_9, rf_1_3, rf_1_4, rf_1_9, rf_1_10, rf_1_11, rf_2_3, rf_2_4, rf_2_9, rf_2_10, rf_2_11, rf_3_0, rf_4_0, rf_5_0, rf_5_1, rf_6_0, rf_6_1, rf_6_2, rf_6_3, rf_7_0, rf_7_1, rf_7_2, rf_7_3, rf_7_4, rf_7_5, rf_8_0, rf_8_1, rf_8_2, rf_8_3, rf_9_0, rf_9_1, rf_9_2, rf_10_0, rf_10_2, rf_10_3, rf_10_4, rf_10_5, rf_10_6, rf_10_7, rf_11_0, rf_11_1, rf_12_0, rf_13_1, rf_13_2, rf_13_3, rf_13_4, rf_13_5, rf_13_10, rf_13_11, rf_13_12, rf_13_13, rf_13_14, rf_13_15, rf_13_16, rf_13_17, rf_13_18, rf_13_20, rf_13_22, rf_13_23, rf_13_24, rf_13_26, rf_13_31, rf_13_32, rf_13_33, rf_13_34, rf_13_37, rf_13_38, rf_13_39, rf_13_40, rf_13_41, rf_13_42, rf_13_43, rf_13_44, rf_13_45, rf_13_47, rf_13_48, rf_13_49, rf_13_50, rf_13_51, rf_13_52, rf_13_53, rf_13_54, rf_13_57, rf_24_9, rf_26_9, rf_28_9, rf_30_9, rf_32_9, rf_34_9, rf_36_9, rf_38_9, rf_40_9, rf_46_9, rf_48_9, rf_50_9, rf_52_9, rf_54_9, rf_56_9, rf_58_9, rf_60_9, rf_62_9, false_implies, Nat.reduceLT, Nat.lt_irrefl, nI_eq', nI_le', nI_lt', nI_add, nI_sub, nI_clamp, vp_in_eq, nI_mI, mI_nI, mI_eq, nI_lt_mI, mI_lt_nI, pk_mul, pk_div, ire_n, nI_m1, b_0, b_1, up2_app, na1, na2, Nat.reduceAdd, Nat.reduceSub, Nat.reduceMul, Nat.reduceDiv, Nat.reduceMod, Nat.reduceLeDiff, Nat.reduceEqDiff, not_true_eq_false, not_false_eq_true, true_and, and_true, false_and, and_false, or_true, true_or, or_false, false_or, if_true, if_false, ite_true, ite_false, reduceIte]
  refine c_standAsM (by decide +kernel) (by decide +kernel) (by decide) h3 m1.b7 (fun I1 v1 v2 v3 v4 => ?_)
  have f1 := v1 1 (by decide)
  simp (disch := omega) only [te_nil, te_iconst, te_ldc2, te_iload_0, te_aload_0, te_lload_0, te_istore_0, te_astore_0, te_lstore_0, te_iinc_0, te_iload_1, te_aload_1, te_lload_1, te_istore_1, te_astore_1, te_lstore_1, te_iinc_1, te_iload_2, te_aload_2, te_lload_2, te_istore_2, te_astore_2, te_lstore_2, te_iinc_2, te_iload_3, te_aload_3, te_lload_3, te_istore_3, te_astore_3, te_lstore_3, te_iinc_3, te_iload_4, te_aload_4, te_lload_4, te_istore_4, te_astore_4, te_lstore_4, te_iinc_4, te_iload_5, te_aload_5, te_lload_5, te_istore_5, te_astore_5, te_lstore_5, te_iinc_5, te_iload_6, te_aload_6, te_lload_6, te_istore_6, te_astore_6, te_lstore_6, te_iinc_6, te_iload_7, te_aload_7, te_lload_7, te_istore_7, te_astore_7, te_lstore_7, te_iinc_7, te_iload_8, te_aload_8, te_lload_8, te_istore_8, te_astore_8, te_lstore_8, te_iinc_8, te_iload_9, te_aload_9, te_lload_9, te_istore_9, te_astore_9, te_lstore_9, te_iinc_9, te_iload_10, te_aload_10, te_lload_10, te_istore_10, te_astore_10, te_lstore_10, te_iinc_10, te_iadd, te_isub, te_imul, te_iand, te_ior, te_ixor, te_ishl, te_ishr, te_iushr, te_idiv, te_irem, te_ladd, te_lmul, te_land, te_lor, te_lshl, te_lushr, te_lcmp, te_i2l, te_getfield, te_getref, te_putfield, te_putbool, te_iaload, te_baload, te_laload, te_aaload, te_caload, te_castore, te_iastore, te_bastore, te_lastore, te_arraylength, te_icmp_eq, te_if_eq, te_icmp_ne, te_if_ne, te_icmp_lt, te_if_lt, te_icmp_ge, te_if_ge, te_icmp_gt, te_if_gt, te_icmp_le, te_if_le, te_goto, te_tsw, te_call_0, te_call_1, te_call_2, te_call_3, te_call_4, te_call_5, te_call_6, te_call_7, te_ireturn, te_dreturn, te_lreturn, te_areturn, te_return, te_dup_i, te_dup_a, te_dup2, te_pop_i, tk_kl_int, tk_kl_ref, tk_kl_null0, tk_kl_long, stW_int, stW_ref, stW_long, stW_nil, Int.toNat_natCast, Int.reduceToNat, or_true, true_or, or_self, and_self, Nat.reduceDiv, Nat.reduceMod, Option.toList_some, Option.toList_none, List.cons_append, List.nil_append, true_and, and_true, not_true_eq_false, not_false_eq_true, true_implies, forall_const, implies_true, ci_pos, ci_neg, Nat.reduceLeDiff, Nat.reduceAdd, Nat.zero_le, Nat.le_refl, sh_0, sh_1, sh_2, sh_3, sh_4, sh_5, sh_6, sh_7, sh_8, sh_9, sh_10, sh_11, sh_12, sh_13, sh_14, sh_15, sh_16, sh_17, sh_18, sh_19, sh_20, sh_21, sh_22, sh_23, sh_24, sh_25, sh_26, sh_27, sh_28, sh_29, sh_30, sh_31, sh_32, sh_33, sh_34, sh_35, sh_36, sh_37, sh_38, sh_39, sh_40, sh_41, sh_42, sh_43, sh_44, sh_45, sh_46, sh_47, sh_48, sh_49, sh_50, sh_51, sh_52, sh_53, sh_54, sh_55, sh_56, sh_57, sh_58, sh_59, sh_60, sh_61, sh_62, sh_63, sh_64, sh_65, sh_66, sh_67, sh_68, sh_69, sh_70, sh_71, sh_72, sh_73, sh_74, sh_75, sh_76, sh_77, sh_78, sh_79, sh_80, sh_81, sh_82, sh_83, sh_84, sh_85, sh_86, sh_87, sh_88, sh_89, sh_90, sh_91, sh_92, sh_93, sh_94, sh_95, sh_96, sh_97, sh_98, sh_99, sh_100, sh_101, sh_102, sh_103, sh_104, sh_105, sh_106, sh_107, sh_108, sh_109, sh_110, sh_111, sh_112, sh_113, sh_114, sh_115, sh_116, sh_117, sh_118, sh_119, sh_120, sh_121, sh_122, sh_123, sh_124, sh_125, sh_126, sh_127, rf_0_0, rf_0_1, rf_0_2, rf_0_3, rf_0_4, rf_0_5, rf_0_6, rf_0_7, rf_0_8, rf_0_9, rf_1_3, rf_1_4, rf_1_9, rf_1_10, rf_1_11, rf_2_3, rf_2_4, rf_2_9, rf_2_10, rf_2_11, rf_3_0, rf_4_0, rf_5_0, rf_5_1, rf_6_0, rf_6_1, rf_6_2, rf_6_3, rf_7_0, rf_7_1, rf_7_2, rf_7_3, rf_7_4, rf_7_5, rf_8_0, rf_8_1, rf_8_2, rf_8_3, rf_9_0, rf_9_1, rf_9_2, rf_10_0, rf_10_2, rf_10_3, rf_10_4, rf_10_5, rf_10_6, rf_10_7, rf_11_0, rf_11_1, rf_12_0, rf_13_1, rf_13_2, rf_13_3, rf_13_4, rf_13_5, rf_13_10, rf_13_11, rf_13_12, rf_13_13, rf_13_14, rf_13_15, rf_13_16, rf_13_17, rf_13_18, rf_13_20, rf_13_22, rf_13_23, rf_13_24, rf_13_26, rf_13_31, rf_13_32, rf_13_33, rf_13_34, rf_13_37, rf_13_38, rf_13_39, rf_13_40, rf_13_41, rf_13_42, rf_13_43, rf_13_44, rf_13_45, rf_13_47, rf_13_48, rf_13_49, rf_13_50, rf_13_51, rf_13_52, rf_13_53, rf_13_54, rf_13_57, rf_24_9, rf_26_9, rf_28_9, rf_30_9, rf_32_9, rf_34_9, rf_36_9, rf_38_9, rf_40_9, rf_46_9, rf_48_9, rf_50_9, rf_52_9, rf_54_9, rf_56_9, rf_58_9, rf_60_9, rf_62_9, false_implies, Nat.reduceLT, Nat.lt_irrefl, nI_eq', nI_le', nI_lt', nI_add, nI_sub, nI_clamp, vp_in_eq, nI_mI, mI_nI, mI_eq, nI_lt_mI, mI_lt_nI, pk_mul, pk_div, ire_n, nI_m1, b_0, b_1, up2_app, na1, na2, Nat.reduceAdd, Nat.reduceSub, Nat.reduceMul, Nat.reduceDiv, Nat.reduceMod, Nat.reduceLeDiff, Nat.reduceEqDiff, not_true_eq_false, not_false_eq_true, true_and, and_true, false_and, and_false, or_true, true_or, or_false, false_or, if_true, if_false, ite_true, ite_false, reduceIte, f1, l2]
  refine k _ (fun c h1 h2 => ?_) ⟨⟨?_, ?_, Nat.le_refl _, by decide, fun q hq => ?_⟩, fun q hq => absurd hq (Nat.not_lt_zero q), ⟨fun _ => 0, fun _ => 0, 0, ⟨?_, by decide, fun i hi => absurd hi (Nat.not_lt_zero i)⟩, fun a b => ⟨fun z => absurd z Bool.false_ne_true, fun z => absurd z.choose_spec.1 (Nat.not_lt_zero _)⟩, fun i j hi => absurd hi (Nat.not_lt_zero i)⟩, hB, fun q hq => absurd hq (Nat.not_lt_zero q)⟩
  · rw [up2_ne _ _ _ h1, up2_ne _ _ _ h1, up2_ne _ _ _ h1]; exact v1 c h2
  · simp [up2_app]
  · simp [up2_app]; rfl
  · have : q = 8 := by omega
    subst this
    refine ⟨?_, mwf_rst m2⟩
    have h9 : mC 46 I1 (rst (L.2 8)) := m1.rst v2 v3 v4
    exact h9.kept (by rw [up2_ne _ _ _ (by decide), up2_ne _ _ _ (by decide), up2_ne _ _ _ (by decide)]) (by rw [up2_ne _ _ _ (by decide), up2_ne _ _ _ (by decide), up2_ne _ _ _ (by decide)])
  · simp [up2_app]
/-- the reference's trial takes all -/
theorem c_asIs {d n B : Nat} {g : Nat → Bool} {S : Nat → Nat → Bool} {L : ln} {I : Nat → Nat → Int32} {J : Nat → Nat → Int64} {Q : tkQ} (hL : lRM 0 I n 8 g S L B)
    (k : ∀ I', sF 1 I I' → lRM 1 I' n 8 g S (lrst L) B → Q none (I', J)) : tkM tkT (d + 1) 159 [.ref 13] (I, J) Q := by
  obtain ⟨⟨l1, l2, l3, l4, l5, l6⟩, hg, ⟨tm, tp, T, hs, hS⟩, hp, hm⟩ := id hL
  refine tkM_at (by decide) ta_159 (Or.inr ⟨_, _, rfl, rfl⟩) (Nat.le_of_ble_eq_true rfl) ?_
  show tkR (0, fun _ => 0) (tkM tkT d) tkm_159 _ 0 [.ref 13, .null] [] _
  refine tkR.run 0 rfl ?_
  simp (disch := omega) only [te_nil, te_iconst, te_ldc2, te_iload_0, te_aload_0, te_lload_0, te_istore_0, te_astore_0, te_lstore_0, te_iinc_0, te_iload_1, te_aload_1, te_lload_1, te_istore_1, te_astore_1, te_lstore_1, te_iinc_1, te_iload_2, te_aload_2, te_lload_2, te_istore_2, te_astore_2, te_lstore_2, te_iinc_2, te_iload_3, te_aload_3, te_lload_3, te_istore_3, te_astore_3, te_lstore_3, te_iinc_3, te_iload_4, te_aload_4, te_lload_4, te_istore_4, te_astore_4, te_lstore_4, te_iinc_4, te_iload_5, te_aload_5, te_lload_5, te_istore_5, te_astore_5, te_lstore_5, te_iinc_5, te_iload_6, te_aload_6, te_lload_6, te_istore_6, te_astore_6, te_lstore_6, te_iinc_6, te_iload_7, te_aload_7, te_lload_7, te_istore_7, te_astore_7, te_lstore_7, te_iinc_7, te_iload_8, te_aload_8, te_lload_8, te_istore_8, te_astore_8, te_lstore_8, te_iinc_8, te_iload_9, te_aload_9, te_lload_9, te_istore_9, te_astore_9, te_lstore_9, te_iinc_9, te_iload_10, te_aload_10, te_lload_10, te_istore_10, te_astore_10, te_lstore_10, te_iinc_10, te_iadd, te_isub, te_imul, te_iand, te_ior, te_ixor, te_ishl, te_ishr, te_iushr, te_idiv, te_irem, te_ladd, te_lmul, te_land, te_lor, te_lshl, te_lushr, te_lcmp, te_i2l, te_getfield, te_getref, te_putfield, te_putbool, te_iaload, te_baload, te_laload, te_aaload, te_caload, te_castore, te_iastore, te_bastore, te_lastore, te_arraylength, te_icmp_eq, te_if_eq, te_icmp_ne, te_if_ne, te_icmp_lt, te_if_lt, te_icmp_ge, te_if_ge, te_icmp_gt, te_if_gt, te_icmp_le, te_if_le, te_goto, te_tsw, te_call_0, te_call_1, te_call_2, te_call_3, te_call_4, te_call_5, te_call_6, te_call_7, te_ireturn, te_dreturn, te_lreturn, te_areturn, te_return, te_dup_i, te_dup_a, te_dup2, te_pop_i, tk_kl_int, tk_kl_ref, tk_kl_null0, tk_kl_long, stW_int, stW_ref, stW_long, stW_nil, Int.toNat_natCast, Int.reduceToNat, or_true, true_or, or_self, and_self, Nat.reduceDiv, Nat.reduceMod, Option.toList_some, Option.toList_none, List.cons_append, List.nil_append, true_and, and_true, not_true_eq_false, not_false_eq_true, true_implies, forall_const, implies_true, ci_pos, ci_neg, Nat.reduceLeDiff, Nat.reduceAdd, Nat.zero_le, Nat.le_refl, sh_0, sh_1, sh_2, sh_3, sh_4, sh_5, sh_6, sh_7, sh_8, sh_9, sh_10, sh_11, sh_12, sh_13, sh_14, sh_15, sh_16, sh_17, sh_18, sh_19, sh_20, sh_21, sh_22, sh_23, sh_24, sh_25, sh_26, sh_27, sh_28, sh_29, sh_30, sh_31, sh_32, sh_33, sh_34, sh_35, sh_36, sh_37, sh_38, sh_39, sh_40, sh_41, sh_42, sh_43, sh_44, sh_45, sh_46, sh_47, sh_48, sh_49, sh_50, sh_51, sh_52, sh_53, sh_54, sh_55, sh_56, sh_57, sh_58, sh_59, sh_60, sh_61, sh_62, sh_63, sh_64, sh_65, sh_66, sh_67, sh_68, sh_69, sh_70, sh_71, sh_72, sh_73, sh_74, sh_75, sh_76, sh_77, sh_78, sh_79, sh_80, sh_81, sh_82, sh_83, sh_84, sh_85, sh_86, sh_87, sh_88, sh_89, sh_90, sh_91, sh_92, sh_93, sh_94, sh_95, sh_96, sh_97, sh_98, sh_99, sh_100, sh_101, sh_102, sh_103, sh_104, sh_105, sh_106, sh_107, sh_108, sh_109, sh_110, sh_111, sh_112, sh_113, sh_114, sh_115, sh_116, sh_117, sh_118, sh_119, sh_120, sh_121, sh_122, sh_123, sh_124, sh_125, sh_126, sh_127, rf_0_0, rf_0_1, rf_0_2, rf_0_3, rf_0_4, rf_0_5, rf_0_6, rf_0_7, rf_0_8, rf_0_9, rf_1_3, rf_1_4, rf_1_9, rf_1_10, rf_1_11, rf_2_3, rf_2_4, rf_2_9, rf_2_10, rf_2_11, rf_3_0, rf_4_0, rf_5_0, rf_5_1, rf_6_0, rf_6_1, rf_6_2, rf_6_3, rf_7_0, rf_7_1, rf_7_2, rf_7_3, rf_7_4, rf_7_5, rf_8_0, rf_8_1, rf_8_2, rf_8_3, rf_9_0, rf_9_1, rf_9_2, rf_10_0, rf_10_2, rf_10_3, rf_10_4, rf_10_5, rf_10_6, rf_10_7, rf_11_0, rf_11_1, rf_12_0, rf_13_1, rf_13_2, rf_13_3, rf_13_4, rf_13_5, rf_13_10, rf_13_11, rf_13_12, rf_13_13, rf_13_14, rf_13_15, rf_13_16, rf_13_17, rf_13_18, rf_13_20, rf_13_22, rf_13_23, rf_13_24, rf_13_26, rf_13_31, rf_13_32, rf_13_33, rf_13_34, rf_13_37, rf_13_38, rf_13_39, rf_13_40, rf_13_41, rf_13_42, rf_13_43, rf_13_44, rf_13_45, rf_13_47, rf_13_48, rf_13_49, rf_13_50, rf_13_51, rf_13_52, rf_13_53, rf_13_54, rf_13_57, rf_24_9, rf_26_9, rf_28_9, rf_30_9, rf_32_9, rf_34_9, rf_36_9, rf_38_9, rf_40_9, rf_46_9, rf_48_9, rf_50_9, rf_52_9, rf_54_9, rf_56_9, rf_58_9, rf_60_9, rf_62_9, false_implies, Nat.reduceLT, Nat.lt_irrefl, nI_eq', nI_le', nI_lt', nI_add, nI_sub, nI_clamp, vp_in_eq, nI_mI, mI_nI, mI_eq, nI_lt_mI, mI_lt_nI, pk_mul, pk_div, ire_n, nI_m1, b_0, b_1, up2_app, na1, na2, Nat.reduceAdd, Nat.reduceSub, Nat.reduceMul, Nat.reduceDiv, Nat.reduceMod, Nat.reduceLeDiff, Nat.reduceEqDiff, not_true_eq_false, not_false_eq_true, true_and, and_true, false_and, and_false, or_true, true_or, or_false, false_or, if_true, if_false, ite_true, ite_false, reduceIte]
  have loop : ∀ x i I1, 9 = i + x → sF 1 I I1 → I1 94 = I 94 → (∀ k, k < i → mM (9 + k) I1 (rst (L.2 k))) → tkR (0, fun _ => 0) (tkM tkT d) tkm_159 Q 1 [.ref 13, .int (nI i)] [] (I1, J) := by
    intro x
    induction x with
    | zero =>
      intro i I1 hi hF f94 v1
      have : i = 9 := by omega
      subst this
      refine tkR.run 1 rfl ?_
      simp (disch := omega) only [te_nil, te_iconst, te_ldc2, te_iload_0, te_aload_0, te_lload_0, te_istore_0, te_astore_0, te_lstore_0, te_iinc_0, te_iload_1, te_aload_1, te_lload_1, te_istore_1, te_astore_1, te_lstore_1, te_iinc_1, te_iload_2, te_aload_2, te_lload_2, te_istore_2, te_astore_2, te_lstore_2, te_iinc_2, te_iload_3, te_aload_3, te_lload_3, te_istore_3, te_astore_3, te_lstore_3, te_iinc_3, te_iload_4, te_aload_4, te_lload_4, te_istore_4, te_astore_4, te_lstore_4, te_iinc_4, te_iload_5, te_aload_5, te_lload_5, te_istore_5, te_astore_5, te_lstore_5, te_iinc_5, te_iload_6, te_aload_6, te_lload_6, te_istore_6, te_astore_6, te_lstore_6, te_iinc_6, te_iload_7, te_aload_7, te_lload_7, te_istore_7, te_astore_7, te_lstore_7, te_iinc_7, te_iload_8, te_aload_8, te_lload_8, te_istore_8, te_astore_8, te_lstore_8, te_iinc_8, te_iload_9, te_aload_9, te_lload_9, te_istore_9, te_astore_9, te_lstore_9, te_iinc_9, te_iload_10, te_aload_10, te_lload_10, te_istore_10, te_astore_10, te_lstore_10, te_iinc_10, te_iadd, te_isub, te_imul, te_iand, te_ior, te_ixor, te_ishl, te_ishr, te_iushr, te_idiv, te_irem, te_ladd, te_lmul, te_land, te_lor, te_lshl, te_lushr, te_lcmp, te_i2l, te_getfield, te_getref, te_putfield, te_putbool, te_iaload, te_baload, te_laload, te_aaload, te_caload, te_castore, te_iastore, te_bastore, te_lastore, te_arraylength, te_icmp_eq, te_if_eq, te_icmp_ne, te_if_ne, te_icmp_lt, te_if_lt, te_icmp_ge, te_if_ge, te_icmp_gt, te_if_gt, te_icmp_le, te_if_le, te_goto, te_tsw, te_call_0, te_call_1, te_call_2, te_call_3, te_call_4, te_call_5, te_call_6, te_call_7, te_ireturn, te_dreturn, te_lreturn, te_areturn, te_return, te_dup_i, te_dup_a, te_dup2, te_pop_i, tk_kl_int, tk_kl_ref, tk_kl_null0, tk_kl_long, stW_int, stW_ref, stW_long, stW_nil, Int.toNat_natCast, Int.reduceToNat, or_true, true_or, or_self, and_self, Nat.reduceDiv, Nat.reduceMod, Option.toList_some, Option.toList_none, List.cons_append, List.nil_append, true_and, and_true, not_true_eq_false, not_false_eq_true, true_implies, forall_const, implies_true, ci_pos, ci_neg, Nat.reduceLeDiff, Nat.reduceAdd, Nat.zero_le, Nat.le_refl, sh_0, sh_1, sh_2, sh_3, sh_4, sh_5, sh_6, sh_7, sh_8, sh_9, sh_10, sh_11, sh_12, sh_13, sh_14, sh_15, sh_16, sh_17, sh_18, sh_19, sh_20, sh_21, sh_22, sh_23, sh_24, sh_25, sh_26, sh_27, sh_28, sh_29, sh_30, sh_31, sh_32, sh_33, sh_34, sh_35, sh_36, sh_37, sh_38, sh_39, sh_40, sh_41, sh_42, sh_43, sh_44, sh_45, sh_46, sh_47, sh_48, sh_49, sh_50, sh_51, sh_52, sh_53, sh_54, sh_55, sh_56, sh_57, sh_58, sh_59, sh_60, sh_61, sh_62, sh_63, sh_64, sh_65, sh_66, sh_67, sh_68, sh_69, sh_70, sh_71, sh_72, sh_73, sh_74, sh_75, sh_76, sh_77, sh_78, sh_79, sh_80, sh_81, sh_82, sh_83, sh_84, sh_85, sh_86, sh_87, sh_88, sh_89, sh_90, sh_91, sh_92, sh_93, sh_94, sh_95, sh_96, sh_97, sh_98, sh_99, sh_100, sh_101, sh_102, sh_103, sh_104, sh_105, sh_106, sh_107, sh_108, sh_109, sh_110, sh_111, sh_112, sh_113, sh_114, sh_115, sh_116, sh_117, sh_118, sh_119, sh_120, sh_121, sh_122, sh_123, sh_124, sh_125, sh_126, sh_127, rf_0_0, rf_0_1, rf_0_2, rf_0_3, rf_0_4, rf_0_5, rf_0_6, rf_0_7, rf_0_8, rf_0_9, rf_1_3, rf_1_4, rf_1_9, rf_1_10, rf_1_11, rf_2_3, rf_2_4, rf_2_9, rf_2_10, rf_2_11, rf_3_0, rf_4_0, rf_5_0, rf_5_1, rf_6_0, rf_6_1, rf_6_2, rf_6_3, rf_7_0, rf_7_1, rf_7_2, rf_7_3, rf_7_4, rf_7_5, rf_8_0, rf_8_1, rf_8_2, rf_8_3, rf_9_0, rf_9_1, rf_9_2, rf_10_0, rf_10_2, rf_10_3, rf_10_4, rf_10_5, rf_10_6, rf_10_7, rf_11_0, rf_11_1, rf_12_0, rf_13_1, rf_13_2, rf_13_3, rf_13_4, rf_13_5, rf_13_10, rf_13_11, rf_13_12, rf_13_13, rf_13_14, rf_13_15, rf_13_16, rf_13_17, rf_13_18, rf_13_20, rf_13_22, rf_13_23, rf_13_24, rf_13_26, rf_13_31, rf_13_32, rf_13_33, rf_13_34, rf_13_37, rf_13_38, rf_13_39, rf_13_40, rf_13_41, rf_13_42, rf_13_43, rf_13_44, rf_13_45, rf_13_47, rf_13_48, rf_13_49, rf_13_50, rf_13_51, rf_13_52, rf_13_53, rf_13_54, rf_13_57, rf_24_9, rf_26_9, rf_28_9, rf_30_9, rf_32_9, rf_34_9, rf_36_9, rf_38_9, rf_40_9, rf_46_9, rf_48_9, rf_50_9, rf_52_9, rf_54_9, rf_56_9, rf_58_9, rf_60_9, rf_62_9, false_implies, Nat.reduceLT, Nat.lt_irrefl, nI_eq', nI_le', nI_lt', nI_add, nI_sub, nI_clamp, vp_in_eq, nI_mI, mI_nI, mI_eq, nI_lt_mI, mI_lt_nI, pk_mul, pk_div, ire_n, nI_m1, b_0, b_1, up2_app, na1, na2, Nat.reduceAdd, Nat.reduceSub, Nat.reduceMul, Nat.reduceDiv, Nat.reduceMod, Nat.reduceLeDiff, Nat.reduceEqDiff, not_true_eq_false, not_false_eq_true, true_and, and_true, false_and, and_false, or_true, true_or, or_false, false_or, if_true, if_false, ite_true, ite_false, reduceIte]
      refine tkR.run 2 rfl ?_
      simp (disch := omega) only [te_nil, te_iconst, te_ldc2, te_iload_0, te_aload_0, te_lload_0, te_istore_0, te_astore_0, te_lstore_0, te_iinc_0, te_iload_1, te_aload_1, te_lload_1, te_istore_1, te_astore_1, te_lstore_1, te_iinc_1, te_iload_2, te_aload_2, te_lload_2, te_istore_2, te_astore_2, te_lstore_2, te_iinc_2, te_iload_3, te_aload_3, te_lload_3, te_istore_3, te_astore_3, te_lstore_3, te_iinc_3, te_iload_4, te_aload_4, te_lload_4, te_istore_4, te_astore_4, te_lstore_4, te_iinc_4, te_iload_5, te_aload_5, te_lload_5, te_istore_5, te_astore_5, te_lstore_5, te_iinc_5, te_iload_6, te_aload_6, te_lload_6, te_istore_6, te_astore_6, te_lstore_6, te_iinc_6, te_iload_7, te_aload_7, te_lload_7, te_istore_7, te_astore_7, te_lstore_7, te_iinc_7, te_iload_8, te_aload_8, te_lload_8, te_istore_8, te_astore_8, te_lstore_8, te_iinc_8, te_iload_9, te_aload_9, te_lload_9, te_istore_9, te_astore_9, te_lstore_9, te_iinc_9, te_iload_10, te_aload_10, te_lload_10, te_istore_10, te_astore_10, te_lstore_10, te_iinc_10, te_iadd, te_isub, te_imul, te_iand, te_ior, te_ixor, te_ishl, te_ishr, te_iushr, te_idiv, te_irem, te_ladd, te_lmul, te_land, te_lor, te_lshl, te_lushr, te_lcmp, te_i2l, te_getfield, te_getref, te_putfield, te_putbool, te_iaload, te_baload, te_laload, te_aaload, te_caload, te_castore, te_iastore, te_bastore, te_lastore, te_arraylength, te_icmp_eq, te_if_eq, te_icmp_ne, te_if_ne, te_icmp_lt, te_if_lt, te_icmp_ge, te_if_ge, te_icmp_gt, te_if_gt, te_icmp_le, te_if_le, te_goto, te_tsw, te_call_0, te_call_1, te_call_2, te_call_3, te_call_4, te_call_5, te_call_6, te_call_7, te_ireturn, te_dreturn, te_lreturn, te_areturn, te_return, te_dup_i, te_dup_a, te_dup2, te_pop_i, tk_kl_int, tk_kl_ref, tk_kl_null0, tk_kl_long, stW_int, stW_ref, stW_long, stW_nil, Int.toNat_natCast, Int.reduceToNat, or_true, true_or, or_self, and_self, Nat.reduceDiv, Nat.reduceMod, Option.toList_some, Option.toList_none, List.cons_append, List.nil_append, true_and, and_true, not_true_eq_false, not_false_eq_true, true_implies, forall_const, implies_true, ci_pos, ci_neg, Nat.reduceLeDiff, Nat.reduceAdd, Nat.zero_le, Nat.le_refl, sh_0, sh_1, sh_2, sh_3, sh_4, sh_5, sh_6, sh_7, sh_8, sh_9, sh_10, sh_11, sh_12, sh_13, sh_14, sh_15, sh_16, sh_17, sh_18, sh_19, sh_20, sh_21, sh_22, sh_23, sh_24, sh_25, sh_26, sh_27, sh_28, sh_29, sh_30, sh_31, sh_32, sh_33, sh_34, sh_35, sh_36, sh_37, sh_38, sh_39, sh_40, sh_41, sh_42, sh_43, sh_44, sh_45, sh_46, sh_47, sh_48, sh_49, sh_50, sh_51, sh_52, sh_53, sh_54, sh_55, sh_56, sh_57, sh_58, sh_59, sh_60, sh_61, sh_62, sh_63, sh_64, sh_65, sh_66, sh_67, sh_68, sh_69, sh_70, sh_71, sh_72, sh_73, sh_74, sh_75, sh_76, sh_77, sh_78, sh_79, sh_80, sh_81, sh_82, sh_83, sh_84, sh_85, sh_86, sh_87, sh_88, sh_89, sh_90, sh_91, sh_92, sh_93, sh_94, sh_95, sh_96, sh_97, sh_98, sh_99, sh_100, sh_101, sh_102, sh_103, sh_104, sh_105, sh_106, sh_107, sh_108, sh_109, sh_110, sh_111, sh_112, sh_113, sh_114, sh_115, sh_116, sh_117, sh_118, sh_119, sh_120, sh_121, sh_122, sh_123, sh_124, sh_125, sh_126, sh_127, rf_0_0, rf_0_1, rf_0_2, rf_0_3, rf_0_4, rf_0_5, rf_0_6, rf_0_7, rf_0_8, rf_0_9, rf_1_3, rf_1_4, rf_1_9, rf_1_10, rf_1_11, rf_2_3, rf_2_4, rf_2_9, rf_2_10, rf_2_11, rf_3_0, rf_4_0, rf_5_0, rf_5_1, rf_6_0, rf_6_1, rf_6_2, rf_6_3, rf_7_0, rf_7_1, rf_7_2, rf_7_3, rf_7_4, rf_7_5, rf_8_0, rf_8_1, rf_8_2, rf_8_3, rf_9_0, rf_9_1, rf_9_2, rf_10_0, rf_10_2, rf_10_3, rf_10_4, rf_10_5, rf_10_6, rf_10_7, rf_11_0, rf_11_1, rf_12_0, rf_13_1, rf_13_2, rf_13_3, rf_13_4, rf_13_5, rf_13_10, rf_13_11, rf_13_12, rf_13_13, rf_13_14, rf_13_15, rf_13_16, rf_13_17, rf_13_18, rf_13_20, rf_13_22, rf_13_23, rf_13_24, rf_13_26, rf_13_31, rf_13_32, rf_13_33, rf_13_34, rf_13_37, rf_13_38, rf_13_39, rf_13_40, rf_13_41, rf_13_42, rf_13_43, rf_13_44, rf_13_45, rf_13_47, rf_13_48, rf_13_49, rf_13_50, rf_13_51, rf_13_52, rf_13_53, rf_13_54, rf_13_57, rf_24_9, rf_26_9, rf_28_9, rf_30_9, rf_32_9, rf_34_9, rf_36_9, rf_38_9, rf_40_9, rf_46_9, rf_48_9, rf_50_9, rf_52_9, rf_54_9, rf_56_9, rf_58_9, rf_60_9, rf_62_9, false_implies, Nat.reduceLT, Nat.lt_irrefl, nI_eq', nI_le', nI_lt', nI_add, nI_sub, nI_clamp, vp_in_eq, nI_mI, mI_nI, mI_eq, nI_lt_mI, mI_lt_nI, pk_mul, pk_div, ire_n, nI_m1, b_0, b_1, up2_app, na1, na2, Nat.reduceAdd, Nat.reduceSub, Nat.reduceMul, Nat.reduceDiv, Nat.reduceMod, Nat.reduceLeDiff, Nat.reduceEqDiff, not_true_eq_false, not_false_eq_true, true_and, and_true, false_and, and_false, or_true, true_or, or_false, false_or, if_true, if_false, ite_true, ite_false, reduceIte, f94, l2]
      have hF2 : sF 1 I (up2 I1 94 1 (nI L.1)) := by
        refine ⟨fun c h1 h2 => ?_, fun h1 => ?_, fun j hj => ?_, fun c h1 h2 j hj => ?_, fun j hj => ?_⟩
        · rw [up2_ne _ _ _ (by omega)]; exact hF.1 c h1 h2
        · rw [up2_ne _ _ _ (by omega)]; exact hF.2.1 h1
        · rw [up2_app, if_neg (fun z => hj z.2)]; exact hF.2.2.1 j hj
        · rw [up2_ne _ _ _ (by omega)]; exact hF.2.2.2.1 c h1 h2 j hj
        · rw [up2_ne _ _ _ (by omega)]; exact hF.2.2.2.2 j hj
      refine k _ hF2 ⟨⟨?_, ?_, l3, l4, fun q hq => ⟨?_, mwf_rst (l5 q hq).2⟩, fun h => absurd h (by decide)⟩, fun q hq => ?_, ⟨tm, tp, T, sF_slM hF2 hs, hS⟩, hp, fun q hq => Nat.zero_le _⟩
      · rw [hF2.1 13 (by omega) (by omega)]; exact l1
      · simp [up2_app]; rfl
      · exact (v1 q (by omega)).same (fun c h1 h2 => up2_ne _ _ _ (by omega))
      · rw [sF_gM hF2]; exact hg q hq
    | succ x ih =>
      intro i I1 hi hF f94 v1
      have hi8 : i < 8 ∨ i = 8 := by omega
      obtain ⟨⟨c1, c2, c3, c4, c5, c6⟩, -⟩ := l5 i hi8
      rw [show 9 * 0 + i = i by omega] at c1 c2 c3 c4 c5
      have i18 : i < 18 := by omega
      have i9 : 9 + i < 18 := by omega
      have ne9 : (i = 9 + i) = False := by simp
      have g1 : I1 95 i = nI (mp (L.2 i)) := by rw [hF.2.2.2.1 95 (by omega) (by omega) i (by omega)]; exact c1
      have g2 : I1 96 i = nI (mw (L.2 i)) := by rw [hF.2.2.2.1 96 (by omega) (by omega) i (by omega)]; exact c2
      have g3 : I1 97 i = nI (mr (L.2 i)) := by rw [hF.2.2.2.1 97 (by omega) (by omega) i (by omega)]; exact c3
      have g4 : I1 98 i = nI (if mr (L.2 i) = 56 then 1 else 0) := by rw [hF.2.2.2.1 98 (by omega) (by omega) i (by omega)]; exact c4
      refine tkR.run 1 rfl ?_
      simp (disch := omega) only [te_nil, te_iconst, te_ldc2, te_iload_0, te_aload_0, te_lload_0, te_istore_0, te_astore_0, te_lstore_0, te_iinc_0, te_iload_1, te_aload_1, te_lload_1, te_istore_1, te_astore_1, te_lstore_1, te_iinc_1, te_iload_2, te_aload_2, te_lload_2, te_istore_2, te_astore_2, te_lstore_2, te_iinc_2, te_iload_3, te_aload_3, te_lload_3, te_istore_3, te_astore_3, te_lstore_3, te_iinc_3, te_iload_4, te_aload_4, te_lload_4, te_istore_4, te_astore_4, te_lstore_4, te_iinc_4, te_iload_5, te_aload_5, te_lload_5, te_istore_5, te_astore_5, te_lstore_5, te_iinc_5, te_iload_6, te_aload_6, te_lload_6, te_istore_6, te_astore_6, te_lstore_6, te_iinc_6, te_iload_7, te_aload_7, te_lload_7, te_istore_7, te_astore_7, te_lstore_7, te_iinc_7, te_iload_8, te_aload_8, te_lload_8, te_istore_8, te_astore_8, te_lstore_8, te_iinc_8, te_iload_9, te_aload_9, te_lload_9, te_istore_9, te_astore_9, te_lstore_9, te_iinc_9, te_iload_10, te_aload_10, te_lload_10, te_istore_10, te_astore_10, te_lstore_10, te_iinc_10, te_iadd, te_isub, te_imul, te_iand, te_ior, te_ixor, te_ishl, te_ishr, te_iushr, te_idiv, te_irem, te_ladd, te_lmul, te_land, te_lor, te_lshl, te_lushr, te_lcmp, te_i2l, te_getfield, te_getref, te_putfield, te_putbool, te_iaload, te_baload, te_laload, te_aaload, te_caload, te_castore, te_iastore, te_bastore, te_lastore, te_arraylength, te_icmp_eq, te_if_eq, te_icmp_ne, te_if_ne, te_icmp_lt, te_if_lt, te_icmp_ge, te_if_ge, te_icmp_gt, te_if_gt, te_icmp_le, te_if_le, te_goto, te_tsw, te_call_0, te_call_1, te_call_2, te_call_3, te_call_4, te_call_5, te_call_6, te_call_7, te_ireturn, te_dreturn, te_lreturn, te_areturn, te_return, te_dup_i, te_dup_a, te_dup2, te_pop_i, tk_kl_int, tk_kl_ref, tk_kl_null0, tk_kl_long, stW_int, stW_ref, stW_long, stW_nil, Int.toNat_natCast, Int.reduceToNat, or_true, true_or, or_self, and_self, Nat.reduceDiv, Nat.reduceMod, Option.toList_some, Option.toList_none, List.cons_append, List.nil_append, true_and, and_true, not_true_eq_false, not_false_eq_true, true_implies, forall_const, implies_true, ci_pos, ci_neg, Nat.reduceLeDiff, Nat.reduceAdd, Nat.zero_le, Nat.le_refl, sh_0, sh_1, sh_2, sh_3, sh_4, sh_5, sh_6, sh_7, sh_8, sh_9, sh_10, sh_11, sh_12, sh_13, sh_14, sh_15, sh_16, sh_17, sh_18, sh_19, sh_20, sh_21, sh_22, sh_23, sh_24, sh_25, sh_26, sh_27, sh_28, sh_29, sh_30, sh_31, sh_32, sh_33, sh_34, sh_35, sh_36, sh_37, sh_38, sh_39, sh_40, sh_41, sh_42, sh_43, sh_44, sh_45, sh_46, sh_47, sh_48, sh_49, sh_50, sh_51, sh_52, sh_53, sh_54, sh_55, sh_56, sh_57, sh_58, sh_59, sh_60, sh_61, sh_62, sh_63, sh_64, sh_65, sh_66, sh_67, sh_68, sh_69, sh_70, sh_71, sh_72, sh_73, sh_74, sh_75, sh_76, sh_77, sh_78, sh_79, sh_80, sh_81, sh_82, sh_83, sh_84, sh_85, sh_86, sh_87, sh_88, sh_89, sh_90, sh_91, sh_92, sh_93, sh_94, sh_95, sh_96, sh_97, sh_98, sh_99, sh_100, sh_101, sh_102, sh_103, sh_104, sh_105, sh_106, sh_107, sh_108, sh_109, sh_110, sh_111, sh_112, sh_113, sh_114, sh_115, sh_116, sh_117, sh_118, sh_119, sh_120, sh_121, sh_122, sh_123, sh_124, sh_125, sh_126, sh_127, rf_0_0, rf_0_1, rf_0_2, rf_0_3, rf_0_4, rf_0_5, rf_0_6, rf_0_7, rf_0_8, rf_0_9, rf_1_3, rf_1_4, rf_1_9, rf_1_10, rf_1_11, rf_2_3, rf_2_4, rf_2_9, rf_2_10, rf_2_11, rf_3_0, rf_4_0, rf_5_0, rf_5_1, rf_6_0, rf_6_1, rf_6_2, rf_6_3, rf_7_0, rf_7_1, rf_7_2, rf_7_3, rf_7_4, rf_7_5, rf_8_0, rf_8_1, rf_8_2, rf_8_3, rf_9_0, rf_9_1, rf_9_2, rf_10_0, rf_10_2, rf_10_3, rf_10_4, rf_10_5, rf_10_6, rf_10_7, rf_11_0, rf_11_1, rf_12_0, rf_13_1, rf_13_2, rf_13_3, rf_13_4, rf_13_5, rf_13_10, rf_13_11, rf_13_12, rf_13_13, rf_13_14, rf_13_15, rf_13_16, rf_13_17, rf_13_18, rf_13_20, rf_13_22, rf_13_23, rf_13_24, rf_13_26, rf_13_31, rf_13_32, rf_13_33, rf_13_34, rf_13_37, rf_13_38, rf_13_39, rf_13_40, rf_13_41, rf_13_42, rf_13_43, rf_13_44, rf_13_45, rf_13_47, rf_13_48, rf_13_49, rf_13_50, rf_13_51, rf_13_52, rf_13_53, rf_13_54, rf_13_57, rf_24_9, rf_26_9, rf_28_9, rf_30_9, rf_32_9, rf_34_9, rf_36_9, rf_38_9, rf_40_9, rf_46_9, rf_48_9, rf_50_9, rf_52_9, rf_54_9, rf_56_9, rf_58_9, rf_60_9, rf_62_9, false_implies, Nat.reduceLT, Nat.lt_irrefl, nI_eq', nI_le', nI_lt', nI_add, nI_sub, nI_clamp, vp_in_eq, nI_mI, mI_nI, mI_eq, nI_lt_mI, mI_lt_nI, pk_mul, pk_div, ire_n, nI_m1, b_0, b_1, up2_app, na1, na2, Nat.reduceAdd, Nat.reduceSub, Nat.reduceMul, Nat.reduceDiv, Nat.reduceMod, Nat.reduceLeDiff, Nat.reduceEqDiff, not_true_eq_false, not_false_eq_true, true_and, and_true, false_and, and_false, or_true, true_or, or_false, false_or, if_true, if_false, ite_true, ite_false, reduceIte, i18, i9, g1, g2, g3, g4]
      refine ⟨fun q => absurd q (by omega), fun _ => ⟨b01 (by split <;> omega), ?_⟩⟩
      refine ih (i + 1) _ (by omega) ⟨fun c h1 h2 => ?_, fun h1 => ?_, fun j hj => ?_, fun c h1 h2 j hj => ?_, fun j hj => ?_⟩ ?_ (fun q hq => ?_)
      · rw [up2_ne _ _ _ (by omega), up2_ne _ _ _ (by omega), up2_ne _ _ _ (by omega), up2_ne _ _ _ (by omega), up2_ne _ _ _ (by omega)]; exact hF.1 c h1 h2
      · rw [up2_ne _ _ _ (by omega), up2_ne _ _ _ (by omega), up2_ne _ _ _ (by omega), up2_ne _ _ _ (by omega), up2_ne _ _ _ (by omega)]; exact hF.2.1 h1
      · rw [up2_ne _ _ _ (by omega), up2_ne _ _ _ (by omega), up2_ne _ _ _ (by omega), up2_ne _ _ _ (by omega), up2_ne _ _ _ (by omega)]; exact hF.2.2.1 j hj
      · have e : ¬ j = 9 + i := by omega
        simp only [up2_app, e, and_false, if_false]
        exact hF.2.2.2.1 c h1 h2 j hj
      · rw [up2_ne _ _ _ (by omega), up2_ne _ _ _ (by omega), up2_ne _ _ _ (by omega), up2_ne _ _ _ (by omega), up2_ne _ _ _ (by omega)]; exact hF.2.2.2.2 j hj
      · rw [up2_ne _ _ _ (by omega), up2_ne _ _ _ (by omega), up2_ne _ _ _ (by omega), up2_ne _ _ _ (by omega), up2_ne _ _ _ (by omega)]; exact f94
      · by_cases hqi : q = i
        · subst hqi
          unfold mM rst
          dsimp only [mp, mw, mr, mm, mn, mb]
          simp [up2_app]
        · have e : ¬ 9 + q = 9 + i := by omega
          obtain ⟨z1, z2, z3, z4, z5, z6⟩ := v1 q (by omega)
          unfold mM
          simp only [up2_app, e, and_false, if_false]
          exact ⟨z1, z2, z3, z4, z5, fun j hj => absurd hj (Nat.not_lt_zero j)⟩
  exact loop 9 0 I (by omega) sF.rfl rfl (fun q hq => absurd hq (Nat.not_lt_zero q))
theorem c_isTooMany {d p : Nat} {I : Nat → Nat → Int32} {J : Nat → Nat → Int64} {Q : tkQ} (h : I 94 1 = nI p) (hp : p < 2 ^ 20) (k : Q (some (.int (nI (if 100001 < p then 1 else 0)))) (I, J)) : tkM tkT (d + 1) 163 [.ref 13] (I, J) Q := by
  refine tkM_at (by decide) ta_163 (Or.inr ⟨_, _, rfl, rfl⟩) (Nat.le_of_ble_eq_true rfl) ?_
  show tkR (0, fun _ => 0) (tkM tkT d) tkm_163 _ 0 [.ref 13] [] _
  refine tkR.run 0 rfl ?_
  simp (disch := omega) only [te_nil, te_iconst, te_ldc2, te_iload_0, te_aload_0, te_lload_0, te_istore_0, te_astore_0, te_lstore_0, te_iinc_0, te_iload_1, te_aload_1, te_lload_1, te_istore_1, te_astore_1, te_lstore_1, te_iinc_1, te_iload_2, te_aload_2, te_lload_2, te_istore_2, te_astore_2, te_lstore_2, te_iinc_2, te_iload_3, te_aload_3, te_lload_3, te_istore_3, te_astore_3, te_lstore_3, te_iinc_3, te_iload_4, te_aload_4, te_lload_4, te_istore_4, te_astore_4, te_lstore_4, te_iinc_4, te_iload_5, te_aload_5, te_lload_5, te_istore_5, te_astore_5, te_lstore_5, te_iinc_5, te_iload_6, te_aload_6, te_lload_6, te_istore_6, te_astore_6, te_lstore_6, te_iinc_6, te_iload_7, te_aload_7, te_lload_7, te_istore_7, te_astore_7, te_lstore_7, te_iinc_7, te_iload_8, te_aload_8, te_lload_8, te_istore_8, te_astore_8, te_lstore_8, te_iinc_8, te_iload_9, te_aload_9, te_lload_9, te_istore_9, te_astore_9, te_lstore_9, te_iinc_9, te_iload_10, te_aload_10, te_lload_10, te_istore_10, te_astore_10, te_lstore_10, te_iinc_10, te_iadd, te_isub, te_imul, te_iand, te_ior, te_ixor, te_ishl, te_ishr, te_iushr, te_idiv, te_irem, te_ladd, te_lmul, te_land, te_lor, te_lshl, te_lushr, te_lcmp, te_i2l, te_getfield, te_getref, te_putfield, te_putbool, te_iaload, te_baload, te_laload, te_aaload, te_caload, te_castore, te_iastore, te_bastore, te_lastore, te_arraylength, te_icmp_eq, te_if_eq, te_icmp_ne, te_if_ne, te_icmp_lt, te_if_lt, te_icmp_ge, te_if_ge, te_icmp_gt, te_if_gt, te_icmp_le, te_if_le, te_goto, te_tsw, te_call_0, te_call_1, te_call_2, te_call_3, te_call_4, te_call_5, te_call_6, te_call_7, te_ireturn, te_dreturn, te_lreturn, te_areturn, te_return, te_dup_i, te_dup_a, te_dup2, te_pop_i, tk_kl_int, tk_kl_ref, tk_kl_null0, tk_kl_long, stW_int, stW_ref, stW_long, stW_nil, Int.toNat_natCast, Int.reduceToNat, or_true, true_or, or_self, and_self, Nat.reduceDiv, Nat.reduceMod, Option.toList_some, Option.toList_none, List.cons_append, List.nil_append, true_and, and_true, not_true_eq_false, not_false_eq_true, true_implies, forall_const, implies_true, ci_pos, ci_neg, Nat.reduceLeDiff, Nat.reduceAdd, Nat.zero_le, Nat.le_refl, sh_0, sh_1, sh_2, sh_3, sh_4, sh_5, sh_6, sh_7, sh_8, sh_9, sh_10, sh_11, sh_12, sh_13, sh_14, sh_15, sh_16, sh_17, sh_18, sh_19, sh_20, sh_21, sh_22, sh_23, sh_24, sh_25, sh_26, sh_27, sh_28, sh_29, sh_30, sh_31, sh_32, sh_33, sh_34, sh_35, sh_36, sh_37, sh_38, sh_39, sh_40, sh_41, sh_42, sh_43, sh_44, sh_45, sh_46, sh_47, sh_48, sh_49, sh_50, sh_51, sh_52, sh_53, sh_54, sh_55, sh_56, sh_57, sh_58, sh_59, sh_60, sh_61, sh_62, sh_63, sh_64, sh_65, sh_66, sh_67, sh_68, sh_69, sh_70, sh_71, sh_72, sh_73, sh_74, sh_75, sh_76, sh_77, sh_78, sh_79, sh_80, sh_81, sh_82, sh_83, sh_84, sh_85, sh_86, sh_87, sh_88, sh_89, sh_90, sh_91, sh_92, sh_93, sh_94, sh_95, sh_96, sh_97, sh_98, sh_99, sh_100, sh_101, sh_102, sh_103, sh_104, sh_105, sh_106, sh_107, sh_108, sh_109, sh_110, sh_111, sh_112, sh_113, sh_114, sh_115, sh_116, sh_117, sh_118, sh_119, sh_120, sh_121, sh_122, sh_123, sh_124, sh_125, sh_126, sh_127, rf_0_0, rf_0_1, rf_0_2, rf_0_3, rf_0_4, rf_0_5, rf_0_6, rf_0_7, rf_0_8, rf_0_9, rf_1_3, rf_1_4, rf_1_9, rf_1_10, rf_1_11, rf_2_3, rf_2_4, rf_2_9, rf_2_10, rf_2_11, rf_3_0, rf_4_0, rf_5_0, rf_5_1, rf_6_0, rf_6_1, rf_6_2, rf_6_3, rf_7_0, rf_7_1, rf_7_2, rf_7_3, rf_7_4, rf_7_5, rf_8_0, rf_8_1, rf_8_2, rf_8_3, rf_9_0, rf_9_1, rf_9_2, rf_10_0, rf_10_2, rf_10_3, rf_10_4, rf_10_5, rf_10_6, rf_10_7, rf_11_0, rf_11_1, rf_12_0, rf_13_1, rf_13_2, rf_13_3, rf_13_4, rf_13_5, rf_13_10, rf_13_11, rf_13_12, rf_13_13, rf_13_14, rf_13_15, rf_13_16, rf_13_17, rf_13_18, rf_13_20, rf_13_22, rf_13_23, rf_13_24, rf_13_26, rf_13_31, rf_13_32, rf_13_33, rf_13_34, rf_13_37, rf_13_38, rf_13_39, rf_13_40, rf_13_41, rf_13_42, rf_13_43, rf_13_44, rf_13_45, rf_13_47, rf_13_48, rf_13_49, rf_13_50, rf_13_51, rf_13_52, rf_13_53, rf_13_54, rf_13_57, rf_24_9, rf_26_9, rf_28_9, rf_30_9, rf_32_9, rf_34_9, rf_36_9, rf_38_9, rf_40_9, rf_46_9, rf_48_9, rf_50_9, rf_52_9, rf_54_9, rf_56_9, rf_58_9, rf_60_9, rf_62_9, false_implies, Nat.reduceLT, Nat.lt_irrefl, nI_eq', nI_le', nI_lt', nI_add, nI_sub, nI_clamp, vp_in_eq, nI_mI, mI_nI, mI_eq, nI_lt_mI, mI_lt_nI, pk_mul, pk_div, ire_n, nI_m1, b_0, b_1, up2_app, na1, na2, Nat.reduceAdd, Nat.reduceSub, Nat.reduceMul, Nat.reduceDiv, Nat.reduceMod, Nat.reduceLeDiff, Nat.reduceEqDiff, not_true_eq_false, not_false_eq_true, true_and, and_true, false_and, and_false, or_true, true_or, or_false, false_or, if_true, if_false, ite_true, ite_false, reduceIte, h]
  refine ⟨fun h1 => ?_, fun h1 => ?_⟩
  · refine tkR.run 1 rfl ?_
    simp (disch := omega) only [te_nil, te_iconst, te_ldc2, te_iload_0, te_aload_0, te_lload_0, te_istore_0, te_astore_0, te_lstore_0, te_iinc_0, te_iload_1, te_aload_1, te_lload_1, te_istore_1, te_astore_1, te_lstore_1, te_iinc_1, te_iload_2, te_aload_2, te_lload_2, te_istore_2, te_astore_2, te_lstore_2, te_iinc_2, te_iload_3, te_aload_3, te_lload_3, te_istore_3, te_astore_3, te_lstore_3, te_iinc_3, te_iload_4, te_aload_4, te_lload_4, te_istore_4, te_astore_4, te_lstore_4, te_iinc_4, te_iload_5, te_aload_5, te_lload_5, te_istore_5, te_astore_5, te_lstore_5, te_iinc_5, te_iload_6, te_aload_6, te_lload_6, te_istore_6, te_astore_6, te_lstore_6, te_iinc_6, te_iload_7, te_aload_7, te_lload_7, te_istore_7, te_astore_7, te_lstore_7, te_iinc_7, te_iload_8, te_aload_8, te_lload_8, te_istore_8, te_astore_8, te_lstore_8, te_iinc_8, te_iload_9, te_aload_9, te_lload_9, te_istore_9, te_astore_9, te_lstore_9, te_iinc_9, te_iload_10, te_aload_10, te_lload_10, te_istore_10, te_astore_10, te_lstore_10, te_iinc_10, te_iadd, te_isub, te_imul, te_iand, te_ior, te_ixor, te_ishl, te_ishr, te_iushr, te_idiv, te_irem, te_ladd, te_lmul, te_land, te_lor, te_lshl, te_lushr, te_lcmp, te_i2l, te_getfield, te_getref, te_putfield, te_putbool, te_iaload, te_baload, te_laload, te_aaload, te_caload, te_castore, te_iastore, te_bastore, te_lastore, te_arraylength, te_icmp_eq, te_if_eq, te_icmp_ne, te_if_ne, te_icmp_lt, te_if_lt, te_icmp_ge, te_if_ge, te_icmp_gt, te_if_gt, te_icmp_le, te_if_le, te_goto, te_tsw, te_call_0, te_call_1, te_call_2, te_call_3, te_call_4, te_call_5, te_call_6, te_call_7, te_ireturn, te_dreturn, te_lreturn, te_areturn, te_return, te_dup_i, te_dup_a, te_dup2, te_pop_i, tk_kl_int, tk_kl_ref, tk_kl_null0, tk_kl_long, stW_int, stW_ref, stW_long, stW_nil, Int.toNat_natCast, Int.reduceToNat, or_true, true_or, or_self, and_self, Nat.reduceDiv, Nat.reduceMod, Option.toList_some, Option.toList_none, List.cons_append, List.nil_append, true_and, and_true, not_true_eq_false, not_false_eq_true, true_implies, forall_const, implies_true, ci_pos, ci_neg, Nat.reduceLeDiff, Nat.reduceAdd, Nat.zero_le, Nat.le_refl, sh_0, sh_1, sh_2, sh_3, sh_4, sh_5, sh_6, sh_7, sh_8, sh_9, sh_10, sh_11, sh_12, sh_13, sh_14, sh_15, sh_16, sh_17, sh_18, sh_19, sh_20, sh_21, sh_22, sh_23, sh_24, sh_25, sh_26, sh_27, sh_28, sh_29, sh_30, sh_31, sh_32, sh_33, sh_34, sh_35, sh_36, sh_37, sh_38, sh_39, sh_40, sh_41, sh_42, sh_43, sh_44, sh_45, sh_46, sh_47, sh_48, sh_49, sh_50, sh_51, sh_52, sh_53, sh_54, sh_55, sh_56, sh_57, sh_58, sh_59, sh_60, sh_61, sh_62, sh_63, sh_64, sh_65, sh_66, sh_67, sh_68, sh_69, sh_70, sh_71, sh_72, sh_73, sh_74, sh_75, sh_76, sh_77, sh_78, sh_79, sh_80, sh_81, sh_82, sh_83, sh_84, sh_85, sh_86, sh_87, sh_88, sh_89, sh_90, sh_91, sh_92, sh_93, sh_94, sh_95, sh_96, sh_97, sh_98, sh_99, sh_100, sh_101, sh_102, sh_103, sh_104, sh_105, sh_106, sh_107, sh_108, sh_109, sh_110, sh_111, sh_112, sh_113, sh_114, sh_115, sh_116, sh_117, sh_118, sh_119, sh_120, sh_121, sh_122, sh_123, sh_124, sh_125, sh_126, sh_127, rf_0_0, rf_0_1, rf_0_2, rf_0_3, rf_0_4, rf_0_5, rf_0_6, rf_0_7, rf_0_8, rf_0_9, rf_1_3, rf_1_4, rf_1_9, rf_1_10, rf_1_11, rf_2_3, rf_2_4, rf_2_9, rf_2_10, rf_2_11, rf_3_0, rf_4_0, rf_5_0, rf_5_1, rf_6_0, rf_6_1, rf_6_2, rf_6_3, rf_7_0, rf_7_1, rf_7_2, rf_7_3, rf_7_4, rf_7_5, rf_8_0, rf_8_1, rf_8_2, rf_8_3, rf_9_0, rf_9_1, rf_9_2, rf_10_0, rf_10_2, rf_10_3, rf_10_4, rf_10_5, rf_10_6, rf_10_7, rf_11_0, rf_11_1, rf_12_0, rf_13_1, rf_13_2, rf_13_3, rf_13_4, rf_13_5, rf_13_10, rf_13_11, rf_13_12, rf_13_13, rf_13_14, rf_13_15, rf_13_16, rf_13_17, rf_13_18, rf_13_20, rf_13_22, rf_13_23, rf_13_24, rf_13_26, rf_13_31, rf_13_32, rf_13_33, rf_13_34, rf_13_37, rf_13_38, rf_13_39, rf_13_40, rf_13_41, rf_13_42, rf_13_43, rf_13_44, rf_13_45, rf_13_47, rf_13_48, rf_13_49, rf_13_50, rf_13_51, rf_13_52, rf_13_53, rf_13_54, rf_13_57, rf_24_9, rf_26_9, rf_28_9, rf_30_9, rf_32_9, rf_34_9, rf_36_9, rf_38_9, rf_40_9, rf_46_9, rf_48_9, rf_50_9, rf_52_9, rf_54_9, rf_56_9, rf_58_9, rf_60_9, rf_62_9, false_implies, Nat.reduceLT, Nat.lt_irrefl, nI_eq', nI_le', nI_lt', nI_add, nI_sub, nI_clamp, vp_in_eq, nI_mI, mI_nI, mI_eq, nI_lt_mI, mI_lt_nI, pk_mul, pk_div, ire_n, nI_m1, b_0, b_1, up2_app, na1, na2, Nat.reduceAdd, Nat.reduceSub, Nat.reduceMul, Nat.reduceDiv, Nat.reduceMod, Nat.reduceLeDiff, Nat.reduceEqDiff, not_true_eq_false, not_false_eq_true, true_and, and_true, false_and, and_false, or_true, true_or, or_false, false_or, if_true, if_false, ite_true, ite_false, reduceIte]
    refine tkR.run 2 rfl ?_
    simp (disch := omega) only [te_nil, te_iconst, te_ldc2, te_iload_0, te_aload_0, te_lload_0, te_istore_0, te_astore_0, te_lstore_0, te_iinc_0, te_iload_1, te_aload_1, te_lload_1, te_istore_1, te_astore_1, te_lstore_1, te_iinc_1, te_iload_2, te_aload_2, te_lload_2, te_istore_2, te_astore_2, te_lstore_2, te_iinc_2, te_iload_3, te_aload_3, te_lload_3, te_istore_3, te_astore_3, te_lstore_3, te_iinc_3, te_iload_4, te_aload_4, te_lload_4, te_istore_4, te_astore_4, te_lstore_4, te_iinc_4, te_iload_5, te_aload_5, te_lload_5, te_istore_5, te_astore_5, te_lstore_5, te_iinc_5, te_iload_6, te_aload_6, te_lload_6, te_istore_6, te_astore_6, te_lstore_6, te_iinc_6, te_iload_7, te_aload_7, te_lload_7, te_istore_7, te_astore_7, te_lstore_7, te_iinc_7, te_iload_8, te_aload_8, te_lload_8, te_istore_8, te_astore_8, te_lstore_8, te_iinc_8, te_iload_9, te_aload_9, te_lload_9, te_istore_9, te_astore_9, te_lstore_9, te_iinc_9, te_iload_10, te_aload_10, te_lload_10, te_istore_10, te_astore_10, te_lstore_10, te_iinc_10, te_iadd, te_isub, te_imul, te_iand, te_ior, te_ixor, te_ishl, te_ishr, te_iushr, te_idiv, te_irem, te_ladd, te_lmul, te_land, te_lor, te_lshl, te_lushr, te_lcmp, te_i2l, te_getfield, te_getref, te_putfield, te_putbool, te_iaload, te_baload, te_laload, te_aaload, te_caload, te_castore, te_iastore, te_bastore, te_lastore, te_arraylength, te_icmp_eq, te_if_eq, te_icmp_ne, te_if_ne, te_icmp_lt, te_if_lt, te_icmp_ge, te_if_ge, te_icmp_gt, te_if_gt, te_icmp_le, te_if_le, te_goto, te_tsw, te_call_0, te_call_1, te_call_2, te_call_3, te_call_4, te_call_5, te_call_6, te_call_7, te_ireturn, te_dreturn, te_lreturn, te_areturn, te_return, te_dup_i, te_dup_a, te_dup2, te_pop_i, tk_kl_int, tk_kl_ref, tk_kl_null0, tk_kl_long, stW_int, stW_ref, stW_long, stW_nil, Int.toNat_natCast, Int.reduceToNat, or_true, true_or, or_self, and_self, Nat.reduceDiv, Nat.reduceMod, Option.toList_some, Option.toList_none, List.cons_append, List.nil_append, true_and, and_true, not_true_eq_false, not_false_eq_true, true_implies, forall_const, implies_true, ci_pos, ci_neg, Nat.reduceLeDiff, Nat.reduceAdd, Nat.zero_le, Nat.le_refl, sh_0, sh_1, sh_2, sh_3, sh_4, sh_5, sh_6, sh_7, sh_8, sh_9, sh_10, sh_11, sh_12, sh_13, sh_14, sh_15, sh_16, sh_17, sh_18, sh_19, sh_20, sh_21, sh_22, sh_23, sh_24, sh_25, sh_26, sh_27, sh_28, sh_29, sh_30, sh_31, sh_32, sh_33, sh_34, sh_35, sh_36, sh_37, sh_38, sh_39, sh_40, sh_41, sh_42, sh_43, sh_44, sh_45, sh_46, sh_47, sh_48, sh_49, sh_50, sh_51, sh_52, sh_53, sh_54, sh_55, sh_56, sh_57, sh_58, sh_59, sh_60, sh_61, sh_62, sh_63, sh_64, sh_65, sh_66, sh_67, sh_68, sh_69, sh_70, sh_71, sh_72, sh_73, sh_74, sh_75, sh_76, sh_77, sh_78, sh_79, sh_80, sh_81, sh_82, sh_83, sh_84, sh_85, sh_86, sh_87, sh_88, sh_89, sh_90, sh_91, sh_92, sh_93, sh_94, sh_95, sh_96, sh_97, sh_98, sh_99, sh_100, sh_101, sh_102, sh_103, sh_104, sh_105, sh_106, sh_107, sh_108, sh_109, sh_110, sh_111, sh_112, sh_113, sh_114, sh_115, sh_116, sh_117, sh_118, sh_119, sh_120, sh_121, sh_122, sh_123, sh_124, sh_125, sh_126, sh_127, rf_0_0, rf_0_1, rf_0_2, rf_0_3, rf_0_4, rf_0_5, rf_0_6, rf_0_7, rf_0_8, rf_0_9, rf_1_3, rf_1_4, rf_1_9, rf_1_10, rf_1_11, rf_2_3, rf_2_4, rf_2_9, rf_2_10, rf_2_11, rf_3_0, rf_4_0, rf_5_0, rf_5_1, rf_6_0, rf_6_1, rf_6_2, rf_6_3, rf_7_0, rf_7_1, rf_7_2, rf_7_3, rf_7_4, rf_7_5, rf_8_0, rf_8_1, rf_8_2, rf_8_3, rf_9_0, rf_9_1, rf_9_2, rf_10_0, rf_10_2, rf_10_3, rf_10_4, rf_10_5, rf_10_6, rf_10_7, rf_11_0, rf_11_1, rf_12_0, rf_13_1, rf_13_2, rf_13_3, rf_13_4, rf_13_5, rf_13_10, rf_13_11, rf_13_12, rf_13_13, rf_13_14, rf_13_15, rf_13_16, rf_13_17, rf_13_18, rf_13_20, rf_13_22, rf_13_23, rf_13_24, rf_13_26, rf_13_31, rf_13_32, rf_13_33, rf_13_34, rf_13_37, rf_13_38, rf_13_39, rf_13_40, rf_13_41, rf_13_42, rf_13_43, rf_13_44, rf_13_45, rf_13_47, rf_13_48, rf_13_49, rf_13_50, rf_13_51, rf_13_52, rf_13_53, rf_13_54, rf_13_57, rf_24_9, rf_26_9, rf_28_9, rf_30_9, rf_32_9, rf_34_9, rf_36_9, rf_38_9, rf_40_9, rf_46_9, rf_48_9, rf_50_9, rf_52_9, rf_54_9, rf_56_9, rf_58_9, rf_60_9, rf_62_9, false_implies, Nat.reduceLT, Nat.lt_irrefl, nI_eq', nI_le', nI_lt', nI_add, nI_sub, nI_clamp, vp_in_eq, nI_mI, mI_nI, mI_eq, nI_lt_mI, mI_lt_nI, pk_mul, pk_div, ire_n, nI_m1, b_0, b_1, up2_app, na1, na2, Nat.reduceAdd, Nat.reduceSub, Nat.reduceMul, Nat.reduceDiv, Nat.reduceMod, Nat.reduceLeDiff, Nat.reduceEqDiff, not_true_eq_false, not_false_eq_true, true_and, and_true, false_and, and_false, or_true, true_or, or_false, false_or, if_true, if_false, ite_true, ite_false, reduceIte]
    rw [if_neg (by omega)] at k
    exact k
  · refine tkR.run 2 rfl ?_
    simp (disch := omega) only [te_nil, te_iconst, te_ldc2, te_iload_0, te_aload_0, te_lload_0, te_istore_0, te_astore_0, te_lstore_0, te_iinc_0, te_iload_1, te_aload_1, te_lload_1, te_istore_1, te_astore_1, te_lstore_1, te_iinc_1, te_iload_2, te_aload_2, te_lload_2, te_istore_2, te_astore_2, te_lstore_2, te_iinc_2, te_iload_3, te_aload_3, te_lload_3, te_istore_3, te_astore_3, te_lstore_3, te_iinc_3, te_iload_4, te_aload_4, te_lload_4, te_istore_4, te_astore_4, te_lstore_4, te_iinc_4, te_iload_5, te_aload_5, te_lload_5, te_istore_5, te_astore_5, te_lstore_5, te_iinc_5, te_iload_6, te_aload_6, te_lload_6, te_istore_6, te_astore_6, te_lstore_6, te_iinc_6, te_iload_7, te_aload_7, te_lload_7, te_istore_7, te_astore_7, te_lstore_7, te_iinc_7, te_iload_8, te_aload_8, te_lload_8, te_istore_8, te_astore_8, te_lstore_8, te_iinc_8, te_iload_9, te_aload_9, te_lload_9, te_istore_9, te_astore_9, te_lstore_9, te_iinc_9, te_iload_10, te_aload_10, te_lload_10, te_istore_10, te_astore_10, te_lstore_10, te_iinc_10, te_iadd, te_isub, te_imul, te_iand, te_ior, te_ixor, te_ishl, te_ishr, te_iushr, te_idiv, te_irem, te_ladd, te_lmul, te_land, te_lor, te_lshl, te_lushr, te_lcmp, te_i2l, te_getfield, te_getref, te_putfield, te_putbool, te_iaload, te_baload, te_laload, te_aaload, te_caload, te_castore, te_iastore, te_bastore, te_lastore, te_arraylength, te_icmp_eq, te_if_eq, te_icmp_ne, te_if_ne, te_icmp_lt, te_if_lt, te_icmp_ge, te_if_ge, te_icmp_gt, te_if_gt, te_icmp_le, te_if_le, te_goto, te_tsw, te_call_0, te_call_1, te_call_2, te_call_3, te_call_4, te_call_5, te_call_6, te_call_7, te_ireturn, te_dreturn, te_lreturn, te_areturn, te_return, te_dup_i, te_dup_a, te_dup2, te_pop_i, tk_kl_int, tk_kl_ref, tk_kl_null0, tk_kl_long, stW_int, stW_ref, stW_long, stW_nil, Int.toNat_natCast, Int.reduceToNat, or_true, true_or, or_self, and_self, Nat.reduceDiv, Nat.reduceMod, Option.toList_some, Option.toList_none, List.cons_append, List.nil_append, true_and, and_true, not_true_eq_false, not_false_eq_true, true_implies, forall_const, implies_true, ci_pos, ci_neg, Nat.reduceLeDiff, Nat.reduceAdd, Nat.zero_le, Nat.le_refl, sh_0, sh_1, sh_2, sh_3, sh_4, sh_5, sh_6, sh_7, sh_8, sh_9, sh_10, sh_11, sh_12, sh_13, sh_14, sh_15, sh_16, sh_17, sh_18, sh_19, sh_20, sh_21, sh_22, sh_23, sh_24, sh_25, sh_26, sh_27, sh_28, sh_29, sh_30, sh_31, sh_32, sh_33, sh_34, sh_35, sh_36, sh_37, sh_38, sh_39, sh_40, sh_41, sh_42, sh_43, sh_44, sh_45, sh_46, sh_47, sh_48, sh_49, sh_50, sh_51, sh_52, sh_53, sh_54, sh_55, sh_56, sh_57, sh_58, sh_59, sh_60, sh_61, sh_62, sh_63, sh_64, sh_65, sh_66, sh_67, sh_68, sh_69, sh_70, sh_71, sh_72, sh_73, sh_74, sh_75, sh_76, sh_77, sh_78, sh_79, sh_80, sh_81, sh_82, sh_83, sh_84, sh_85, sh_86, sh_87, sh_88, sh_89, sh_90, sh_91, sh_92, sh_93, sh_94, sh_95, sh_96, sh_97, sh_98, sh_99, sh_100, sh_101, sh_102, sh_103, sh_104, sh_105, sh_106, sh_107, sh_108, sh_109, sh_110, sh_111, sh_112, sh_113, sh_114, sh_115, sh_116, sh_117, sh_118, sh_119, sh_120, sh_121, sh_122, sh_123, sh_124, sh_125, sh_126, sh_127, rf_0_0, rf_0_1, rf_0_2, rf_0_3, rf_0_4, rf_0_5, rf_0_6, rf_0_7, rf_0_8, rf_0_9, rf_1_3, rf_1_4, rf_1_9, rf_1_10, rf_1_11, rf_2_3, rf_2_4, rf_2_9, rf_2_10, rf_2_11, rf_3_0, rf_4_0, rf_5_0, rf_5_1, rf_6_0, rf_6_1, rf_6_2, rf_6_3, rf_7_0, rf_7_1, rf_7_2, rf_7_3, rf_7_4, rf_7_5, rf_8_0, rf_8_1, rf_8_2, rf_8_3, rf_9_0, rf_9_1, rf_9_2, rf_10_0, rf_10_2, rf_10_3, rf_10_4, rf_10_5, rf_10_6, rf_10_7, rf_11_0, rf_11_1, rf_12_0, rf_13_1, rf_13_2, rf_13_3, rf_13_4, rf_13_5, rf_13_10, rf_13_11, rf_13_12, rf_13_13, rf_13_14, rf_13_15, rf_13_16, rf_13_17, rf_13_18, rf_13_20, rf_13_22, rf_13_23, rf_13_24, rf_13_26, rf_13_31, rf_13_32, rf_13_33, rf_13_34, rf_13_37, rf_13_38, rf_13_39, rf_13_40, rf_13_41, rf_13_42, rf_13_43, rf_13_44, rf_13_45, rf_13_47, rf_13_48, rf_13_49, rf_13_50, rf_13_51, rf_13_52, rf_13_53, rf_13_54, rf_13_57, rf_24_9, rf_26_9, rf_28_9, rf_30_9, rf_32_9, rf_34_9, rf_36_9, rf_38_9, rf_40_9, rf_46_9, rf_48_9, rf_50_9, rf_52_9, rf_54_9, rf_56_9, rf_58_9, rf_60_9, rf_62_9, false_implies, Nat.reduceLT, Nat.lt_irrefl, nI_eq', nI_le', nI_lt', nI_add, nI_sub, nI_clamp, vp_in_eq, nI_mI, mI_nI, mI_eq, nI_lt_mI, mI_lt_nI, pk_mul, pk_div, ire_n, nI_m1, b_0, b_1, up2_app, na1, na2, Nat.reduceAdd, Nat.reduceSub, Nat.reduceMul, Nat.reduceDiv, Nat.reduceMod, Nat.reduceLeDiff, Nat.reduceEqDiff, not_true_eq_false, not_false_eq_true, true_and, and_true, false_and, and_false, or_true, true_or, or_false, false_or, if_true, if_false, ite_true, ite_false, reduceIte]
    rw [if_pos (by omega)] at k
    exact k
/-- machines that aren't there yet stay -/
def rs (n : Nat) (L L' : ln) : Prop := ∀ k, n ≤ k → k < 8 → L'.2 k = L.2 k
theorem rs_lgv {n : Nat} {g : Nat → Bool} {S : Nat → Nat → Bool} {kd t : Nat} {L : ln} : rs n L (lgv n g S kd t L) := by
  intro k h1 h2
  unfold lgv
  dsimp only
  rw [if_neg (by omega), if_neg (by omega)]
theorem rs.trans {n : Nat} {L L' L'' : ln} (h : rs n L L') (h' : rs n L' L'') : rs n L L'' := fun k h1 h2 => (h' k h1 h2).trans (h k h1 h2)
theorem rs_lgo {n : Nat} {g : Nat → Bool} {S : Nat → Nat → Bool} {sg : Nat} {L : ln} : rs n L (lgo n g S sg L) := by
  unfold lgo
  split
  · exact rs_lgv.trans rs_lgv
  · exact rs_lgv
theorem rs_lcar {n : Nat} {g : Nat → Bool} {S : Nat → Nat → Bool} {sg : Nat} {L : ln} : rs n L (lcar n g S sg L) := by
  have hA : rs n L (lcA n g S sg L) := by
    unfold lcA
    split
    · exact fun _ _ _ => rfl
    · exact rs_lgo
  unfold lcar
  split
  · exact ((hA.trans rs_lgv).trans rs_lgo).trans rs_lgv
  · exact hA.trans rs_lgv
theorem rs_luni {n : Nat} {g : Nat → Bool} {S : Nat → Nat → Bool} {L : ln} : rs n L (luni n g S L) := rs_lgv.trans rs_lgv
theorem rs_lrow {n : Nat} {g : Nat → Bool} {S : Nat → Nat → Bool} {ev : Nat} {s : Nat → Nat} : ∀ (m i : Nat) (L : ln), rs n L (lrow n g S ev s i m L) := by
  intro m
  induction m with
  | zero => intro i L; exact fun _ _ _ => rfl
  | succ m ih =>
    intro i L
    unfold lrow
    refine rs.trans ?_ (ih (i + 1) _)
    split
    · exact rs_lcar.trans rs_luni
    · exact rs_lcar
/-- well formed, and signs alone on the ribbons -/
def mbx (L : ln) : Prop := ∀ k, k ≤ 8 → mwf (L.2 k) ∧ ∀ j, j < mn (L.2 k) → mb (L.2 k) j ≤ 54
theorem mbx_aps {kd t : Nat} {m : ms} (h : mwf m) (hb : ∀ j, j < mn m → mb m j ≤ 54) : ∀ j, j < mn (aps kd t m) → mb (aps kd t m) j ≤ 54 := by
  unfold aps
  split
  · unfold steps
    split
    · exact hb
    · split
      · exact hb
      · exact hb
  · split
    · exact hb
    · unfold ap
      split
      · unfold ap1
        dsimp only [mp, mw, mr, mm, mn, mb]
        by_cases q : mn m < 300
        · rw [if_pos q, if_pos q]
          intro j hj
          by_cases w : j = mn m
          · simp only [if_pos w]; exact sgn_le h.1
          · simp only [if_neg w]; exact hb j (by have hj : j < mn m + 1 := hj; omega)
        · rw [if_neg q, if_neg q]; exact hb
      · split
        · unfold ap2
          split
          · exact hb
          · exact hb
        · unfold ap0
          split
          · exact hb
          · split
            · exact hb
            · exact hb
theorem mbx_lgv {n : Nat} {g : Nat → Bool} {S : Nat → Nat → Bool} {kd t : Nat} {L : ln} (h : mbx L) : mbx (lgv n g S kd t L) := by
  intro k hk
  obtain ⟨h1, h2⟩ := h k hk
  obtain ⟨g1, g2⟩ := h 8 (by decide)
  unfold lgv
  dsimp only
  split
  · exact ⟨mwf_aps g1, mbx_aps g1 g2⟩
  · split
    · exact ⟨mwf_miss (mwf_aps h1), mbx_aps h1 h2⟩
    · exact ⟨h1, h2⟩
theorem mbx_lgo {n : Nat} {g : Nat → Bool} {S : Nat → Nat → Bool} {sg : Nat} {L : ln} (h : mbx L) : mbx (lgo n g S sg L) := by
  unfold lgo
  split
  · exact mbx_lgv (mbx_lgv h)
  · exact mbx_lgv h
theorem mbx_lcar {n : Nat} {g : Nat → Bool} {S : Nat → Nat → Bool} {sg : Nat} {L : ln} (h : mbx L) : mbx (lcar n g S sg L) := by
  have hA : mbx (lcA n g S sg L) := by
    unfold lcA
    split
    · exact h
    · exact mbx_lgo h
  unfold lcar
  split
  · exact mbx_lgv (mbx_lgo (mbx_lgv hA))
  · exact mbx_lgv hA
theorem mbx_luni {n : Nat} {g : Nat → Bool} {S : Nat → Nat → Bool} {L : ln} (h : mbx L) : mbx (luni n g S L) := mbx_lgv (mbx_lgv h)
theorem mbx_lrow {n : Nat} {g : Nat → Bool} {S : Nat → Nat → Bool} {ev : Nat} {s : Nat → Nat} : ∀ (m i : Nat) (L : ln), mbx L → mbx (lrow n g S ev s i m L) := by
  intro m
  induction m with
  | zero => intro i L h; exact h
  | succ m ih =>
    intro i L h
    unfold lrow
    refine ih (i + 1) _ ?_
    split
    · exact mbx_luni (mbx_lcar h)
    · exact mbx_lcar h
