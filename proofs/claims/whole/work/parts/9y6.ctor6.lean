/-! constructors: the line -/
theorem pm2 (x y : Nat × va_E) (W : va_W) : (x :: y :: W).Perm (x :: (W ++ [y])) := ((List.perm_append_singleton y W).symm).cons x
theorem pm3 (x y z : Nat × va_E) (W nw : va_W) : (x :: y :: (W ++ z :: nw)).Perm (z :: x :: y :: (W ++ nw)) := List.perm_middle (l₁ := x :: y :: W)
section CG6
variable {p : Program} {l : Launch} {e : Env} {R : Room} {s : State} {m : MethodId} {args : Array Value} {below : List Frame} {meth : Method} {c : Code} {H H0 : Heap} {locs : List Loc} {cells slots : Nat} {Q : State → Prop} {cc : ByteArray} {nL ci : Nat} {D : va_G} {cy : Nat → ClassId} {A : Nat → Prop} {pc h0 : Nat} {ls : Array Slot} {fs : List Value} {W1 : va_W}
theorem cg_refarr {n idx idx2 : Nat} {fty : FieldType} {v : Int} {d : Instr × Nat} {lv : List (Nat × Value)} (Y : tkY p s m args meth c cc nL ci D cy) (hlv : lv_has ls nL ((0, .ref h0) :: lv)) (hA : ∀ q, H0.size ≤ q → A q) (hd0 : decode cc pc = .ok (.aload_n 0, 1)) (hd1 : decode cc (pc + 1) = .ok d) (hr : tkRel ci nL (pc + 1) [] none false d (.iconst v) = true) (hda : decode cc (pc + 1 + d.2) = .ok (.anewarray idx2, 3)) (hcl : Cond.classLink (tkCn ci) idx2 "TickerHouse$Machine" ∈ tkWd) (hv8 : Int32.ofInt v = nI 8) (hce : cells + 1 ≤ R.cells) (hsl : slots + 8 ≤ R.slots)
    (hd2 : decode cc (pc + 1 + d.2 + 3) = .ok (.putfield idx, 3)) (hq : tkFl.any (fun q => decide (q.1 = ci) && decide (q.2.2.1 = n) && decide (q.2.1 = idx)) = true) (hn : n / 64 = ci) (hci : ci < 12) (hty : cgTy n fty = true) (hnar : ∀ q : Nat, narrow fty (.ref q) = .ref q) (hfit : ∀ q : Nat, fits fty (.ref q) = true) (hl : n % 64 < fs.length) (hP : va_P D vwCl ((h0, .inr (ci, fs)) :: W1) H) (hD : va_D A ((h0, .inr (ci, fs)) :: W1)) (hS : va_S A H0 H locs)
    (kk : ∀ (q : Nat) (H1 : Heap) (locs1 : List Loc), va_P D vwCl ((h0, .inr (ci, fs.set (n % 64) (.ref q))) :: (q, .inl (cy 3, (8, .inr (.inr (.inr (.inr (fun _ => none))))))) :: W1) H1 → va_D A ((h0, .inr (ci, fs.set (n % 64) (.ref q))) :: (q, .inl (cy 3, (8, .inr (.inr (.inr (.inr (fun _ => none))))))) :: W1) → va_S A H0 H1 locs1 → W p l e R s m args below meth c H1 locs1 (cells + 1) (slots + 8) Q (F0 m (pc + 1 + d.2 + 3 + 3) ls [])) : W p l e R s m args below meth c H locs cells slots Q (F0 m pc ls []) := by
  obtain ⟨hx, hb, hml, hown, hts, hK, hin, hnw⟩ := id Y
  refine lv_aload_n hx hb hd0 rfl (lv_at hlv 0 rfl) ?_
  refine cg_push Y hd1 hr ?_
  refine va_newq hx hb hown (hts _ hcl) hnw.2 hK hP hD hS hA (by rw [hv8]; decide) (by rw [hv8]; exact nI_clamp (by decide)) (by decide) hce hsl hda (fun q cA H1 hK1 hP1 hD1 hS1 => ?_)
  obtain ⟨_, _, _, _, _, r1⟩ := (hK1.2 4 (cA, .object "TickerHouse$Machine") rfl).2
  obtain ⟨_, _, _, _, _, r2⟩ := (hK.2 3 (cy 3, .object "TickerHouse$Machine") rfl).2
  have e1 : cA = cy 3 := Option.some.inj (r1.symm.trans r2)
  subst e1
  exact cg_put Y hq hn hci hty (hnar q) (hfit q) hl hd2 (hP1.perm (pm2 _ _ _)) (hD1.perm (pm2 _ _ _)) hS1 (fun H2 locs2 hP2 hD2 hS2 => kk q H2 locs2 hP2 hD2 hS2)
set_option maxHeartbeats 1000000 in
set_option maxRecDepth 100000 in
theorem cg_mach {i qA : Nat} {f : Nat → Option Nat} (Y : tkY p s m args meth c prog_4_method_1_code 2 2 D cy) (hlv : lv_has ls 2 [(0, .ref h0), (1, .int (nI i))]) (hi : i < 8) (hA : ∀ q, H0.size ≤ q → A q) (hfs : fs[4]? = some (.ref qA)) (hce : cells + 1 + 1 ≤ R.cells) (hsl : slots + 11 + 300 ≤ R.slots) (hfr : 2 ≤ R.frames) (hlo : 60 ≤ R.locals) (hP : va_P D vwCl ((h0, .inr (2, fs)) :: (qA, .inl (cy 3, (8, .inr (.inr (.inr (.inr f)))))) :: W1) H) (hD : va_D A ((h0, .inr (2, fs)) :: (qA, .inl (cy 3, (8, .inr (.inr (.inr (.inr f)))))) :: W1)) (hS : va_S A H0 H locs)
    (kk : ∀ (q : Nat) (u : Nat → Nat) (H1 : Heap) (locs1 : List Loc) (ls1 : Array Slot), lv_has ls1 2 [(0, .ref h0), (1, .int (nI (i + 1)))] → va_P D vwCl ((h0, .inr (2, fs)) :: (qA, .inl (cy 3, (8, .inr (.inr (.inr (.inr (va_up f i (some q)))))))) :: (W1 ++ (q, .inr (3, fsX3 u)) :: nwX3 cy u)) H1 → va_D A ((h0, .inr (2, fs)) :: (qA, .inl (cy 3, (8, .inr (.inr (.inr (.inr (va_up f i (some q)))))))) :: (W1 ++ (q, .inr (3, fsX3 u)) :: nwX3 cy u)) → va_S A H0 H1 locs1 → W p l e R s m args below meth c H1 locs1 (cells + 1 + 1) (slots + 11 + 300) Q (F0 m 68 ls1 [])) : W p l e R s m args below meth c H locs cells slots Q (F0 m 68 ls []) := by
  obtain ⟨hx, hb, hml, hown, hts, hK, hin, hnw⟩ := id Y
  obtain ⟨v1, -, -, -⟩ := tkVw (ci := 2) rfl
  refine lv_iload_n hx hb (show decode prog_4_method_1_code 68 = .ok (.iload_n 1, 1) by decide +kernel) rfl (lv_at hlv 1 rfl) ?_
  refine cg_push (n := 8) (d := (.bipush 8, 2)) Y (by decide +kernel) (by decide +kernel) ?_
  refine lv_icmp_ge (tgt := 93) hx hb (show decode prog_4_method_1_code 71 = .ok (.if_icmp .ge 22, 3) by decide +kernel) (by decide) (fun z => absurd z (by show ¬ nI 8 ≤ nI i; simp (disch := omega) only [false_implies, Nat.reduceLT, Nat.lt_irrefl, nI_eq', nI_le', nI_lt', nI_add, nI_sub, nI_clamp, vp_in_eq, nI_mI, mI_nI, mI_eq, nI_lt_mI, mI_lt_nI, pk_mul, pk_div, ire_n, nI_m1, b_0, b_1, up2_app, na1, na2, Nat.reduceAdd, Nat.reduceSub, Nat.reduceMul, Nat.reduceDiv, Nat.reduceMod, Nat.reduceLeDiff, Nat.reduceEqDiff, not_true_eq_false, not_false_eq_true, true_and, and_true, false_and, and_false, or_true, true_or, or_false, false_or, if_true, if_false, ite_true, ite_false, reduceIte]; omega)) (fun _ => ?_)
  refine lv_aload_n hx hb (show decode prog_4_method_1_code 74 = .ok (.aload_n 0, 1) by decide +kernel) rfl (lv_at hlv 0 rfl) ?_
  refine va_get (own := tkCn 2) (v := .ref qA) hx hb hts (tkIn_wd v1) hown hK hP 0 rfl (ci := 2) rfl 4 (by decide) (hts (.fieldLink (tkCn 2) 28 RX2 (TX2 4).2.1 (TX2 4).2.2.1) (tkWd_in (i := 175) (by decide +kernel) rfl)) (fun _ h9 => h9) hfs (show decode prog_4_method_1_code 75 = .ok (.getfield 28, 3) by decide +kernel) ?_
  refine lv_iload_n hx hb (show decode prog_4_method_1_code 78 = .ok (.iload_n 1, 1) by decide +kernel) rfl (lv_at hlv 1 rfl) ?_
  refine W.eq (g2 := F0 m 79 ls [.int (nI i), .ref qA]) rfl ?_
  refine cg_new (cj := 3) (fs0 := f0X3) (ty := tyX3) (idx := 21) Y hA rfl tyX3_ok (tkWd_in (i := 113) (by decide +kernel) rfl) (tkWd_in (i := 114) (by decide +kernel) rfl) (tkWd_in (i := 85) (by decide +kernel) rfl) (by decide +kernel) (by omega) (by omega) (show decode prog_4_method_1_code 79 = .ok (.new 21, 3) by decide +kernel) (show decode prog_4_method_1_code 82 = .ok (.dup, 1) by decide +kernel) hP hD hS (fun q H1 hP hD hS => ?_)
  refine W.eq (g2 := F0 m 83 ls [.ref q, .ref q, .int (nI i), .ref qA]) rfl ?_
  refine cg_call (As := []) (nest := some "TickerHouse") (fsJ := fsX3) (nwJ := nwX3 cy) (idx := 23) Y (ct_3 l D cy q H1.size _) (List.mem_of_getElem? (i := 117) (by decide +kernel)) rfl rfl (tkWd_in (i := 85) (by decide +kernel) rfl) (tkNl_in (i := 115) (by decide +kernel)) (tkWd_in (i := 116) (by decide +kernel) rfl) rfl (by decide +kernel) ⟨by show 1 + 1 ≤ _; omega, by show 8 + (1 + 11) + 20 ≤ _; omega⟩ hlv.1 (Nat.le_of_ble_eq_true rfl) (show decode prog_4_method_1_code 83 = .ok (.invokespecial 23, 3) by decide +kernel) ⟨by omega, by omega⟩ hP hD hS hA (fun u H2 locs2 hP hD hS => ?_)
  refine W.eq (g2 := F0 m 86 ls [.ref q, .int (nI i), .ref qA]) rfl ?_
  refine va_astq hx hb hK hP hD hS 2 3 0 3 (r := (RX3, TX3, 11)) rfl rfl rfl rfl (by rw [vp_in_eq (by omega)]; exact hi) (show decode prog_4_method_1_code 86 = .ok (.aastore, 1) by decide +kernel) (fun H3 locs3 hP hD hS => ?_)
  rw [nI_clamp (by omega)] at hP hD
  have hP := hP.perm (pm3 (h0, .inr (2, fs)) (qA, .inl (cy 3, (8, .inr (.inr (.inr (.inr (va_up f i (some q)))))))) (q, .inr (3, fsX3 u)) W1 (nwX3 cy u))
  have hD := hD.perm (pm3 (h0, .inr (2, fs)) (qA, .inl (cy 3, (8, .inr (.inr (.inr (.inr (va_up f i (some q)))))))) (q, .inr (3, fsX3 u)) W1 (nwX3 cy u))
  obtain ⟨y, ey⟩ : ∃ y : Int32, y = nI i + 1 := ⟨_, rfl⟩
  refine lv_iinc (v := y) (lv' := [(1, .int y), (0, .ref h0)]) hx hb (show decode prog_4_method_1_code 87 = .ok (.iinc 1 1, 3) by decide +kernel) hlv (k := 1) rfl (by rw [ey]; rfl) (by decide) rfl (fun ls1 hl1 => ?_)
  refine lv_goto (tgt := 68) hx hb (show decode prog_4_method_1_code 90 = .ok (.goto (-22), 3) by decide +kernel) (by decide) ?_
  have ey2 : y = nI (i + 1) := by rw [ey]; exact nI_s i
  rw [ey2] at hl1
  exact kk q u H3 locs3 ls1 (lv_sub hl1 [1, 0] rfl) hP hD hS
end CG6
