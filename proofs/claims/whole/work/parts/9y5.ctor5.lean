/-! Arrays.fill in a constructor; the firms are made -/
theorem psng (x y : Nat × va_E) (W : va_W) : (x :: (W ++ [y])).Perm (y :: x :: W) := List.perm_append_singleton y (x :: W)
abbrev fiPc (D : va_G) (cy : Nat → ClassId) (a N sz : Nat) (v : Int32) (f : Nat → Int32) (ws : va_W) : Array Value → State → Prop := va_Pc [.ref a, .int v] (fun U => U.heap.size = sz ∧ va_P D vwCl ((a, .inl (cy 0, (N, .inl f))) :: ws) U.heap ∧ va_K D vwCl (tkTy cy) U ∧ va_D (fun _ => True) ((a, .inl (cy 0, (N, .inl f))) :: ws))
abbrev fiQc (D : va_G) (cy : Nat → ClassId) (a N sz : Nat) (v : Int32) (f : Nat → Int32) (ws : va_W) : Array Value → State → Outcome → State → Prop := va_Qv (fun _ : Unit => True) (fun _ t => va_P D vwCl ((a, .inl (cy 0, (N, .inl (fun j => if j < N then v else f j)))) :: ws) t.heap ∧ va_D (va_A ((a, .inl (cy 0, (N, .inl f))) :: ws) sz) ((a, .inl (cy 0, (N, .inl (fun j => if j < N then v else f j)))) :: ws)) (va_A ((a, .inl (cy 0, (N, .inl f))) :: ws) sz)
theorem fiPc_blind (D : va_G) (cy : Nat → ClassId) (a N sz : Nat) (v : Int32) (f : Nat → Int32) (ws : va_W) : FrameBlind (fiPc D cy a N sz v f ws) := by
  rintro b U g mk ⟨q0, q1, qP, qK, qD⟩
  exact ⟨q0, q1, qP, va_K.moved (u := U) (U := U.calling g mk b) (Vm.Alike.refl U.vm) qK, qD⟩
set_option maxHeartbeats 1000000 in
set_option maxRecDepth 100000 in
theorem ct_fill (l : Launch) (D : va_G) (cy : Nat → ClassId) (a N sz : Nat) (v : Int32) (f : Nat → Int32) (ws : va_W) (hN : N ≤ 100000) : Met l (⟨"java/util/Arrays", "fill", "([II)V"⟩ : MethodName) (.code (⟨"java/util/Arrays", "fill", "([II)V"⟩ : MethodName) prog_17_method_103_code 4 none :: tkWd) { frames := 0, cells := 0, slots := 0, locals := 0 } (fiPc D cy a N sz v f ws) (fiQc D cy a N sz v f ws) 0 0 (va_A ((a, .inl (cy 0, (N, .inl f))) :: ws) sz) := by
  refine Met.ofW (cc := prog_17_method_103_code) (maxL := 4) (ret := none) (by decide) rfl ?_
  intro p e s m args below meth c s₁ B hml hv
  obtain ⟨rfl, hsz, hP, hK, hD0⟩ := hv
  have hx := B.exec
  have hb := B.bytes
  have hr := B.returns
  subst hsz
  have hD := hD0.self (sz := s.heap.size)
  unfold fiQc
  generalize hAe : va_A ((a, .inl (cy 0, (N, .inl f))) :: ws) s.heap.size = A at hD ⊢
  have hS : va_S A s.heap s.heap [] := va_S.rf
  have hl := lv_entry ([.ref a, .int v]) (n := 4) (Nat.le_of_ble_eq_true rfl)
  rw [lg_entry_eq]
  generalize (lg_sl ([.ref a, .int v]) ++ List.replicate (4 - (lg_sl ([.ref a, .int v])).length) Slot.unset).toArray = ls at hl ⊢
  have hl : lv_has ls 4 [(0, .ref a), (1, .int v)] := hl
  have loop : ∀ u i (H : Heap) (locs : List Loc) (ls : Array Slot), N = i + u → lv_has ls 4 [(2, .int (nI i)), (3, .int (nI N)), (0, .ref a), (1, .int v)] → va_P D vwCl ((a, .inl (cy 0, (N, .inl (fun j => if j < i then v else f j)))) :: ws) H → va_D A ((a, .inl (cy 0, (N, .inl (fun j => if j < i then v else f j)))) :: ws) → va_S A s.heap H locs → W p l e (headSpec (.code (⟨"java/util/Arrays", "fill", "([II)V"⟩ : MethodName) prog_17_method_103_code 4 none :: tkWd) { frames := 0, cells := 0, slots := 0, locals := 0 }).room s m [.ref a, .int v].toArray below meth c H locs 0 0 (MQ below (va_Qv (fun _ : Unit => True) (fun _ t => va_P D vwCl ((a, .inl (cy 0, (N, .inl (fun j => if j < N then v else f j)))) :: ws) t.heap ∧ va_D A ((a, .inl (cy 0, (N, .inl (fun j => if j < N then v else f j)))) :: ws)) A) [.ref a, .int v].toArray s 0 0 A) (F0 m 5 ls []) := by
    intro u
    induction u with
    | zero =>
      intro i H locs ls hi hl hP hD hS
      have : i = N := by omega
      subst this
      refine lv_iload_n hx hb (show decode prog_17_method_103_code 5 = .ok (.iload_n 2, 1) by decide +kernel) rfl (lv_at hl 0 rfl) ?_
      refine lv_iload_n hx hb (show decode prog_17_method_103_code 6 = .ok (.iload_n 3, 1) by decide +kernel) rfl (lv_at hl 1 rfl) ?_
      refine lv_icmp_ge (tgt := 20) hx hb (show decode prog_17_method_103_code 7 = .ok (.if_icmp .ge 13, 3) by decide +kernel) (by decide) (fun _ => ?_) (fun z => absurd (Int32.le_refl _) z)
      exact W.vret hx hb hr (fun t ht hW => ⟨⟨(), rfl, trivial, by rw [ht]; exact hP, hD⟩, hS.F ht⟩) hS.2.2 (show decode prog_17_method_103_code 20 = .ok (.return_, 1) by decide +kernel)
    | succ u ih =>
      intro i H locs ls hi hl hP hD hS
      refine lv_iload_n hx hb (show decode prog_17_method_103_code 5 = .ok (.iload_n 2, 1) by decide +kernel) rfl (lv_at hl 0 rfl) ?_
      refine lv_iload_n hx hb (show decode prog_17_method_103_code 6 = .ok (.iload_n 3, 1) by decide +kernel) rfl (lv_at hl 1 rfl) ?_
      refine lv_icmp_ge (tgt := 20) hx hb (show decode prog_17_method_103_code 7 = .ok (.if_icmp .ge 13, 3) by decide +kernel) (by decide) (fun z => absurd z (by simp (disch := omega) only [false_implies, Nat.reduceLT, Nat.lt_irrefl, nI_eq', nI_le', nI_lt', nI_add, nI_sub, nI_clamp, vp_in_eq, nI_mI, mI_nI, mI_eq, nI_lt_mI, mI_lt_nI, pk_mul, pk_div, ire_n, nI_m1, b_0, b_1, up2_app, na1, na2, Nat.reduceAdd, Nat.reduceSub, Nat.reduceMul, Nat.reduceDiv, Nat.reduceMod, Nat.reduceLeDiff, Nat.reduceEqDiff, not_true_eq_false, not_false_eq_true, true_and, and_true, false_and, and_false, or_true, true_or, or_false, false_or, if_true, if_false, ite_true, ite_false, reduceIte]; omega)) (fun _ => ?_)
      refine lv_aload_n hx hb (show decode prog_17_method_103_code 10 = .ok (.aload_n 0, 1) by decide +kernel) rfl (lv_at hl 2 rfl) ?_
      refine lv_iload_n hx hb (show decode prog_17_method_103_code 11 = .ok (.iload_n 2, 1) by decide +kernel) rfl (lv_at hl 0 rfl) ?_
      refine lv_iload_n hx hb (show decode prog_17_method_103_code 12 = .ok (.iload_n 1, 1) by decide +kernel) rfl (lv_at hl 3 rfl) ?_
      refine va_iast hx hb hK hP hD hS 0 0 rfl rfl (by rw [vp_in_eq (by omega)]; omega) (show decode prog_17_method_103_code 13 = .ok (.iastore, 1) by decide +kernel) (fun H locs hP hD hS => ?_)
      have ef : upd (fun j => if j < i then v else f j) (nI i).toNatClampNeg v = fun j => if j < i + 1 then v else f j := by
        rw [nI_clamp (by omega)]
        funext j
        unfold upd
        by_cases q : j = i
        · subst q; simp
        · by_cases q2 : j < i
          · simp [q, q2, show j < i + 1 by omega]
          · simp [q, q2, show ¬ j < i + 1 by omega]
      rw [ef] at hP hD
      obtain ⟨y, ey⟩ : ∃ y : Int32, y = nI i + 1 := ⟨_, rfl⟩
      refine lv_iinc (v := y) (lv' := [(2, .int y), (3, .int (nI N)), (0, .ref a), (1, .int v)]) hx hb (show decode prog_17_method_103_code 14 = .ok (.iinc 2 1, 3) by decide +kernel) hl (k := 0) rfl (by rw [ey]; rfl) (by decide) rfl (fun ls hl => ?_)
      refine lv_goto (tgt := 5) hx hb (show decode prog_17_method_103_code 17 = .ok (.goto (-12), 3) by decide +kernel) (by decide) ?_
      have ey2 : y = nI (i + 1) := by rw [ey]; exact nI_s i
      rw [ey2] at hl
      exact ih (i + 1) H locs ls (by omega) hl hP hD hS
  refine lv_iconst (v := 0) hx hb (show decode prog_17_method_103_code 0 = .ok (.iconst 0, 1) by decide +kernel) (by decide) ?_
  refine lv_istore_n (lv' := [(2, .int 0), (0, .ref a), (1, .int v)]) hx hb (show decode prog_17_method_103_code 1 = .ok (.istore_n 2, 1) by decide +kernel) rfl hl (by decide) rfl (fun ls hl => ?_)
  refine lv_aload_n hx hb (show decode prog_17_method_103_code 2 = .ok (.aload_n 0, 1) by decide +kernel) rfl (lv_at hl 1 rfl) ?_
  refine va_alen (v := nI N) hx hb hK hP 0 0 rfl rfl rfl (show decode prog_17_method_103_code 3 = .ok (.arraylength, 1) by decide +kernel) ?_
  refine lv_istore_n (lv' := [(3, .int (nI N)), (2, .int 0), (0, .ref a), (1, .int v)]) hx hb (show decode prog_17_method_103_code 4 = .ok (.istore_n 3, 1) by decide +kernel) rfl hl (by decide) rfl (fun ls hl => ?_)
  have e0 : (fun j => if j < 0 then v else f j) = f := by funext j; simp
  exact loop N 0 _ _ ls (by omega) (lv_sub hl [1, 0, 2, 3] rfl) (by rw [e0]; exact hP) (by rw [e0]; exact hD) hS
def fsX0 (q : Nat → Nat) : List Value := .ref (q 0) :: .ref (q 1) :: .int 0 :: []
def nwX0 (cy : Nat → ClassId) (q : Nat → Nat) : va_W := (q 0, .inl (cy 0, (48, .inl (fun _ => 0)))) :: (q 1, .inl (cy 0, (12, .inl (fun j => if j < 12 then Int32.ofInt (-1) else 0)))) :: []
def f0X0 : List Value := .null :: .null :: .int 0 :: []
set_option maxHeartbeats 1000000 in
set_option maxRecDepth 100000 in
theorem ct_0 (l : Launch) (D : va_G) (cy : Nat → ClassId) (h0 sz : Nat) (ws : va_W) : Met l (⟨tkCn 0, "<init>", "()V"⟩ : MethodName) (.code (⟨tkCn 0, "<init>", "()V"⟩ : MethodName) prog_2_method_1_code 1 none :: tkWd) { frames := 2, cells := 2, slots := 60, locals := 40 } (va_Pc [.ref h0] (fun U => U.heap.size = sz ∧ va_P D vwCl ((h0, .inr (0, f0X0)) :: ws) U.heap ∧ va_K D vwCl (tkTy cy) U ∧ va_D (fun _ => True) ((h0, .inr (0, f0X0)) :: ws) ∧ (∀ w ∈ tkNl, va_Nw w U) ∧ va_AO "TickerHouse$Machine" U)) (va_Qv (fun _ : Nat → Nat => True) (fun q t => va_P D vwCl ((h0, .inr (0, fsX0 q)) :: (ws ++ nwX0 cy q)) t.heap ∧ va_D (va_A ((h0, .inr (0, f0X0)) :: ws) sz) ((h0, .inr (0, fsX0 q)) :: (ws ++ nwX0 cy q))) (va_A ((h0, .inr (0, f0X0)) :: ws) sz)) 2 60 (va_A ((h0, .inr (0, f0X0)) :: ws) sz) := by
  refine Met.ofW (cc := prog_2_method_1_code) (maxL := 1) (ret := none) (by decide) rfl ?_
  intro p e s m args below meth c s₁ B hml hv
  obtain ⟨rfl, hsz, hP, hK, hD0, hnw⟩ := hv
  have hx := B.exec
  have hb := B.bytes
  have hr := B.returns
  have hts := atoms_spec (ws := .code (⟨tkCn 0, "<init>", "()V"⟩ : MethodName) prog_2_method_1_code 1 none :: tkWd) B.pre
  have hown : s.vm.findClass (tkCn 0) = some m.cls := findClass_of_methodNamed B.named
  have hin : meth.name = "<init>" := (name_of_methodNamed B.named B.method).1
  subst hsz
  have hD := hD0.self (sz := s.heap.size)
  generalize hAe : va_A ((h0, .inr (0, f0X0)) :: ws) s.heap.size = A at hD ⊢
  have hA : ∀ q : Nat, s.heap.size ≤ q → A q := fun q h => by rw [← hAe]; exact Or.inr h
  have hS : va_S A s.heap s.heap [] := va_S.rf
  have hl := lv_entry ([.ref h0]) (n := 1) (Nat.le_of_ble_eq_true rfl)
  rw [lg_entry_eq]
  generalize (lg_sl ([.ref h0]) ++ List.replicate (1 - (lg_sl ([.ref h0])).length) Slot.unset).toArray = ls at hl ⊢
  have hl : lv_has ls 1 [(0, .ref h0)] := hl
  have Y : tkY p s m [.ref h0].toArray meth c prog_2_method_1_code 1 0 D cy := ⟨hx, hb, hml, hown, fun w hw => hts w (List.mem_cons_of_mem _ hw), hK, hin, hnw⟩
  refine cg_obj (idx := 3) Y hl (by decide +kernel) (by decide +kernel) (tkWd_in (i := 241) (by decide +kernel) rfl) (Nat.le_of_ble_eq_true rfl) (Nat.le_of_ble_eq_true rfl) ?_
  refine cg_arr (fs := (.null :: .null :: .int 0 :: [])) (n := 0) (idx := 9) (ti := 0) (N := 48) (ty := .int) (fty := (.array .int)) (v := 48) (d := (.bipush 48, 2)) (atype := .int) (a0 := (48, .inl (fun _ => 0))) Y hl hA (by decide +kernel) (by decide +kernel) (by decide +kernel) (by decide +kernel) rfl (Or.inl rfl) rfl (tkWd_in (i := 165) (by decide +kernel) rfl) (fun _ => rfl) (by decide) (by decide) (by decide) (Nat.le_of_ble_eq_true rfl) (Nat.le_of_ble_eq_true rfl) (by decide +kernel) (by decide +kernel) rfl (by decide) (by decide +kernel) (fun _ => rfl) (fun _ => rfl) (Nat.le_of_ble_eq_true rfl) hP hD hS (fun q0 H locs hP hD hS => ?_)
  refine W.widen (k := 1) (n := 48) (Nat.le_of_ble_eq_true rfl) (Nat.le_of_ble_eq_true rfl) ?_
  refine W.eq (g2 := F0 m 12 ls []) rfl ?_
  refine cg_arr (fs := (.ref q0 :: .null :: .int 0 :: [])) (n := 1) (idx := 15) (ti := 0) (N := 12) (ty := .int) (fty := (.array .int)) (v := 12) (d := (.bipush 12, 2)) (atype := .int) (a0 := (12, .inl (fun _ => 0))) Y hl hA (by decide +kernel) (by decide +kernel) (by decide +kernel) (by decide +kernel) rfl (Or.inl rfl) rfl (tkWd_in (i := 165) (by decide +kernel) rfl) (fun _ => rfl) (by decide) (by decide) (by decide) (Nat.le_of_ble_eq_true rfl) (Nat.le_of_ble_eq_true rfl) (by decide +kernel) (by decide +kernel) rfl (by decide) (by decide +kernel) (fun _ => rfl) (fun _ => rfl) (Nat.le_of_ble_eq_true rfl) hP hD hS (fun q1 H locs hP hD hS => ?_)
  refine W.widen (k := 2) (n := 60) (Nat.le_of_ble_eq_true rfl) (Nat.le_of_ble_eq_true rfl) ?_
  refine W.eq (g2 := F0 m 20 ls []) rfl ?_
  have hts2 : ∀ w ∈ tkWd, w.before [Value.ref h0].toArray s = true := fun w hw => hts w (List.mem_cons_of_mem _ hw)
  have hts' : ∀ w ∈ (Cond.tt :: tkWd), w.before [Value.ref h0].toArray s = true := fun w hw => by
    rcases List.mem_cons.mp hw with rfl | hw
    · rfl
    · exact hts2 w hw
  obtain ⟨v1, -, -, -⟩ := tkVw (ci := 0) rfl
  refine lv_aload_n hx hb (show decode prog_2_method_1_code 20 = .ok (.aload_n 0, 1) by decide +kernel) rfl (lv_at hl 0 rfl) ?_
  refine va_get (own := tkCn 0) (v := .ref q1) hx hb hts2 (tkIn_wd v1) hown hK hP 0 rfl (ci := 0) rfl 1 (by decide) (hts2 (.fieldLink (tkCn 0) 15 RX0 (TX0 1).2.1 (TX0 1).2.2.1) (tkWd_in (i := 246) (by decide +kernel) rfl)) (fun _ h9 => h9) rfl (show decode prog_2_method_1_code 21 = .ok (.getfield 15, 3) by decide +kernel) ?_
  refine cg_push (n := -1) (d := (.iconst (-1), 1)) Y (by decide +kernel) (by decide +kernel) ?_
  refine W.eq (g2 := F0 m 25 ls [.int (Int32.ofInt (-1)), .ref q1]) rfl ?_
  have hpm : ((q1, .inl (cy 0, ((12, .inl (fun _ => 0)) : vp_A))) :: (h0, .inr (0, .ref q0 :: .ref q1 :: .int 0 :: [])) :: (ws ++ [(q0, .inl (cy 0, ((48, .inl (fun _ => 0)) : vp_A)))]) : va_W).Perm ((h0, .inr (0, .ref q0 :: .ref q1 :: .int 0 :: [])) :: ((ws ++ [(q0, .inl (cy 0, (48, .inl (fun _ => 0))))]) ++ [(q1, .inl (cy 0, (12, .inl (fun _ => 0))))])) := (List.perm_append_singleton _ ((h0, .inr (0, .ref q0 :: .ref q1 :: .int 0 :: [])) :: (ws ++ [(q0, .inl (cy 0, (48, .inl (fun _ => 0))))]))).symm
  have hP := hP.perm hpm
  have hD := hD.perm hpm
  have hF := cg_free hD hS hA
  refine va_callv (va_runS (As := [.ref q1, .int (Int32.ofInt (-1))]) (rest := []) (n := 2) ⟨hx, hb, hml, hown, hts'⟩ (ct_fill l D cy q1 12 H.size (Int32.ofInt (-1)) (fun _ => 0) _ (by decide)) ⟨callB_of (index := 18) 2 hts' (tkGood (List.mem_of_getElem? (i := 244) (by decide +kernel)) rfl) rfl rfl rfl (hts2 _ (tkWd_in (i := 89) (by decide +kernel) rfl)) (hts2 _ (tkWd_in (i := 242) (by decide +kernel) rfl)) (by decide +kernel) ⟨Nat.le_of_ble_eq_true rfl, Nat.le_of_ble_eq_true rfl⟩, hts2 _ (tkWd_in (i := 243) (by decide +kernel) rfl)⟩ ⟨fiPc_blind D cy q1 12 H.size (Int32.ofInt (-1)) (fun _ => 0) _, fun U hU hW => ⟨rfl, by rw [hU], by rw [hU]; exact hP, va_K.moved hW.alike hK, hD.up (fun _ _ => trivial)⟩⟩ rfl rfl hl.1 rfl (Nat.le_of_ble_eq_true rfl) (show decode prog_2_method_1_code 25 = .ok (.invokestatic 18, 3) by decide +kernel) ⟨Nat.le_of_ble_eq_true rfl, Nat.le_of_ble_eq_true rfl⟩) hS (fun q _ h => hF q h) hF (fun u t H1 locs1 ht hvm hw hB hz1 hk1 hS => ?_)
  obtain ⟨b1, b2⟩ := hB
  rw [ht] at b1
  have hpm2 : ((h0, .inr (0, .ref q0 :: .ref q1 :: .int 0 :: [])) :: ((ws ++ [(q0, .inl (cy 0, ((48, .inl (fun _ => 0)) : vp_A)))]) ++ [(q1, .inl (cy 0, ((12, .inl (fun j => if j < 12 then Int32.ofInt (-1) else 0)) : vp_A)))]) : va_W).Perm ((q1, .inl (cy 0, (12, .inl (fun j => if j < 12 then Int32.ofInt (-1) else 0)))) :: (h0, .inr (0, .ref q0 :: .ref q1 :: .int 0 :: [])) :: (ws ++ [(q0, .inl (cy 0, (48, .inl (fun _ => 0))))])) := psng _ _ _
  have hP := b1.perm hpm2
  have hD := (b2.up hF).perm hpm2
  generalize H1 = H at hP hS ⊢
  refine W.eq (g2 := F0 m 28 ls []) rfl ?_
  try simp only [List.append_assoc, List.cons_append, List.nil_append] at hP hD
  have hP : va_P D vwCl ((h0, .inr (0, fsX0 (fun k => [q0, q1].getD k 0))) :: (ws ++ nwX0 cy (fun k => [q0, q1].getD k 0))) H := hP
  have hD : va_D A ((h0, .inr (0, fsX0 (fun k => [q0, q1].getD k 0))) :: (ws ++ nwX0 cy (fun k => [q0, q1].getD k 0))) := hD
  refine W.widen (k := 2) (n := 60) (Nat.le_of_ble_eq_true rfl) (Nat.le_of_ble_eq_true rfl) ?_
  exact W.vret hx hb hr (fun t ht hW => ⟨⟨fun k => [q0, q1].getD k 0, rfl, trivial, by rw [ht]; exact hP, hD⟩, hS.F ht⟩) hS.2.2 (by decide +kernel)
