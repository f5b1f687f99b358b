/-! constructors: an object into a field; a row of signs; the firms -/
theorem pmid (x y : Nat × va_E) (W nw : va_W) : (x :: (W ++ y :: nw)).Perm (y :: ((x :: W) ++ nw)) := List.perm_middle (l₁ := x :: W)
section CG4
variable {p : Program} {l : Launch} {e : Env} {R : Room} {s : State} {m : MethodId} {args : Array Value} {below : List Frame} {meth : Method} {c : Code} {H H0 : Heap} {locs : List Loc} {cells slots : Nat} {Q : State → Prop} {cc : ByteArray} {nL ci : Nat} {D : va_G} {cy : Nat → ClassId} {A : Nat → Prop} {pc h0 : Nat} {ls : Array Slot} {fs : List Value} {W1 : va_W}
theorem cg_obj0 {cj N nLj idx idx2 idx3 mc ms n : Nat} {nest : Option String} {y : MethodName} {bytes : ByteArray} {rm : Room} {C : String} {T : u_T} {ty : Nat → FieldType} {fty : FieldType} {fs0 : List Value} {fsJ : (Nat → Nat) → List Value} {nwJ : (Nat → Nat) → va_W} {lv : List (Nat × Value)} (Y : tkY p s m args meth c cc nL ci D cy) (hlv : lv_has ls nL ((0, .ref h0) :: lv)) (hA : ∀ q, H0.size ≤ q → A q) (hM : ∀ (q sz : Nat) (ws : va_W), Met l y (.code y bytes nLj none :: tkWd) rm (ctPc D cy [] q sz cj fs0 ws) (ctQc D q sz cj fs0 fsJ nwJ ws) mc ms (va_A ((q, .inr (cj, fs0)) :: ws) sz)) (hd0 : decode cc pc = .ok (.aload_n 0, 1)) (hc : vwCl[cj]? = some (C, T, N)) (hty0 : ∀ k, k < N → parseFieldDescriptor (T k).2.2.1 = some (ty k)) (hcl : Cond.classLink (tkCn ci) idx C ∈ tkWd) (hins : Cond.instantiable C N ∈ tkWd) (hiniC : Cond.initialized C ∈ tkWd) (hfs : ∀ j, j < N → defaultValue (ty j) = vp_V fs0 j) (hce : cells + 1 ≤ R.cells) (hsl : slots + N ≤ R.slots) (hd1 : decode cc (pc + 1) = .ok (.new idx, 3)) (hd2 : decode cc (pc + 1 + 3) = .ok (.dup, 1))
    (hcode : Cond.code y bytes nLj none ∈ lw_tbl) (hrc : rm.cells = mc) (hrs : rm.slots = ms) (hini : Cond.initialized y.cls ∈ tkWd) (hlink : match nest with | none => Cond.methodLink (tkCn ci) idx2 y ∈ tkWd | some h => Cond.methodLinkNest (tkCn ci) idx2 y h ∈ tkNl) (hinst : Cond.instanceMethod y ∈ tkWd) (hy : y.name = "<init>") (hd9 : y.cls ≠ "java/lang/invoke/MethodHandle" ∧ y.cls ≠ "java/lang/invoke/VarHandle" ∧ (parseMethodDescriptor y.desc).map (fun d => d.parameters.length) = some 0) (hR : rm.frames + 1 ≤ R.frames ∧ 8 + (nLj + 11) + rm.locals ≤ R.locals) (hd3 : decode cc (pc + 5) = .ok (.invokespecial idx2, 3)) (hf : cells + 1 + mc ≤ R.cells ∧ slots + N + ms ≤ R.slots)
    (hd4 : decode cc (pc + 5 + 3) = .ok (.putfield idx3, 3)) (hq : tkFl.any (fun q => decide (q.1 = ci) && decide (q.2.2.1 = n) && decide (q.2.1 = idx3)) = true) (hn : n / 64 = ci) (hci : ci < 12) (hty : cgTy n fty = true) (hnar : ∀ q : Nat, narrow fty (.ref q) = .ref q) (hfit : ∀ q : Nat, fits fty (.ref q) = true) (hl : n % 64 < fs.length) (hP : va_P D vwCl ((h0, .inr (ci, fs)) :: W1) H) (hD : va_D A ((h0, .inr (ci, fs)) :: W1)) (hS : va_S A H0 H locs)
    (kk : ∀ (q : Nat) (u : Nat → Nat) (H1 : Heap) (locs1 : List Loc), va_P D vwCl ((h0, .inr (ci, fs.set (n % 64) (.ref q))) :: (W1 ++ (q, .inr (cj, fsJ u)) :: nwJ u)) H1 → va_D A ((h0, .inr (ci, fs.set (n % 64) (.ref q))) :: (W1 ++ (q, .inr (cj, fsJ u)) :: nwJ u)) → va_S A H0 H1 locs1 → W p l e R s m args below meth c H1 locs1 (cells + 1 + mc) (slots + N + ms) Q (F0 m (pc + 5 + 3 + 3) ls [])) : W p l e R s m args below meth c H locs cells slots Q (F0 m pc ls []) := by
  obtain ⟨hx, hb, hml, hown, hts, hK, hin, hnw⟩ := id Y
  refine lv_aload_n hx hb hd0 rfl (lv_at hlv 0 rfl) ?_
  refine cg_new Y hA hc hty0 hcl hins hiniC hfs hce hsl hd1 hd2 hP hD hS (fun q H1 hP1 hD1 hS1 => ?_)
  refine cg_call (As := []) (nest := nest) Y (hM q H1.size _) hcode hrc hrs hini hlink hinst hy hd9 hR hlv.1 (Nat.le_of_ble_eq_true rfl) hd3 hf hP1 hD1 hS1 hA (fun u H2 locs2 hP2 hD2 hS2 => ?_)
  exact cg_put Y hq hn hci hty (hnar q) (hfit q) hl hd4 (hP2.perm (ws' := (h0, .inr (ci, fs)) :: (W1 ++ (q, .inr (cj, fsJ u)) :: nwJ u)) (pmid _ _ _ _)) (hD2.perm (ws' := (h0, .inr (ci, fs)) :: (W1 ++ (q, .inr (cj, fsJ u)) :: nwJ u)) (pmid _ _ _ _)) hS2 (fun H3 locs3 hP3 hD3 hS3 => kk q u H3 locs3 hP3 hD3 hS3)
theorem cg_obj1 {cj N nLj idx idx2 idx3 mc ms n : Nat} {v : Int} {d : Instr × Nat} {nest : Option String} {y : MethodName} {bytes : ByteArray} {rm : Room} {C : String} {T : u_T} {ty : Nat → FieldType} {fty : FieldType} {fs0 : List Value} {fsJ : (Nat → Nat) → List Value} {nwJ : (Nat → Nat) → va_W} {lv : List (Nat × Value)} (Y : tkY p s m args meth c cc nL ci D cy) (hlv : lv_has ls nL ((0, .ref h0) :: lv)) (hA : ∀ q, H0.size ≤ q → A q) (hM : ∀ (q sz : Nat) (ws : va_W), Met l y (.code y bytes nLj none :: tkWd) rm (ctPc D cy [.int (Int32.ofInt v)] q sz cj fs0 ws) (ctQc D q sz cj fs0 fsJ nwJ ws) mc ms (va_A ((q, .inr (cj, fs0)) :: ws) sz)) (hd0 : decode cc pc = .ok (.aload_n 0, 1)) (hc : vwCl[cj]? = some (C, T, N)) (hty0 : ∀ k, k < N → parseFieldDescriptor (T k).2.2.1 = some (ty k)) (hcl : Cond.classLink (tkCn ci) idx C ∈ tkWd) (hins : Cond.instantiable C N ∈ tkWd) (hiniC : Cond.initialized C ∈ tkWd) (hfs : ∀ j, j < N → defaultValue (ty j) = vp_V fs0 j) (hce : cells + 1 ≤ R.cells) (hsl : slots + N ≤ R.slots) (hd1 : decode cc (pc + 1) = .ok (.new idx, 3)) (hd2 : decode cc (pc + 1 + 3) = .ok (.dup, 1)) (hdp : decode cc (pc + 5) = .ok d) (hpr : tkRel ci nL (pc + 5) [] none false d (.iconst v) = true)
    (hcode : Cond.code y bytes nLj none ∈ lw_tbl) (hrc : rm.cells = mc) (hrs : rm.slots = ms) (hini : Cond.initialized y.cls ∈ tkWd) (hlink : match nest with | none => Cond.methodLink (tkCn ci) idx2 y ∈ tkWd | some h => Cond.methodLinkNest (tkCn ci) idx2 y h ∈ tkNl) (hinst : Cond.instanceMethod y ∈ tkWd) (hy : y.name = "<init>") (hd9 : y.cls ≠ "java/lang/invoke/MethodHandle" ∧ y.cls ≠ "java/lang/invoke/VarHandle" ∧ (parseMethodDescriptor y.desc).map (fun d => d.parameters.length) = some 1) (hR : rm.frames + 1 ≤ R.frames ∧ 8 + (nLj + 11) + rm.locals ≤ R.locals) (hd3 : decode cc (pc + 5 + d.2) = .ok (.invokespecial idx2, 3)) (hf : cells + 1 + mc ≤ R.cells ∧ slots + N + ms ≤ R.slots)
    (hd4 : decode cc (pc + 5 + d.2 + 3) = .ok (.putfield idx3, 3)) (hq : tkFl.any (fun q => decide (q.1 = ci) && decide (q.2.2.1 = n) && decide (q.2.1 = idx3)) = true) (hn : n / 64 = ci) (hci : ci < 12) (hty : cgTy n fty = true) (hnar : ∀ q : Nat, narrow fty (.ref q) = .ref q) (hfit : ∀ q : Nat, fits fty (.ref q) = true) (hl : n % 64 < fs.length) (hP : va_P D vwCl ((h0, .inr (ci, fs)) :: W1) H) (hD : va_D A ((h0, .inr (ci, fs)) :: W1)) (hS : va_S A H0 H locs)
    (kk : ∀ (q : Nat) (u : Nat → Nat) (H1 : Heap) (locs1 : List Loc), va_P D vwCl ((h0, .inr (ci, fs.set (n % 64) (.ref q))) :: (W1 ++ (q, .inr (cj, fsJ u)) :: nwJ u)) H1 → va_D A ((h0, .inr (ci, fs.set (n % 64) (.ref q))) :: (W1 ++ (q, .inr (cj, fsJ u)) :: nwJ u)) → va_S A H0 H1 locs1 → W p l e R s m args below meth c H1 locs1 (cells + 1 + mc) (slots + N + ms) Q (F0 m (pc + 5 + d.2 + 3 + 3) ls [])) : W p l e R s m args below meth c H locs cells slots Q (F0 m pc ls []) := by
  obtain ⟨hx, hb, hml, hown, hts, hK, hin, hnw⟩ := id Y
  refine lv_aload_n hx hb hd0 rfl (lv_at hlv 0 rfl) ?_
  refine cg_new Y hA hc hty0 hcl hins hiniC hfs hce hsl hd1 hd2 hP hD hS (fun q H1 hP1 hD1 hS1 => ?_)
  refine cg_push Y hdp hpr ?_
  refine cg_call (As := [.int (Int32.ofInt v)]) (nest := nest) Y (hM q H1.size _) hcode hrc hrs hini hlink hinst hy hd9 hR hlv.1 (Nat.le_of_ble_eq_true rfl) hd3 hf hP1 hD1 hS1 hA (fun u H2 locs2 hP2 hD2 hS2 => ?_)
  exact cg_put Y hq hn hci hty (hnar q) (hfit q) hl hd4 (hP2.perm (ws' := (h0, .inr (ci, fs)) :: (W1 ++ (q, .inr (cj, fsJ u)) :: nwJ u)) (pmid _ _ _ _)) (hD2.perm (ws' := (h0, .inr (ci, fs)) :: (W1 ++ (q, .inr (cj, fsJ u)) :: nwJ u)) (pmid _ _ _ _)) hS2 (fun H3 locs3 hP3 hD3 hS3 => kk q u H3 locs3 hP3 hD3 hS3)
theorem cg_newint {N : Nat} {rest : List Value} {w : Nat × va_E} (Y : tkY p s m args meth c cc nL ci D cy) (hA : ∀ q, H0.size ≤ q → A q) (hce : cells + 1 ≤ R.cells) (hsl : slots + N ≤ R.slots) (hN : N ≤ 100000) (hd : decode cc pc = .ok (.newarray .int, 2)) (hP : va_P D vwCl (w :: W1) H) (hD : va_D A (w :: W1)) (hS : va_S A H0 H locs) (kk : ∀ (q : Nat) (H1 : Heap), va_P D vwCl (w :: (W1 ++ [(q, .inl (cy 0, (N, .inl (fun _ => 0))))])) H1 → va_D A (w :: (W1 ++ [(q, .inl (cy 0, (N, .inl (fun _ => 0))))])) → va_S A H0 H1 locs → W p l e R s m args below meth c H1 locs (cells + 1) (slots + N) Q (F0 m (pc + 2) ls (.ref q :: rest))) : W p l e R s m args below meth c H locs cells slots Q (F0 m pc ls (.int (nI N) :: rest)) := by
  obtain ⟨hx, hb, hml, hown, hts, hK, hin, hnw⟩ := id Y
  have n0 : ¬ nI N < nI 0 := by simp (disch := omega) only [false_implies, Nat.reduceLT, Nat.lt_irrefl, nI_eq', nI_le', nI_lt', nI_add, nI_sub, nI_clamp, vp_in_eq, nI_mI, mI_nI, mI_eq, nI_lt_mI, mI_lt_nI, pk_mul, pk_div, ire_n, nI_m1, b_0, b_1, up2_app, na1, na2, Nat.reduceAdd, Nat.reduceSub, Nat.reduceMul, Nat.reduceDiv, Nat.reduceMod, Nat.reduceLeDiff, Nat.reduceEqDiff, not_true_eq_false, not_false_eq_true, true_and, and_true, false_and, and_false, or_true, true_or, or_false, false_or, if_true, if_false, ite_true, ite_false, reduceIte]; omega
  have hb4 : N * componentBytes .int ≤ 536870912 := by show N * 4 ≤ _; omega
  have hcl9 : (nI N).toNatClampNeg = N := nI_clamp (by omega)
  refine va_newa (a0 := (N, .inl (fun _ => 0))) (ty := .int) (atype := .int) hx hb (hts _ (tkWd_in (i := 165) (by decide +kernel) rfl)) rfl hK hP hD hS hA (fun _ => rfl) n0 hcl9 hb4 hce hsl hd (fun q0 cA H hK1 hP hD hS => ?_)
  have e1 : cA = cy 0 := va_RA_prim (Or.inl rfl) (hK1.2 4 (cA, .int) rfl).2 (hK.2 0 _ rfl).2
  subst e1
  exact kk q0 H hP hD hS
end CG4
def f0X8 : List Value := .null :: .int 0 :: .int 0 :: []
def fsX8 (q : Nat → Nat) : List Value := .ref (q 0) :: .int 0 :: .int 0 :: []
def nwX8 (cy : Nat → ClassId) (N : Nat) (q : Nat → Nat) : va_W := (q 0, .inl (cy 0, (N, .inl (fun _ => 0)))) :: []
set_option maxHeartbeats 1000000 in
set_option maxRecDepth 100000 in
theorem ct_8 (l : Launch) (D : va_G) (cy : Nat → ClassId) (h0 sz : Nat) (ws : va_W) {N : Nat} {v : Int} (hv : Int32.ofInt v = nI N) (hN : N ≤ 100) : Met l (⟨tkCn 8, "<init>", "(I)V"⟩ : MethodName) (.code (⟨tkCn 8, "<init>", "(I)V"⟩ : MethodName) prog_10_method_1_code 2 none :: tkWd) { frames := 2, cells := 1, slots := N, locals := 40 } (va_Pc [.ref h0, .int (Int32.ofInt v)] (fun U => U.heap.size = sz ∧ va_P D vwCl ((h0, .inr (8, f0X8)) :: ws) U.heap ∧ va_K D vwCl (tkTy cy) U ∧ va_D (fun _ => True) ((h0, .inr (8, f0X8)) :: ws) ∧ (∀ w ∈ tkNl, va_Nw w U) ∧ va_AO "TickerHouse$Machine" U)) (va_Qv (fun _ : Nat → Nat => True) (fun q t => va_P D vwCl ((h0, .inr (8, fsX8 q)) :: (ws ++ nwX8 cy N q)) t.heap ∧ va_D (va_A ((h0, .inr (8, f0X8)) :: ws) sz) ((h0, .inr (8, fsX8 q)) :: (ws ++ nwX8 cy N q))) (va_A ((h0, .inr (8, f0X8)) :: ws) sz)) 1 N (va_A ((h0, .inr (8, f0X8)) :: ws) sz) := by
  refine Met.ofW (cc := prog_10_method_1_code) (maxL := 2) (ret := none) (by decide) rfl ?_
  intro p e s m args below meth c s₁ B hml hv
  obtain ⟨rfl, hsz, hP, hK, hD0, hnw⟩ := hv
  have hx := B.exec
  have hb := B.bytes
  have hr := B.returns
  have hts := atoms_spec (ws := .code (⟨tkCn 8, "<init>", "(I)V"⟩ : MethodName) prog_10_method_1_code 2 none :: tkWd) B.pre
  have hown : s.vm.findClass (tkCn 8) = some m.cls := findClass_of_methodNamed B.named
  have hin : meth.name = "<init>" := (name_of_methodNamed B.named B.method).1
  subst hsz
  have hD := hD0.self (sz := s.heap.size)
  generalize hAe : va_A ((h0, .inr (8, f0X8)) :: ws) s.heap.size = A at hD ⊢
  have hA : ∀ q : Nat, s.heap.size ≤ q → A q := fun q h => by rw [← hAe]; exact Or.inr h
  have hS : va_S A s.heap s.heap [] := va_S.rf
  have hl := lv_entry ([.ref h0, .int (Int32.ofInt v)]) (n := 2) (Nat.le_of_ble_eq_true rfl)
  rw [lg_entry_eq]
  generalize (lg_sl ([.ref h0, .int (Int32.ofInt v)]) ++ List.replicate (2 - (lg_sl ([.ref h0, .int (Int32.ofInt v)])).length) Slot.unset).toArray = ls at hl ⊢
  have hl : lv_has ls 2 [(0, .ref h0), (1, .int (Int32.ofInt v))] := hl
  have Y : tkY p s m [.ref h0, .int (Int32.ofInt v)].toArray meth c prog_10_method_1_code 2 8 D cy := ⟨hx, hb, hml, hown, fun w hw => hts w (List.mem_cons_of_mem _ hw), hK, hin, hnw⟩
  refine cg_obj (idx := 3) Y hl (by decide +kernel) (by decide +kernel) (tkWd_in (i := 217) (by decide +kernel) rfl) (Nat.le_of_ble_eq_true rfl) (Nat.le_of_ble_eq_true rfl) ?_
  have n0 : ¬ nI N < nI 0 := by simp (disch := omega) only [false_implies, Nat.reduceLT, Nat.lt_irrefl, nI_eq', nI_le', nI_lt', nI_add, nI_sub, nI_clamp, vp_in_eq, nI_mI, mI_nI, mI_eq, nI_lt_mI, mI_lt_nI, pk_mul, pk_div, ire_n, nI_m1, b_0, b_1, up2_app, na1, na2, Nat.reduceAdd, Nat.reduceSub, Nat.reduceMul, Nat.reduceDiv, Nat.reduceMod, Nat.reduceLeDiff, Nat.reduceEqDiff, not_true_eq_false, not_false_eq_true, true_and, and_true, false_and, and_false, or_true, true_or, or_false, false_or, if_true, if_false, ite_true, ite_false, reduceIte]; omega
  refine lv_aload_n hx hb (show decode prog_10_method_1_code 4 = .ok (.aload_n 0, 1) by decide +kernel) rfl (lv_at hl 0 rfl) ?_
  refine W.eq (g2 := F0 m 5 ls [.ref h0]) rfl ?_
  refine lv_iload_n hx hb (show decode prog_10_method_1_code 5 = .ok (.iload_n 1, 1) by decide +kernel) rfl (lv_at hl 1 rfl) ?_
  refine W.eq (g2 := F0 m 6 ls [.int (Int32.ofInt v), .ref h0]) rfl ?_
  refine lv_iconst (v := 0) hx hb (show decode prog_10_method_1_code 6 = .ok (.iconst 0, 1) by decide +kernel) (by decide) ?_
  refine W.eq (g2 := F0 m 7 ls [.int 0, .int (Int32.ofInt v), .ref h0]) rfl ?_
  have hts2 : ∀ w ∈ tkWd, w.before [Value.ref h0, .int (Int32.ofInt v)].toArray s = true := fun w hw => hts w (List.mem_cons_of_mem _ hw)
  refine va_mmax hx hb (by rw [hml]; exact hl.1.symm) hown (hts2 _ (tkWd_in (i := 218) (by decide +kernel) rfl)) (hts2 _ (tkWd_in (i := 219) (by decide +kernel) rfl)) (hts2 _ (tkWd_in (i := 87) (by decide +kernel) rfl)) (hts2 _ (tkWd_in (i := 220) (by decide +kernel) rfl)) (Nat.le_of_ble_eq_true rfl) (Nat.le_of_ble_eq_true rfl) (Nat.zero_le _) (Nat.zero_le _) (index := 9) (by decide +kernel) ?_
  have e9 : (if Int32.ofInt v < 0 then (0 : Int32) else Int32.ofInt v) = nI N := by rw [hv]; exact if_neg n0
  rw [e9]
  refine W.eq (g2 := F0 m 10 ls [.int (nI N), .ref h0]) rfl ?_
  refine cg_newint (N := N) Y hA (Nat.le_of_ble_eq_true rfl) (by show 0 + N ≤ N; omega) (by omega) (show decode prog_10_method_1_code 10 = .ok (.newarray .int, 2) by decide +kernel) hP hD hS (fun q0 H hP hD hS => ?_)
  refine W.eq (g2 := F0 m 12 ls [.ref q0, .ref h0]) rfl ?_
  refine cg_put (n := 512) (idx := 15) (ty := .array .int) Y (by decide +kernel) rfl (by decide) (by decide +kernel) rfl rfl (Nat.le_of_ble_eq_true rfl) (by decide +kernel) hP hD hS (fun H locs hP hD hS => ?_)
  refine W.eq (g2 := F0 m 15 ls []) rfl ?_
  have hP : va_P D vwCl ((h0, .inr (8, fsX8 (fun _ => q0))) :: (ws ++ nwX8 cy N (fun _ => q0))) H := hP
  have hD : va_D A ((h0, .inr (8, fsX8 (fun _ => q0))) :: (ws ++ nwX8 cy N (fun _ => q0))) := hD
  refine W.widen (k := 1) (n := N) (Nat.le_refl _) (by omega) ?_
  exact W.vret hx hb hr (fun t ht hW => ⟨⟨fun _ => q0, rfl, trivial, by rw [ht]; exact hP, hD⟩, hS.F ht⟩) hS.2.2 (by decide +kernel)
