/-! constructors: rows for their groups of instructions -/
theorem va_P.perm {D : va_G} {cl : List vw_C} {ws ws' : va_W} {H : Heap} (h : va_P D cl ws H) (hp : ws'.Perm ws) : va_P D cl ws' H := by
  intro k q hk
  obtain ⟨j, hj⟩ := List.getElem?_of_mem (hp.subset (List.mem_of_getElem? hk))
  exact h j q hj
theorem va_D_iff {A : Nat → Prop} {ws : va_W} : va_D A ws ↔ (ws.map Prod.fst).Pairwise (· ≠ ·) ∧ ∀ q ∈ ws, A q.1 := by
  rw [List.pairwise_map, List.pairwise_iff_getElem]
  constructor
  · rintro ⟨h1, h2⟩
    refine ⟨fun i j hi hj hij e => ?_, fun q hq => ?_⟩
    · have := h1 i j _ _ (List.getElem?_eq_getElem hi) (List.getElem?_eq_getElem hj) e
      omega
    · obtain ⟨k, hk⟩ := List.getElem?_of_mem hq
      exact h2 k q hk
  · rintro ⟨h1, h2⟩
    refine ⟨fun i j p q hp hq e => ?_, fun k q hk => h2 q (List.mem_of_getElem? hk)⟩
    obtain ⟨hi, ei⟩ := List.getElem?_eq_some_iff.mp hp
    obtain ⟨hj, ej⟩ := List.getElem?_eq_some_iff.mp hq
    rcases Nat.lt_trichotomy i j with z | z | z
    · exact absurd (by rw [ei, ej, e]) (h1 i j hi hj z)
    · exact z
    · exact absurd (by rw [ei, ej, e]) (h1 j i hj hi z)
theorem va_D.perm {A : Nat → Prop} {ws ws' : va_W} (h : va_D A ws) (hp : ws'.Perm ws) : va_D A ws' := by
  rw [va_D_iff] at h ⊢
  exact ⟨((hp.map Prod.fst).pairwise_iff (fun h => fun z => h z.symm)).mpr h.1, fun q hq => h.2 q (hp.subset hq)⟩
theorem va_D.up {A B : Nat → Prop} {ws : va_W} (h : va_D A ws) (hAB : ∀ q, A q → B q) : va_D B ws := ⟨h.1, fun k q hk => hAB _ (h.2 k q hk)⟩
theorem cg_free {A0 : Nat → Prop} {ws : va_W} {H0 H : Heap} {locs : List Loc} (hD : va_D A0 ws) (hS : va_S A0 H0 H locs) (hA : ∀ q, H0.size ≤ q → A0 q) : ∀ q, va_A ws H.size q → A0 q := by
  rintro q (⟨k, e, h⟩ | h)
  · exact hD.2 k _ h
  · exact hA q (Nat.le_trans hS.1 h)
/-- a constructor's surroundings -/
def tkY (p : Program) (s : State) (m : MethodId) (args : Array Value) (meth : Method) (c : Code) (cc : ByteArray) (nL ci : Nat) (D : va_G) (cy : Nat → ClassId) : Prop := p.tables.exec = Jvm.exec ∧ c.code = cc ∧ c.maxLocals = nL ∧ s.vm.findClass (tkCn ci) = some m.cls ∧ (∀ w ∈ tkWd, w.before args s = true) ∧ va_K D vwCl (tkTy cy) s ∧ meth.name = "<init>" ∧ (∀ w ∈ tkNl, va_Nw w s) ∧ va_AO "TickerHouse$Machine" s
section CG
variable {p : Program} {l : Launch} {e : Env} {R : Room} {s : State} {m : MethodId} {args : Array Value} {below : List Frame} {meth : Method} {c : Code} {H H0 : Heap} {locs : List Loc} {cells slots : Nat} {Q : State → Prop} {cc : ByteArray} {nL ci : Nat} {D : va_G} {cy : Nat → ClassId} {A : Nat → Prop} {pc h0 : Nat} {ls : Array Slot} {fs : List Value} {W1 : va_W}
theorem cg_push {n : Int} {d : Instr × Nat} {st : List Value} (Y : tkY p s m args meth c cc nL ci D cy) (hd : decode cc pc = .ok d) (hr : tkRel ci nL pc [] none false d (.iconst n) = true) (kk : W p l e R s m args below meth c H locs cells slots Q (F0 m (pc + d.2) ls (.int (Int32.ofInt n) :: st))) : W p l e R s m args below meth c H locs cells slots Q (F0 m pc ls st) := by
  obtain ⟨hx, hb, hml, hown, hts, hK, hin, -⟩ := Y
  unfold tkRel at hr
  dsimp only at hr
  simp only [Bool.or_eq_true, decide_eq_true_eq] at hr
  rcases hr with ((rfl | ⟨rfl, hv⟩) | ⟨rfl, hv⟩) | hr
  · exact lv_iconst hx hb hd rfl kk
  · exact lv_bipush hx hb hd hv kk
  · exact lv_sipush hx hb hd hv kk
  · obtain ⟨q, hq, hr⟩ := List.any_eq_true.mp hr
    simp only [Bool.and_eq_true, Bool.or_eq_true, decide_eq_true_eq] at hr
    obtain ⟨⟨h1, h2⟩, h3⟩ := hr
    have hw := of_decide_eq_true (List.all_eq_true.mp tkLc_ok q hq)
    rw [h1, h2] at hw
    have hc := hts _ (tkWd_in hw rfl)
    rcases h3 with rfl | rfl
    · exact lv_ldc hx hb hown hc hd kk
    · exact lv_ldcw hx hb hown hc hd kk
/-- a field's type -/
def cgTy (n : Nat) (ty : FieldType) : Bool := match vwCl[n / 64]? with
  | some (_, T, _) => decide (parseFieldDescriptor (T (n % 64)).2.2.1 = some ty)
  | none => false
theorem cg_put {n idx : Nat} {ty : FieldType} {v : Value} {rest : List Value} (Y : tkY p s m args meth c cc nL ci D cy) (hq : tkFl.any (fun q => decide (q.1 = ci) && decide (q.2.2.1 = n) && decide (q.2.1 = idx)) = true) (hn : n / 64 = ci) (hci : ci < 12) (hty : cgTy n ty = true) (hnar : narrow ty v = v) (hfit : fits ty v = true) (hl : n % 64 < fs.length) (hd : decode cc pc = .ok (.putfield idx, 3)) (hP : va_P D vwCl ((h0, .inr (ci, fs)) :: W1) H) (hD : va_D A ((h0, .inr (ci, fs)) :: W1)) (hS : va_S A H0 H locs)
    (kk : ∀ (H1 : Heap) (locs1 : List Loc), va_P D vwCl ((h0, .inr (ci, fs.set (n % 64) v)) :: W1) H1 → va_D A ((h0, .inr (ci, fs.set (n % 64) v)) :: W1) → va_S A H0 H1 locs1 → W p l e R s m args below meth c H1 locs1 cells slots Q (F0 m (pc + 3) ls rest)) : W p l e R s m args below meth c H locs cells slots Q (F0 m pc ls (v :: .ref h0 :: rest)) := by
  obtain ⟨hx, hb, hml, hown, hts, hK, hin, -⟩ := Y
  obtain ⟨q, hq, hr⟩ := List.any_eq_true.mp hq
  simp only [Bool.and_eq_true, decide_eq_true_eq] at hr
  obtain ⟨⟨h1, h2⟩, h3⟩ := hr
  obtain ⟨C, T, NN, ee, hk, hw, hT⟩ := tkFl_use hq h1 h2 h3
  obtain ⟨v1, ⟨ty0, v2⟩, v3, v4⟩ := tkVw ee
  unfold cgTy at hty
  rw [ee] at hty
  have hty := of_decide_eq_true hty
  rw [hn] at ee
  obtain ⟨T', N', ee'⟩ := tkVw_cn hci
  have hC : C = tkCn ci := by rw [ee] at ee'; cases ee'; rfl
  by_cases hf : (T (n % 64)).2.2.2 = true
  · exact va_putF (v := v) (ty := ty) hx hb hts (tkIn_wd v1) ty0 v2 v3 hown hK hP hD hS 0 rfl ee (n % 64) hk (hts _ hw) (fun x hx => by rw [hT] at hx; exact hx) hf hin (by rw [hT]; exact hC) hty hnar hfit hl hd kk
  · exact va_put (v := v) (ty := ty) hx hb hts (tkIn_wd v1) ty0 v2 v3 hown hK hP hD hS 0 rfl ee (n % 64) hk (hts _ hw) (fun x hx => by rw [hT] at hx; exact hx) (by simpa using hf) hty hnar hfit hl hd kk
/-- a number into a field -/
theorem cg_int {n idx : Nat} {ty : FieldType} {v : Int} {d : Instr × Nat} {lv : List (Nat × Value)} (Y : tkY p s m args meth c cc nL ci D cy) (hlv : lv_has ls nL ((0, .ref h0) :: lv)) (hd0 : decode cc pc = .ok (.aload_n 0, 1)) (hd1 : decode cc (pc + 1) = .ok d) (hr : tkRel ci nL (pc + 1) [] none false d (.iconst v) = true) (hd2 : decode cc (pc + 1 + d.2) = .ok (.putfield idx, 3)) (hq : tkFl.any (fun q => decide (q.1 = ci) && decide (q.2.2.1 = n) && decide (q.2.1 = idx)) = true) (hn : n / 64 = ci) (hci : ci < 12) (hty : cgTy n ty = true) (hnar : narrow ty (.int (Int32.ofInt v)) = .int (Int32.ofInt v)) (hfit : fits ty (.int (Int32.ofInt v)) = true) (hl : n % 64 < fs.length) (hP : va_P D vwCl ((h0, .inr (ci, fs)) :: W1) H) (hD : va_D A ((h0, .inr (ci, fs)) :: W1)) (hS : va_S A H0 H locs)
    (kk : ∀ (H1 : Heap) (locs1 : List Loc), va_P D vwCl ((h0, .inr (ci, fs.set (n % 64) (.int (Int32.ofInt v)))) :: W1) H1 → va_D A ((h0, .inr (ci, fs.set (n % 64) (.int (Int32.ofInt v)))) :: W1) → va_S A H0 H1 locs1 → W p l e R s m args below meth c H1 locs1 cells slots Q (F0 m (pc + 1 + d.2 + 3) ls [])) : W p l e R s m args below meth c H locs cells slots Q (F0 m pc ls []) := by
  obtain ⟨hx, hb, -, -, -, -, -, -⟩ := id Y
  refine lv_aload_n hx hb hd0 rfl (lv_at hlv 0 rfl) ?_
  refine cg_push Y hd1 hr ?_
  exact cg_put Y hq hn hci hty hnar hfit hl hd2 hP hD hS kk
theorem va_RA_prim {U : State} {a b : ClassId} {ty : FieldType} (ht : ty = .int ∨ ty = .boolean ∨ ty = .long) (h1 : va_RA U a ty) (h2 : va_RA U b ty) : a = b := by
  rcases ht with rfl | rfl | rfl
  · exact Option.some.inj (h1.symm.trans h2)
  · exact Option.some.inj (h1.symm.trans h2)
  · exact Option.some.inj (h1.symm.trans h2)
/-- a new row into a field -/
theorem cg_arr {n idx ti N : Nat} {ty fty : FieldType} {v : Int} {d : Instr × Nat} {lv : List (Nat × Value)} {atype : ArrayType} {a0 : vp_A} (Y : tkY p s m args meth c cc nL ci D cy) (hlv : lv_has ls nL ((0, .ref h0) :: lv)) (hA : ∀ q, H0.size ≤ q → A q) (hd0 : decode cc pc = .ok (.aload_n 0, 1)) (hd1 : decode cc (pc + 1) = .ok d) (hr : tkRel ci nL (pc + 1) [] none false d (.iconst v) = true) (hda : decode cc (pc + 1 + d.2) = .ok (.newarray atype, 2)) (hat : newarray.typeOf atype = ty) (ht : ty = .int ∨ ty = .boolean ∨ ty = .long) (hti : (tkTy cy)[ti]? = some (cy ti, ty)) (hwd : Cond.arrayClass ty ∈ tkWd) (ha : ∀ cA : ClassId, vp_cell cA a0 = arrV cA N (fun _ => defaultValue ty)) (hv0 : ¬ Int32.ofInt v < 0) (hvN : (Int32.ofInt v).toNatClampNeg = N) (hby : N * componentBytes ty ≤ 536870912) (hce : cells + 1 ≤ R.cells) (hsl : slots + N ≤ R.slots)
    (hd2 : decode cc (pc + 1 + d.2 + 2) = .ok (.putfield idx, 3)) (hq : tkFl.any (fun q => decide (q.1 = ci) && decide (q.2.2.1 = n) && decide (q.2.1 = idx)) = true) (hn : n / 64 = ci) (hci : ci < 12) (hty : cgTy n fty = true) (hnar : ∀ q : Nat, narrow fty (.ref q) = .ref q) (hfit : ∀ q : Nat, fits fty (.ref q) = true) (hl : n % 64 < fs.length) (hP : va_P D vwCl ((h0, .inr (ci, fs)) :: W1) H) (hD : va_D A ((h0, .inr (ci, fs)) :: W1)) (hS : va_S A H0 H locs)
    (kk : ∀ (q : Nat) (H1 : Heap) (locs1 : List Loc), va_P D vwCl ((h0, .inr (ci, fs.set (n % 64) (.ref q))) :: (W1 ++ [(q, .inl (cy ti, a0))])) H1 → va_D A ((h0, .inr (ci, fs.set (n % 64) (.ref q))) :: (W1 ++ [(q, .inl (cy ti, a0))])) → va_S A H0 H1 locs1 → W p l e R s m args below meth c H1 locs1 (cells + 1) (slots + N) Q (F0 m (pc + 1 + d.2 + 2 + 3) ls [])) : W p l e R s m args below meth c H locs cells slots Q (F0 m pc ls []) := by
  obtain ⟨hx, hb, hml, hown, hts, hK, hin, hnw⟩ := id Y
  refine lv_aload_n hx hb hd0 rfl (lv_at hlv 0 rfl) ?_
  refine cg_push Y hd1 hr ?_
  refine va_newa hx hb (by rw [hat]; exact hts _ hwd) hat hK hP hD hS hA ha hv0 hvN hby hce hsl hda (fun q cA H1 hK1 hP1 hD1 hS1 => ?_)
  have e1 : cA = cy ti := va_RA_prim ht (hK1.2 4 (cA, ty) rfl).2 (hK.2 ti _ hti).2
  subst e1
  exact cg_put Y hq hn hci hty (hnar q) (hfit q) hl hd2 hP1 hD1 hS1 (fun H2 locs2 hP2 hD2 hS2 => kk q H2 locs2 hP2 hD2 hS2)
/-- the call of Object's own -/
theorem cg_obj {idx : Nat} {lv : List (Nat × Value)} (Y : tkY p s m args meth c cc nL ci D cy) (hlv : lv_has ls nL ((0, .ref h0) :: lv)) (hd0 : decode cc 0 = .ok (.aload_n 0, 1)) (hd1 : decode cc 1 = .ok (.invokespecial idx, 3)) (h1 : Cond.methodLink (tkCn ci) idx objectInit ∈ tkWd) (hf : 1 ≤ R.frames) (hlo : 12 ≤ R.locals) (kk : W p l e R s m args below meth c H locs cells slots Q (F0 m 4 ls [])) : W p l e R s m args below meth c H locs cells slots Q (F0 m 0 ls []) := by
  obtain ⟨hx, hb, hml, hown, hts, hK, hin, hnw⟩ := id Y
  refine lv_aload_n hx hb hd0 rfl (lv_at hlv 0 rfl) ?_
  refine W.objInit hx hb hown (hts _ h1) (hts _ (tkWd_in (i := 105) (by decide +kernel) rfl)) (hts _ (tkWd_in (i := 106) (by decide +kernel) rfl)) rfl (by rw [hml]; exact hlv.1) rfl hd1 hf (by show 2 * 0 + 0 + 12 ≤ _; omega) ?_
  exact kk
end CG
