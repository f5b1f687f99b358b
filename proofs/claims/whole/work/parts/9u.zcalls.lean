/-! soundness, with cells made before -/
theorem tk_callWz {nc ns : Nat} {p : Program} {l : Launch} {e : Env} {R : Room} {s : State} {m : MethodId} {args : Array Value} {below : List Frame} {meth : Method} {c : Code} {Qw : State → Prop} {D : va_G} {cy : Nat → ClassId} {ads : Nat → Nat} {H0 : Heap} {H : Heap} {locs : List Loc} {pc : Nat} {lsA : Array Slot} {st0 rest : List Value} {a : Array Value} {Q : tkQ}
    (hr : va_Run p l e R s m args below meth c H locs nc ns 0 0 (F0 m pc lsA st0) rest (tkQc D cy ads Q a) (tkA ads)) (hS : va_S (tkA ads) H0 H locs)
    (kk : ∀ (v : Option Value) (h' : tkH) (H1 : Heap) (locs1 : List Loc), Q v h' → va_P D vwCl (tkWs ads cy h') H1 → va_S (tkA ads) H0 H1 locs1 → W p l e R s m args below meth c H1 locs1 nc ns Qw (F0 m (pc + 3) lsA ((v.map (tk_cv ads)).toList ++ rest))) : W p l e R s m args below meth c H locs nc ns Qw (F0 m pc lsA st0) := by
  intro T hT X
  obtain ⟨v, st₀, t, T', L, h0, X', hL, e1, e2, ⟨⟨v', h', hq, hv, hp⟩, hz, hk⟩, st⟩ := hr T hT X
  have hv : v = v'.map (tk_cv ads) := by injection hv
  subst hv
  rw [h0] at hz hk
  obtain ⟨t2, a1, b1⟩ := kk v' h' T'.heap (locs ++ L) hq (by rw [e1]; exact hp)
    ⟨Nat.le_trans hS.1 (by rw [e1]; exact hz), fun q h1 h2 => by rw [e1, hk q (Nat.lt_of_lt_of_le h1 hS.1) h2]; exact hS.2.1 q h1 h2, fun q hq => by
      rcases List.mem_append.mp hq with h | h
      · exact hS.2.2 q h
      · exact hL q h⟩ T' rfl X'
  exact ⟨t2, st t2 a1, b1⟩
theorem tkZ_call {nc ns : Nat} {p : Program} {l : Launch} {e : Env} {R : Room} (hroom9 : nc ≤ R.cells ∧ ns ≤ R.slots) {s : State} {m : MethodId} {args : Array Value} {below : List Frame} {meth : Method} {c : Code} {Qw : State → Prop} {D : va_G} {cy : Nat → ClassId} {ads : Nat → Nat} {nL : Nat} {H0 : Heap} {cc : ByteArray} {oc : Nat} (X : tkX p s m args c cc nL oc D cy ads) {pc : Nat} {ls st : List Value} {h : tkH} {mi n : Nat} {pcs : List Nat} {rt : Option FieldType} {sc : Bool} {d : Instr × Nat} {N : tkN} {sx : Nat × (Nat → Int32)} {call : tkC} {K : tkK} {Q : tkQ} (hd : decode cc pc = .ok d) (hcall : ∀ mi a h Q, call mi a h Q → tkCallOk l R D cy ads mi a h Q) (hr : tkRel oc nL pc pcs rt sc d (.invokeinterface mi n) = true) (hI : tkI sx call K Q (.invokeinterface mi n) ls st h N) (hN : ∀ ls st h, N ls st h → tkGz nc ns p l e R s m args below meth c Qw D cy ads nL H0 (pc + d.2) ls st h) : tkGz nc ns p l e R s m args below meth c Qw D cy ads nL H0 pc ls st h := by
  obtain ⟨hx, hb, hml, hown, hts, hnw, hK, hinj⟩ := X
  unfold tkI at hI
  unfold tkRel at hr
  dsimp only at hI hr
  obtain ⟨hlen, hst, hcl⟩ := hI
  obtain ⟨q, hq, hr⟩ := List.any_eq_true.mp hr
  simp only [Bool.and_eq_true, decide_eq_true_eq] at hr
  obtain ⟨⟨h1, h2⟩, hr⟩ := hr
  have hok := hcall _ _ _ _ hcl
  have hlk := of_decide_eq_true (List.all_eq_true.mp tkMl_ok q hq)
  rw [h1, h2] at hlk
  have hts' : ∀ w ∈ (Cond.tt :: tkWd), w.before args s = true := fun w hw => by
    rcases List.mem_cons.mp hw with rfl | hw
    · rfl
    · exact hts w hw
  intro H locs lsA hP hS hL
  have hstk : st.map (tk_cv ads) = ((st.take n).map (tk_cv ads)) ++ (st.drop n).map (tk_cv ads) := by rw [← List.map_append, List.take_append_drop]
  have hnar : ((st.take n).reverse).length = n := by rw [List.length_reverse, List.length_take]; omega
  have hroom : 2 * (F0 m pc lsA (st.map (tk_cv ads))).monitorRoom + (((st.drop n).map (tk_cv ads)).map fun v => v.category).sum ≤ 8 := by
    exact lv_room (by rw [tk_stW]; exact hst)
  by_cases h9 : mi = 999
  · subst h9
    have hn0 : tkMt[999]? = none := by decide +kernel
    rw [hn0] at hr
    simp only [Bool.and_eq_true, decide_eq_true_eq] at hr
    obtain ⟨⟨⟨-, rfl⟩, rfl⟩, hnest⟩ := hr
    rw [hnest, if_pos rfl] at hlk
    have hy : tkYof 999 = arraycopyName := by unfold tkYof; rw [hn0]
    rw [hy] at hlk
    obtain ⟨hcp, hfr, hlo⟩ := hok.2 rfl
    unfold tk_copy at hcp
    split at hcp
    · rename_i a0 sp a1 dp nn e
      obtain ⟨g1, g2, g3, g4, g5, g6, g7, g8⟩ := hcp
      have e2 : st.take 5 = [.int nn, .int dp, .ref a1, .int sp, .ref a0] := by
        have := congrArg List.reverse e
        rw [List.reverse_reverse] at this
        exact this
      rw [hstk, e2]
      have k0 := tkSh_lt (a := a0) (by rw [g1]; decide)
      have k1 := tkSh_lt (a := a1) (by rw [g2]; decide)
      have ha0 := tkWs_at (ads := ads) (cy := cy) (h := h) k0
      have ha1 := tkWs_at (ads := ads) (cy := cy) (h := h) k1
      rw [tkWc_64 g1] at ha0
      rw [tkWc_64 g2] at ha1
      have hl9 : (((st.drop 5).map (tk_cv ads)).map fun v => v.category).sum + (nativeFrameWords "java/lang/System" "arraycopy" 5 + 11) ≤ R.locals := by
        rw [tk_stW, show nativeFrameWords "java/lang/System" "arraycopy" 5 = 7 by decide +kernel]
        omega
      refine va_copyi (ty := .int) (rest := (st.drop 5).map (tk_cv ads)) hx hb (by rw [hml, hL.1]) hown (hts _ (tkWd_in hlk rfl)) (hts _ (tkWd_mem tk_native.1 rfl)) (hts _ (tkWd_mem tk_native.2.1 rfl)) (hts _ (tkWd_mem tk_native.2.2 rfl)) hK hP (tkWs_D hinj cy h) hS a0 a1 0 0 ha0 ha1 rfl rfl rfl g3 g4 g5 g6 g7 (fun _ _ => rfl) hfr hl9 hd (fun H1 locs1 hP1 hD1 hS1 => ?_)
      rw [tkWs_set (h' := (cp2 h.1 a0 sp.toNatClampNeg a1 dp.toNatClampNeg nn.toNatClampNeg, h.2)) k1 (by rw [tkWc_64 g2]; dsimp only; rw [cp2_self]) (fun j hj => tkWc_ne (cp2_ne _ _ _ _ _ hj) rfl)] at hP1
      exact hN _ _ _ g8 H1 locs1 lsA hP1 hS1 hL
    · exact hcp.elim
  · obtain ⟨md, rm, hmd, hM, hc0, hs0, hfr, hlo, hrv⟩ := hok.1 h9
    obtain ⟨u1, u2, u3, u4, u5, u6, u7, u8⟩ := tkMd_use (tkMt_use hmd)
    rw [hmd] at hr
    simp only [Bool.and_eq_true, decide_eq_true_eq] at hr
    obtain ⟨hna, hr⟩ := hr
    have hy : tkYof mi = md.1.1 := by unfold tkYof; rw [hmd]
    rw [hy] at hlk
    have hS' : CallFix p m c cc nL s args (Cond.tt :: tkWd) (tkCn oc) := ⟨hx, hb, hml, hown, hts'⟩
    have hgood : GoodIn (Cond.tt :: tkWd) (tkCd md :: tkWd) := tkGood u1 rfl
    have hpre : ∀ U : State, U.heap = H → s.WarmedH U.vm → tkPc D cy ads (st.take n).reverse h (((st.take n).reverse).map (tk_cv ads)).toArray U := fun U hU hW => ⟨rfl, by rw [hU]; exact hP, va_K.moved hW.alike hK, fun w hw => by
      obtain ⟨a1, k1, y1, b1, rfl⟩ := tkNl_is hw
      exact va_Nw.warmM hW (hnw _ hw)⟩
    have hpd : ∀ nn, nn = (if md.2.1.2.1 = true then md.2.1.2.2 else md.2.1.2.2 - 1) → md.1.1.cls ≠ "java/lang/invoke/MethodHandle" ∧ md.1.1.cls ≠ "java/lang/invoke/VarHandle" ∧ (parseMethodDescriptor md.1.1.desc).map (fun d => d.parameters.length) = some nn := fun nn e => by rw [e]; exact u6
    by_cases hs : md.2.1.2.1 = true
    · rw [if_pos hs] at hr
      have hr := of_decide_eq_true hr
      subst hr
      rw [hstk]
      have hrev : (st.take n).map (tk_cv ads) = (((st.take n).reverse).map (tk_cv ads)).reverse := by rw [List.map_reverse, List.reverse_reverse]
      have hkk : ∀ (v : Option Value) (h' : tkH) (H1 : Heap) (locs1 : List Loc), N ls (v.toList ++ st.drop n) h' → va_P D vwCl (tkWs ads cy h') H1 → va_S (tkA ads) H0 H1 locs1 → W p l e R s m args below meth c H1 locs1 nc ns Qw (F0 m (pc + 3) lsA ((v.map (tk_cv ads)).toList ++ (st.drop n).map (tk_cv ads))) := fun v h' H1 locs1 q1 q2 q3 => by
        have := hN _ _ _ q1 H1 locs1 lsA q2 q3 hL
        rw [List.map_append] at this
        cases v <;> exact this
      by_cases hn : q.2.2.2.1 = 0
      · rw [if_pos hn] at hlk
        refine tk_callWz (Q := fun v h' => N ls (v.toList ++ st.drop n) h') (va_runS (As := ((st.take n).reverse).map (tk_cv ads)) (rest := (st.drop n).map (tk_cv ads)) (n := n) hS' hM ⟨callB_of (rm := rm) n hts' hgood rfl hc0 hs0 (hts _ (tkWd_mem u2 rfl)) (hts _ (tkWd_in hlk rfl)) (hpd n (by rw [if_pos hs, hna])) ⟨hfr, by omega⟩, hts _ (tkWd_mem (u3 hs) rfl)⟩ ⟨tkPc_blind D cy ads _ h, hpre⟩ rfl (by rw [List.length_map]; exact hnar) hL.1 (by rw [hrev]) (by rw [← hstk]; exact hroom) hd hroom9) hS hkk
      · rw [if_neg hn] at hlk
        refine tk_callWz (Q := fun v h' => N ls (v.toList ++ st.drop n) h') (va_runSN (As := ((st.take n).reverse).map (tk_cv ads)) (rest := (st.drop n).map (tk_cv ads)) (n := n) hS' hM ⟨va_cnB (rm := rm) n hts' hgood rfl hc0 hs0 (hnw _ (tkNl_in hlk)) (hts _ (tkWd_mem u2 rfl)) (hpd n (by rw [if_pos hs, hna])) ⟨hfr, by omega⟩, hts _ (tkWd_mem (u3 hs) rfl), trivial⟩ ⟨tkPc_blind D cy ads _ h, hpre⟩ rfl (by rw [List.length_map]; exact hnar) hL.1 (by rw [hrev]) (by rw [← hstk]; exact hroom) hd hroom9) hS hkk
    · have hs0' : md.2.1.2.1 = false := by simpa using hs
      rw [if_neg hs] at hr
      simp only [Bool.and_eq_true, decide_eq_true_eq] at hr
      obtain ⟨rfl, hn⟩ := hr
      rw [if_pos hn] at hlk
      obtain ⟨w1, w2, w3, w4⟩ := u4 hs0'
      obtain ⟨k, r, ea, ek⟩ := hrv.resolve_left hs
      obtain ⟨TT, NN, hcn⟩ := tkVw_cn w3
      have hk := tkSh_lt (a := k) (by rw [ek]; omega)
      have ha := tkWs_at (ads := ads) (cy := cy) (h := h) hk
      rw [tkWc_o ek w3] at ha
      have e2 : st.take n = r.reverse ++ [.ref k] := by
        have := congrArg List.reverse ea
        rw [List.reverse_reverse, List.reverse_cons] at this
        exact this
      rw [ea] at hM hpre hnar
      have hkk : ∀ (v : Option Value) (h' : tkH) (H1 : Heap) (locs1 : List Loc), N ls (v.toList ++ st.drop n) h' → va_P D vwCl (tkWs ads cy h') H1 → va_S (tkA ads) H0 H1 locs1 → W p l e R s m args below meth c H1 locs1 nc ns Qw (F0 m (pc + 3) lsA ((v.map (tk_cv ads)).toList ++ (st.drop n).map (tk_cv ads))) := fun v h' H1 locs1 q1 q2 q3 => by
        have := hN _ _ _ q1 H1 locs1 lsA q2 q3 hL
        rw [List.map_append] at this
        cases v <;> exact this
      have hrc := va_recv (q0 := k) hK hP hcn ha
      dsimp only at hrc
      rw [← u5] at hrc
      refine tk_callWz (Q := fun v h' => N ls (v.toList ++ st.drop n) h') (va_runV (C := md.1.1.cls) (b := ads k) (As := r.map (tk_cv ads)) (rest := (st.drop n).map (tk_cv ads)) (n := n - 1) hS' hM ⟨callB_of (rm := rm) (n - 1) hts' hgood rfl hc0 hs0 (hts _ (tkWd_mem u2 rfl)) (hts _ (tkWd_in hlk rfl)) (hpd (n - 1) (by rw [if_neg hs, hna])) ⟨hfr, by omega⟩, hts _ (tkWd_mem w1 rfl), hts _ (tkWd_mem w2 rfl)⟩ ⟨tkPc_blind D cy ads _ h, hrc, hpre⟩ rfl (by rw [List.length_map]; simp at hnar; omega) hL.1 (by rw [hstk, e2, List.map_append, List.map_reverse]; simp [tk_cv]) hroom hd hroom9) hS hkk
theorem tkZ_ireturn {nc ns : Nat} {p : Program} {l : Launch} {e : Env} {R : Room} {s : State} {m : MethodId} {args : Array Value} {below : List Frame} {meth : Method} {c : Code} {Qw : State → Prop} {D : va_G} {cy : Nat → ClassId} {ads : Nat → Nat} {nL : Nat} {H0 : Heap} {cc : ByteArray} {oc : Nat} (X : tkX p s m args c cc nL oc D cy ads) {pc : Nat} {ls st : List Value} {h : tkH} {pcs : List Nat} {rt : Option FieldType} {sc : Bool} {d : Instr × Nat} {N : tkN} {sx : Nat × (Nat → Int32)} {call : tkC} {K : tkK} {Q : tkQ} (hd : decode cc pc = .ok d) (hr9 : ∀ (v : Option Value) (h : tkH) (H : Heap) (locs : List Loc) (lsA : Array Slot) (pc : Nat), Q v h → va_P D vwCl (tkWs ads cy h) H → va_S (tkA ads) H0 H locs → tkRk cc pc v rt → W p l e R s m args below meth c H locs nc ns Qw (F0 m pc lsA ((v.map (tk_cv ads)).toList))) (hr : tkRel oc nL pc pcs rt sc d (.ireturn) = true) (hI : tkI sx call K Q (.ireturn) ls st h N) (hN : ∀ ls st h, N ls st h → tkGz nc ns p l e R s m args below meth c Qw D cy ads nL H0 (pc + d.2) ls st h) : tkGz nc ns p l e R s m args below meth c Qw D cy ads nL H0 pc ls st h := by
  obtain ⟨hx, hb, hml, hown, hts, hnw, hK, hinj⟩ := X
  unfold tkI at hI
  unfold tkRel at hr
  dsimp only at hI hr
  split at hI
  · simp only [Bool.and_eq_true, decide_eq_true_eq] at hr
    obtain ⟨rfl, rfl⟩ := hr
    intro H locs lsA hP hS hL
    exact hr9 _ _ H locs lsA pc hI hP hS hd
  · exact hI.elim
theorem tkZ_dreturn {nc ns : Nat} {p : Program} {l : Launch} {e : Env} {R : Room} {s : State} {m : MethodId} {args : Array Value} {below : List Frame} {meth : Method} {c : Code} {Qw : State → Prop} {D : va_G} {cy : Nat → ClassId} {ads : Nat → Nat} {nL : Nat} {H0 : Heap} {cc : ByteArray} {oc : Nat} (X : tkX p s m args c cc nL oc D cy ads) {pc : Nat} {ls st : List Value} {h : tkH} {pcs : List Nat} {rt : Option FieldType} {sc : Bool} {d : Instr × Nat} {N : tkN} {sx : Nat × (Nat → Int32)} {call : tkC} {K : tkK} {Q : tkQ} (hd : decode cc pc = .ok d) (hr9 : ∀ (v : Option Value) (h : tkH) (H : Heap) (locs : List Loc) (lsA : Array Slot) (pc : Nat), Q v h → va_P D vwCl (tkWs ads cy h) H → va_S (tkA ads) H0 H locs → tkRk cc pc v rt → W p l e R s m args below meth c H locs nc ns Qw (F0 m pc lsA ((v.map (tk_cv ads)).toList))) (hr : tkRel oc nL pc pcs rt sc d (.dreturn) = true) (hI : tkI sx call K Q (.dreturn) ls st h N) (hN : ∀ ls st h, N ls st h → tkGz nc ns p l e R s m args below meth c Qw D cy ads nL H0 (pc + d.2) ls st h) : tkGz nc ns p l e R s m args below meth c Qw D cy ads nL H0 pc ls st h := by
  obtain ⟨hx, hb, hml, hown, hts, hnw, hK, hinj⟩ := X
  unfold tkI at hI
  unfold tkRel at hr
  dsimp only at hI hr
  split at hI
  · simp only [Bool.and_eq_true, decide_eq_true_eq] at hr
    obtain ⟨rfl, rfl⟩ := hr
    intro H locs lsA hP hS hL
    exact hr9 _ _ H locs lsA pc hI.2 hP hS ⟨hd, hI.1⟩
  · exact hI.elim
theorem tkZ_lreturn {nc ns : Nat} {p : Program} {l : Launch} {e : Env} {R : Room} {s : State} {m : MethodId} {args : Array Value} {below : List Frame} {meth : Method} {c : Code} {Qw : State → Prop} {D : va_G} {cy : Nat → ClassId} {ads : Nat → Nat} {nL : Nat} {H0 : Heap} {cc : ByteArray} {oc : Nat} (X : tkX p s m args c cc nL oc D cy ads) {pc : Nat} {ls st : List Value} {h : tkH} {pcs : List Nat} {rt : Option FieldType} {sc : Bool} {d : Instr × Nat} {N : tkN} {sx : Nat × (Nat → Int32)} {call : tkC} {K : tkK} {Q : tkQ} (hd : decode cc pc = .ok d) (hr9 : ∀ (v : Option Value) (h : tkH) (H : Heap) (locs : List Loc) (lsA : Array Slot) (pc : Nat), Q v h → va_P D vwCl (tkWs ads cy h) H → va_S (tkA ads) H0 H locs → tkRk cc pc v rt → W p l e R s m args below meth c H locs nc ns Qw (F0 m pc lsA ((v.map (tk_cv ads)).toList))) (hr : tkRel oc nL pc pcs rt sc d (.lreturn) = true) (hI : tkI sx call K Q (.lreturn) ls st h N) (hN : ∀ ls st h, N ls st h → tkGz nc ns p l e R s m args below meth c Qw D cy ads nL H0 (pc + d.2) ls st h) : tkGz nc ns p l e R s m args below meth c Qw D cy ads nL H0 pc ls st h := by
  obtain ⟨hx, hb, hml, hown, hts, hnw, hK, hinj⟩ := X
  unfold tkI at hI
  unfold tkRel at hr
  dsimp only at hI hr
  split at hI
  · simp only [Bool.and_eq_true, decide_eq_true_eq] at hr
    obtain ⟨rfl, rfl⟩ := hr
    intro H locs lsA hP hS hL
    exact hr9 _ _ H locs lsA pc hI hP hS hd
  · exact hI.elim
theorem tkZ_areturn {nc ns : Nat} {p : Program} {l : Launch} {e : Env} {R : Room} {s : State} {m : MethodId} {args : Array Value} {below : List Frame} {meth : Method} {c : Code} {Qw : State → Prop} {D : va_G} {cy : Nat → ClassId} {ads : Nat → Nat} {nL : Nat} {H0 : Heap} {cc : ByteArray} {oc : Nat} (X : tkX p s m args c cc nL oc D cy ads) {pc : Nat} {ls st : List Value} {h : tkH} {pcs : List Nat} {rt : Option FieldType} {sc : Bool} {d : Instr × Nat} {N : tkN} {sx : Nat × (Nat → Int32)} {call : tkC} {K : tkK} {Q : tkQ} (hd : decode cc pc = .ok d) (hr9 : ∀ (v : Option Value) (h : tkH) (H : Heap) (locs : List Loc) (lsA : Array Slot) (pc : Nat), Q v h → va_P D vwCl (tkWs ads cy h) H → va_S (tkA ads) H0 H locs → tkRk cc pc v rt → W p l e R s m args below meth c H locs nc ns Qw (F0 m pc lsA ((v.map (tk_cv ads)).toList))) (hr : tkRel oc nL pc pcs rt sc d (.areturn) = true) (hI : tkI sx call K Q (.areturn) ls st h N) (hN : ∀ ls st h, N ls st h → tkGz nc ns p l e R s m args below meth c Qw D cy ads nL H0 (pc + d.2) ls st h) : tkGz nc ns p l e R s m args below meth c Qw D cy ads nL H0 pc ls st h := by
  obtain ⟨hx, hb, hml, hown, hts, hnw, hK, hinj⟩ := X
  unfold tkI at hI
  unfold tkRel at hr
  dsimp only at hI hr
  split at hI
  · simp only [Bool.and_eq_true, decide_eq_true_eq] at hr
    obtain ⟨rfl, hr⟩ := hr
    split at hr
    · intro H locs lsA hP hS hL
      exact hr9 _ _ H locs lsA pc hI hP hS hd
    · cases hr
  · exact hI.elim
theorem tkZ_return {nc ns : Nat} {p : Program} {l : Launch} {e : Env} {R : Room} {s : State} {m : MethodId} {args : Array Value} {below : List Frame} {meth : Method} {c : Code} {Qw : State → Prop} {D : va_G} {cy : Nat → ClassId} {ads : Nat → Nat} {nL : Nat} {H0 : Heap} {cc : ByteArray} {oc : Nat} (X : tkX p s m args c cc nL oc D cy ads) {pc : Nat} {ls st : List Value} {h : tkH} {pcs : List Nat} {rt : Option FieldType} {sc : Bool} {d : Instr × Nat} {N : tkN} {sx : Nat × (Nat → Int32)} {call : tkC} {K : tkK} {Q : tkQ} (hd : decode cc pc = .ok d) (hr9 : ∀ (v : Option Value) (h : tkH) (H : Heap) (locs : List Loc) (lsA : Array Slot) (pc : Nat), Q v h → va_P D vwCl (tkWs ads cy h) H → va_S (tkA ads) H0 H locs → tkRk cc pc v rt → W p l e R s m args below meth c H locs nc ns Qw (F0 m pc lsA ((v.map (tk_cv ads)).toList))) (hr : tkRel oc nL pc pcs rt sc d (.return_) = true) (hI : tkI sx call K Q (.return_) ls st h N) (hN : ∀ ls st h, N ls st h → tkGz nc ns p l e R s m args below meth c Qw D cy ads nL H0 (pc + d.2) ls st h) : tkGz nc ns p l e R s m args below meth c Qw D cy ads nL H0 pc ls st h := by
  obtain ⟨hx, hb, hml, hown, hts, hnw, hK, hinj⟩ := X
  unfold tkI at hI
  unfold tkRel at hr
  dsimp only at hI hr
  split at hI
  · simp only [Bool.and_eq_true, decide_eq_true_eq] at hr
    obtain ⟨rfl, rfl⟩ := hr
    intro H locs lsA hP hS hL
    exact hr9 none _ H locs lsA pc hI hP hS hd
  · exact hI.elim
theorem tkZ_caload {nc ns : Nat} {p : Program} {l : Launch} {e : Env} {R : Room} {s : State} {m : MethodId} {args : Array Value} {below : List Frame} {meth : Method} {c : Code} {Qw : State → Prop} {D : va_G} {cy : Nat → ClassId} {ads : Nat → Nat} {nL : Nat} {H0 : Heap} {cc : ByteArray} {oc : Nat} (X : tkX p s m args c cc nL oc D cy ads) {pc : Nat} {ls st : List Value} {h : tkH} {pcs : List Nat} {rt : Option FieldType} {sc : Bool} {d : Instr × Nat} {N : tkN} {sx : Nat × (Nat → Int32)} {call : tkC} {K : tkK} {Q : tkQ} (hd : decode cc pc = .ok d) (hscr : sc = true → va_X (ads 1000) sx.1 sx.2 s H0 ∧ ads 1000 < H0.size ∧ ¬ tkA ads (ads 1000)) (hr : tkRel oc nL pc pcs rt sc d (.caload) = true) (hI : tkI sx call K Q (.caload) ls st h N) (hN : ∀ ls st h, N ls st h → tkGz nc ns p l e R s m args below meth c Qw D cy ads nL H0 (pc + d.2) ls st h) : tkGz nc ns p l e R s m args below meth c Qw D cy ads nL H0 pc ls st h := by
  obtain ⟨hx, hb, hml, hown, hts, hnw, hK, hinj⟩ := X
  unfold tkI at hI
  unfold tkRel at hr
  dsimp only at hI hr
  split at hI
  · obtain ⟨rfl, h2, h3⟩ := hI
    simp only [Bool.and_eq_true, decide_eq_true_eq] at hr
    obtain ⟨hs, rfl⟩ := hr
    obtain ⟨g1, g2, g3⟩ := hscr hs
    intro H locs lsA hP hS hL
    exact va_sld hx hb g1 g2 g3 hS h2 hd (hN _ _ _ h3 H locs lsA hP hS hL)
  · exact hI.elim
theorem tkZ_castore {nc ns : Nat} {p : Program} {l : Launch} {e : Env} {R : Room} {s : State} {m : MethodId} {args : Array Value} {below : List Frame} {meth : Method} {c : Code} {Qw : State → Prop} {D : va_G} {cy : Nat → ClassId} {ads : Nat → Nat} {nL : Nat} {H0 : Heap} {cc : ByteArray} {oc : Nat} (X : tkX p s m args c cc nL oc D cy ads) {pc : Nat} {ls st : List Value} {h : tkH} {pcs : List Nat} {rt : Option FieldType} {sc : Bool} {d : Instr × Nat} {N : tkN} {sx : Nat × (Nat → Int32)} {call : tkC} {K : tkK} {Q : tkQ} (hd : decode cc pc = .ok d) (hscr : sc = true → va_X (ads 1000) sx.1 sx.2 s H0 ∧ ads 1000 < H0.size ∧ ¬ tkA ads (ads 1000)) (hr : tkRel oc nL pc pcs rt sc d (.castore) = true) (hI : tkI sx call K Q (.castore) ls st h N) (hN : ∀ ls st h, N ls st h → tkGz nc ns p l e R s m args below meth c Qw D cy ads nL H0 (pc + d.2) ls st h) : tkGz nc ns p l e R s m args below meth c Qw D cy ads nL H0 pc ls st h := by
  obtain ⟨hx, hb, hml, hown, hts, hnw, hK, hinj⟩ := X
  unfold tkI at hI
  unfold tkRel at hr
  dsimp only at hI hr
  split at hI
  · obtain ⟨rfl, h3⟩ := hI
    simp only [Bool.and_eq_true, decide_eq_true_eq] at hr
    obtain ⟨hs, rfl⟩ := hr
    obtain ⟨g1, g2, g3⟩ := hscr hs
    intro H locs lsA hP hS hL
    exact va_slen hx hb g1 g2 g3 hS hd (hN _ _ _ h3 H locs lsA hP hS hL)
  · exact hI.elim
theorem tkI_soundz {nc ns : Nat} {p : Program} {l : Launch} {e : Env} {R : Room} (hroom9 : nc ≤ R.cells ∧ ns ≤ R.slots) {s : State} {m : MethodId} {args : Array Value} {below : List Frame} {meth : Method} {c : Code} {Qw : State → Prop} {D : va_G} {cy : Nat → ClassId} {ads : Nat → Nat} {nL : Nat} {H0 : Heap} {cc : ByteArray} {oc : Nat} (X : tkX p s m args c cc nL oc D cy ads) {pc : Nat} {ls st : List Value} {h : tkH} {a : Instr} {pcs : List Nat} {rt : Option FieldType} {sc : Bool} {d : Instr × Nat} {N : tkN} {sx : Nat × (Nat → Int32)} {call : tkC} {K : tkK} {Q : tkQ} (hd : decode cc pc = .ok d) (hr : tkRel oc nL pc pcs rt sc d a = true) (hI : tkI sx call K Q a ls st h N) (hN : tkTerm a = false → ∀ ls st h, N ls st h → tkGz nc ns p l e R s m args below meth c Qw D cy ads nL H0 (pc + d.2) ls st h) (hKg : ∀ b ls st h, K b ls st h → tkGz nc ns p l e R s m args below meth c Qw D cy ads nL H0 (pcs.getD b 0) ls st h) (hcall : ∀ mi a h Q, call mi a h Q → tkCallOk l R D cy ads mi a h Q) (hr9 : ∀ (v : Option Value) (h : tkH) (H : Heap) (locs : List Loc) (lsA : Array Slot) (pc : Nat), Q v h → va_P D vwCl (tkWs ads cy h) H → va_S (tkA ads) H0 H locs → tkRk cc pc v rt → W p l e R s m args below meth c H locs nc ns Qw (F0 m pc lsA ((v.map (tk_cv ads)).toList))) (hscr : sc = true → va_X (ads 1000) sx.1 sx.2 s H0 ∧ ads 1000 < H0.size ∧ ¬ tkA ads (ads 1000)) : tkGz nc ns p l e R s m args below meth c Qw D cy ads nL H0 pc ls st h := by
  cases a
  case iconst => exact tkZ_iconst X hd hr hI (hN rfl)
  case ldc2_w => exact tkZ_ldc2 X hd hr hI (hN rfl)
  case iload => exact tkZ_iload X hd hr hI (hN rfl)
  case lload => exact tkZ_lload X hd hr hI (hN rfl)
  case aload => exact tkZ_aload X hd hr hI (hN rfl)
  case istore => exact tkZ_istore X hd hr hI (hN rfl)
  case astore => exact tkZ_astore X hd hr hI (hN rfl)
  case lstore => exact tkZ_lstore X hd hr hI (hN rfl)
  case iinc => exact tkZ_iinc X hd hr hI (hN rfl)
  case getfield => exact tkZ_getfield X hd hr hI (hN rfl)
  case getstatic => exact tkZ_getref X hd hr hI (hN rfl)
  case putfield => exact tkZ_putfield X hd hr hI (hN rfl)
  case putstatic => exact tkZ_putbool X hd hr hI (hN rfl)
  case if_icmp => exact tkZ_if_icmp X hd hKg hr hI (hN rfl)
  case ifCond => exact tkZ_ifCond X hd hKg hr hI (hN rfl)
  case invokeinterface => exact tkZ_call hroom9 X hd hcall hr hI (hN rfl)
  case caload => exact tkZ_caload X hd hscr hr hI (hN rfl)
  case castore => exact tkZ_castore X hd hscr hr hI (hN rfl)
  case iadd => have e : d = (.iadd, 1) := of_decide_eq_true (Bool.and_eq_true_iff.mp (show (tkPlain.contains .iadd && decide (d = (.iadd, 1))) = true from hr)).2; subst e; exact tkZ_iadd X hd hI (hN rfl)
  case isub => have e : d = (.isub, 1) := of_decide_eq_true (Bool.and_eq_true_iff.mp (show (tkPlain.contains .isub && decide (d = (.isub, 1))) = true from hr)).2; subst e; exact tkZ_isub X hd hI (hN rfl)
  case imul => have e : d = (.imul, 1) := of_decide_eq_true (Bool.and_eq_true_iff.mp (show (tkPlain.contains .imul && decide (d = (.imul, 1))) = true from hr)).2; subst e; exact tkZ_imul X hd hI (hN rfl)
  case iand => have e : d = (.iand, 1) := of_decide_eq_true (Bool.and_eq_true_iff.mp (show (tkPlain.contains .iand && decide (d = (.iand, 1))) = true from hr)).2; subst e; exact tkZ_iand X hd hI (hN rfl)
  case ior => have e : d = (.ior, 1) := of_decide_eq_true (Bool.and_eq_true_iff.mp (show (tkPlain.contains .ior && decide (d = (.ior, 1))) = true from hr)).2; subst e; exact tkZ_ior X hd hI (hN rfl)
  case ixor => have e : d = (.ixor, 1) := of_decide_eq_true (Bool.and_eq_true_iff.mp (show (tkPlain.contains .ixor && decide (d = (.ixor, 1))) = true from hr)).2; subst e; exact tkZ_ixor X hd hI (hN rfl)
  case ishl => have e : d = (.ishl, 1) := of_decide_eq_true (Bool.and_eq_true_iff.mp (show (tkPlain.contains .ishl && decide (d = (.ishl, 1))) = true from hr)).2; subst e; exact tkZ_ishl X hd hI (hN rfl)
  case ishr => have e : d = (.ishr, 1) := of_decide_eq_true (Bool.and_eq_true_iff.mp (show (tkPlain.contains .ishr && decide (d = (.ishr, 1))) = true from hr)).2; subst e; exact tkZ_ishr X hd hI (hN rfl)
  case iushr => have e : d = (.iushr, 1) := of_decide_eq_true (Bool.and_eq_true_iff.mp (show (tkPlain.contains .iushr && decide (d = (.iushr, 1))) = true from hr)).2; subst e; exact tkZ_iushr X hd hI (hN rfl)
  case idiv => have e : d = (.idiv, 1) := of_decide_eq_true (Bool.and_eq_true_iff.mp (show (tkPlain.contains .idiv && decide (d = (.idiv, 1))) = true from hr)).2; subst e; exact tkZ_idiv X hd hI (hN rfl)
  case irem => have e : d = (.irem, 1) := of_decide_eq_true (Bool.and_eq_true_iff.mp (show (tkPlain.contains .irem && decide (d = (.irem, 1))) = true from hr)).2; subst e; exact tkZ_irem X hd hI (hN rfl)
  case ladd => have e : d = (.ladd, 1) := of_decide_eq_true (Bool.and_eq_true_iff.mp (show (tkPlain.contains .ladd && decide (d = (.ladd, 1))) = true from hr)).2; subst e; exact tkZ_ladd X hd hI (hN rfl)
  case lmul => have e : d = (.lmul, 1) := of_decide_eq_true (Bool.and_eq_true_iff.mp (show (tkPlain.contains .lmul && decide (d = (.lmul, 1))) = true from hr)).2; subst e; exact tkZ_lmul X hd hI (hN rfl)
  case land => have e : d = (.land, 1) := of_decide_eq_true (Bool.and_eq_true_iff.mp (show (tkPlain.contains .land && decide (d = (.land, 1))) = true from hr)).2; subst e; exact tkZ_land X hd hI (hN rfl)
  case lor => have e : d = (.lor, 1) := of_decide_eq_true (Bool.and_eq_true_iff.mp (show (tkPlain.contains .lor && decide (d = (.lor, 1))) = true from hr)).2; subst e; exact tkZ_lor X hd hI (hN rfl)
  case lshl => have e : d = (.lshl, 1) := of_decide_eq_true (Bool.and_eq_true_iff.mp (show (tkPlain.contains .lshl && decide (d = (.lshl, 1))) = true from hr)).2; subst e; exact tkZ_lshl X hd hI (hN rfl)
  case lushr => have e : d = (.lushr, 1) := of_decide_eq_true (Bool.and_eq_true_iff.mp (show (tkPlain.contains .lushr && decide (d = (.lushr, 1))) = true from hr)).2; subst e; exact tkZ_lushr X hd hI (hN rfl)
  case lcmp => have e : d = (.lcmp, 1) := of_decide_eq_true (Bool.and_eq_true_iff.mp (show (tkPlain.contains .lcmp && decide (d = (.lcmp, 1))) = true from hr)).2; subst e; exact tkZ_lcmp X hd hI (hN rfl)
  case i2l => have e : d = (.i2l, 1) := of_decide_eq_true (Bool.and_eq_true_iff.mp (show (tkPlain.contains .i2l && decide (d = (.i2l, 1))) = true from hr)).2; subst e; exact tkZ_i2l X hd hI (hN rfl)
  case iaload => have e : d = (.iaload, 1) := of_decide_eq_true (Bool.and_eq_true_iff.mp (show (tkPlain.contains .iaload && decide (d = (.iaload, 1))) = true from hr)).2; subst e; exact tkZ_iaload X hd hI (hN rfl)
  case baload => have e : d = (.baload, 1) := of_decide_eq_true (Bool.and_eq_true_iff.mp (show (tkPlain.contains .baload && decide (d = (.baload, 1))) = true from hr)).2; subst e; exact tkZ_baload X hd hI (hN rfl)
  case laload => have e : d = (.laload, 1) := of_decide_eq_true (Bool.and_eq_true_iff.mp (show (tkPlain.contains .laload && decide (d = (.laload, 1))) = true from hr)).2; subst e; exact tkZ_laload X hd hI (hN rfl)
  case aaload => have e : d = (.aaload, 1) := of_decide_eq_true (Bool.and_eq_true_iff.mp (show (tkPlain.contains .aaload && decide (d = (.aaload, 1))) = true from hr)).2; subst e; exact tkZ_aaload X hd hI (hN rfl)
  case iastore => have e : d = (.iastore, 1) := of_decide_eq_true (Bool.and_eq_true_iff.mp (show (tkPlain.contains .iastore && decide (d = (.iastore, 1))) = true from hr)).2; subst e; exact tkZ_iastore X hd hI (hN rfl)
  case bastore => have e : d = (.bastore, 1) := of_decide_eq_true (Bool.and_eq_true_iff.mp (show (tkPlain.contains .bastore && decide (d = (.bastore, 1))) = true from hr)).2; subst e; exact tkZ_bastore X hd hI (hN rfl)
  case lastore => have e : d = (.lastore, 1) := of_decide_eq_true (Bool.and_eq_true_iff.mp (show (tkPlain.contains .lastore && decide (d = (.lastore, 1))) = true from hr)).2; subst e; exact tkZ_lastore X hd hI (hN rfl)
  case arraylength => have e : d = (.arraylength, 1) := of_decide_eq_true (Bool.and_eq_true_iff.mp (show (tkPlain.contains .arraylength && decide (d = (.arraylength, 1))) = true from hr)).2; subst e; exact tkZ_arraylength X hd hI (hN rfl)
  case dup => have e : d = (.dup, 1) := of_decide_eq_true (Bool.and_eq_true_iff.mp (show (tkPlain.contains .dup && decide (d = (.dup, 1))) = true from hr)).2; subst e; exact tkZ_dup X hd hI (hN rfl)
  case dup2 => have e : d = (.dup2, 1) := of_decide_eq_true (Bool.and_eq_true_iff.mp (show (tkPlain.contains .dup2 && decide (d = (.dup2, 1))) = true from hr)).2; subst e; exact tkZ_dup2 X hd hI (hN rfl)
  case pop => have e : d = (.pop, 1) := of_decide_eq_true (Bool.and_eq_true_iff.mp (show (tkPlain.contains .pop && decide (d = (.pop, 1))) = true from hr)).2; subst e; exact tkZ_pop X hd hI (hN rfl)
  case goto => exact tkZ_goto (N := fun _ _ _ => False) (sx := sx) (call := call) (Q := Q) X hd hKg hr hI (fun _ _ _ q => q.elim)
  case tableswitch => exact tkZ_tableswitch (N := fun _ _ _ => False) (sx := sx) (call := call) (Q := Q) X hd hKg hr hI (fun _ _ _ q => q.elim)
  case ireturn => exact tkZ_ireturn (N := fun _ _ _ => False) (sx := sx) (call := call) (K := K) X hd hr9 hr hI (fun _ _ _ q => q.elim)
  case dreturn => exact tkZ_dreturn (N := fun _ _ _ => False) (sx := sx) (call := call) (K := K) X hd hr9 hr hI (fun _ _ _ q => q.elim)
  case lreturn => exact tkZ_lreturn (N := fun _ _ _ => False) (sx := sx) (call := call) (K := K) X hd hr9 hr hI (fun _ _ _ q => q.elim)
  case areturn => exact tkZ_areturn (N := fun _ _ _ => False) (sx := sx) (call := call) (K := K) X hd hr9 hr hI (fun _ _ _ q => q.elim)
  case return_ => exact tkZ_return (N := fun _ _ _ => False) (sx := sx) (call := call) (K := K) X hd hr9 hr hI (fun _ _ _ q => q.elim)
  all_goals exact hI.elim
theorem tkE_soundz {nc ns : Nat} {p : Program} {l : Launch} {e : Env} {R : Room} (hroom9 : nc ≤ R.cells ∧ ns ≤ R.slots) {s : State} {m : MethodId} {args : Array Value} {below : List Frame} {meth : Method} {c : Code} {Qw : State → Prop} {D : va_G} {cy : Nat → ClassId} {ads : Nat → Nat} {nL : Nat} {H0 : Heap} {cc : ByteArray} {oc : Nat} (X : tkX p s m args c cc nL oc D cy ads) {pcs : List Nat} {rt : Option FieldType} {sc : Bool} {sx : Nat × (Nat → Int32)} {call : tkC} {K : tkK} {Q : tkQ} (hKg : ∀ b ls st h, K b ls st h → tkGz nc ns p l e R s m args below meth c Qw D cy ads nL H0 (pcs.getD b 0) ls st h) (hcall : ∀ mi a h Q, call mi a h Q → tkCallOk l R D cy ads mi a h Q) (hr9 : ∀ (v : Option Value) (h : tkH) (H : Heap) (locs : List Loc) (lsA : Array Slot) (pc : Nat), Q v h → va_P D vwCl (tkWs ads cy h) H → va_S (tkA ads) H0 H locs → tkRk cc pc v rt → W p l e R s m args below meth c H locs nc ns Qw (F0 m pc lsA ((v.map (tk_cv ads)).toList))) (hscr : sc = true → va_X (ads 1000) sx.1 sx.2 s H0 ∧ ads 1000 < H0.size ∧ ¬ tkA ads (ads 1000)) {nb : Nat} :
    ∀ (is : List Instr) (pc : Nat) (ls st : List Value) (h : tkH), tkChkB cc oc nL pcs rt sc (pcs.getD nb 0) is pc = true → tkE sx call K Q nb is ls st h → tkGz nc ns p l e R s m args below meth c Qw D cy ads nL H0 pc ls st h := by
  intro is
  induction is with
  | nil =>
    intro pc ls st h hc hE
    have e : pc = pcs.getD nb 0 := of_decide_eq_true hc
    subst e
    exact hKg _ _ _ _ hE
  | cons a is ih =>
    intro pc ls st h hc hE
    unfold tkChkB at hc
    split at hc
    · rename_i d hd
      simp only [Bool.and_eq_true, Bool.or_eq_true] at hc
      refine tkI_soundz hroom9 X hd hc.1 hE (fun ht ls st h q => ?_) hKg hcall hr9 hscr
      refine ih _ _ _ _ (hc.2.resolve_left (by rw [ht]; decide)) q
    · cases hc
theorem tkR_soundz {nc ns : Nat} {p : Program} {l : Launch} {e : Env} {R : Room} (hroom9 : nc ≤ R.cells ∧ ns ≤ R.slots) {s : State} {m : MethodId} {args : Array Value} {below : List Frame} {meth : Method} {c : Code} {Qw : State → Prop} {D : va_G} {cy : Nat → ClassId} {ads : Nat → Nat} {nL : Nat} {H0 : Heap} {cc : ByteArray} {oc : Nat} (X : tkX p s m args c cc nL oc D cy ads) {pcs : List Nat} {rt : Option FieldType} {sc : Bool} {sx : Nat × (Nat → Int32)} {call : tkC} {M : List (List Instr)} {Q : tkQ} (hcall : ∀ mi a h Q, call mi a h Q → tkCallOk l R D cy ads mi a h Q) (hr9 : ∀ (v : Option Value) (h : tkH) (H : Heap) (locs : List Loc) (lsA : Array Slot) (pc : Nat), Q v h → va_P D vwCl (tkWs ads cy h) H → va_S (tkA ads) H0 H locs → tkRk cc pc v rt → W p l e R s m args below meth c H locs nc ns Qw (F0 m pc lsA ((v.map (tk_cv ads)).toList))) (hscr : sc = true → va_X (ads 1000) sx.1 sx.2 s H0 ∧ ads 1000 < H0.size ∧ ¬ tkA ads (ads 1000))
    (hchk : tkChk cc oc nL pcs rt sc 0 M = true) {b : Nat} {ls st : List Value} {h : tkH} (H9 : tkR sx call M Q b ls st h) : tkGz nc ns p l e R s m args below meth c Qw D cy ads nL H0 (pcs.getD b 0) ls st h := by
  refine H9 (fun b ls st h => tkGz nc ns p l e R s m args below meth c Qw D cy ads nL H0 (pcs.getD b 0) ls st h) ?_
  intro b ls st h q
  unfold tkB at q
  split at q
  · rename_i is hb
    have hk := tkChk_at M 0 b is hchk hb
    rw [Nat.zero_add] at hk
    exact tkE_soundz hroom9 X (fun _ _ _ _ z => z) hcall hr9 hscr is _ _ _ _ hk q
  · exact q.elim
