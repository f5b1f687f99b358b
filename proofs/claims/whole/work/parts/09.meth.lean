theorem tkE_sound {p : Program} {l : Launch} {e : Env} {R : Room} {s : State} {m : MethodId} {args : Array Value} {below : List Frame} {meth : Method} {c : Code} {Qw : State → Prop} {D : va_G} {cy : Nat → ClassId} {ads : Nat → Nat} {nL : Nat} {H0 : Heap} {cc : ByteArray} {oc : Nat} (X : tkX p s m args c cc nL oc D cy ads) {pcs : List Nat} {rt : Option FieldType} {sc : Bool} {sx : Nat × (Nat → Int32)} {call : tkC} {K : tkK} {Q : tkQ} (hKg : ∀ b ls st h, K b ls st h → tkG p l e R s m args below meth c Qw D cy ads nL H0 (pcs.getD b 0) ls st h) (hcall : ∀ mi a h Q, call mi a h Q → tkCallOk l R D cy ads mi a h Q) (hr9 : ∀ (v : Option Value) (h : tkH) (H : Heap) (locs : List Loc) (lsA : Array Slot) (pc : Nat), Q v h → va_P D vwCl (tkWs ads cy h) H → va_S (tkA ads) H0 H locs → tkRk cc pc v rt → W p l e R s m args below meth c H locs 0 0 Qw (F0 m pc lsA ((v.map (tk_cv ads)).toList))) (hscr : sc = true → va_X (ads 1000) sx.1 sx.2 s H0 ∧ ads 1000 < H0.size ∧ ¬ tkA ads (ads 1000)) {nb : Nat} :
    ∀ (is : List Instr) (pc : Nat) (ls st : List Value) (h : tkH), tkChkB cc oc nL pcs rt sc (pcs.getD nb 0) is pc = true → tkE sx call K Q nb is ls st h → tkG p l e R s m args below meth c Qw D cy ads nL H0 pc ls st h := by
  intro is
  induction is with
  | nil =>
    intro pc ls st h hc hE
    have e : pc = pcs.getD nb 0 := of_decide_eq_true hc
    subst e
    exact hKg _ _ _ _ hE
  | cons a is ih =>
    intro pc ls st h hc hE
    unfold tkChkB at hc
    split at hc
    · rename_i d hd
      simp only [Bool.and_eq_true, Bool.or_eq_true] at hc
      refine tkI_sound X hd hc.1 hE (fun ht ls st h q => ?_) hKg hcall hr9 hscr
      refine ih _ _ _ _ (hc.2.resolve_left (by rw [ht]; decide)) q
    · cases hc
theorem tkChk_at {cc : ByteArray} {oc nL : Nat} {pcs : List Nat} {rt : Option FieldType} {sc : Bool} : ∀ (bl : List (List Instr)) (b i : Nat) (is : List Instr), tkChk cc oc nL pcs rt sc b bl = true → bl[i]? = some is → tkChkB cc oc nL pcs rt sc (pcs.getD (b + i + 1) 0) is (pcs.getD (b + i) 0) = true := by
  intro bl
  induction bl with
  | nil => intro b i is _ h; cases h
  | cons x bl ih =>
    intro b i is hc hi
    unfold tkChk at hc
    rw [Bool.and_eq_true] at hc
    cases i with
    | zero => cases hi; exact hc.1
    | succ i =>
      have := ih (b + 1) i is hc.2 hi
      rw [show b + 1 + i = b + (i + 1) by omega] at this
      exact this
theorem tkR_sound {p : Program} {l : Launch} {e : Env} {R : Room} {s : State} {m : MethodId} {args : Array Value} {below : List Frame} {meth : Method} {c : Code} {Qw : State → Prop} {D : va_G} {cy : Nat → ClassId} {ads : Nat → Nat} {nL : Nat} {H0 : Heap} {cc : ByteArray} {oc : Nat} (X : tkX p s m args c cc nL oc D cy ads) {pcs : List Nat} {rt : Option FieldType} {sc : Bool} {sx : Nat × (Nat → Int32)} {call : tkC} {M : List (List Instr)} {Q : tkQ} (hcall : ∀ mi a h Q, call mi a h Q → tkCallOk l R D cy ads mi a h Q) (hr9 : ∀ (v : Option Value) (h : tkH) (H : Heap) (locs : List Loc) (lsA : Array Slot) (pc : Nat), Q v h → va_P D vwCl (tkWs ads cy h) H → va_S (tkA ads) H0 H locs → tkRk cc pc v rt → W p l e R s m args below meth c H locs 0 0 Qw (F0 m pc lsA ((v.map (tk_cv ads)).toList))) (hscr : sc = true → va_X (ads 1000) sx.1 sx.2 s H0 ∧ ads 1000 < H0.size ∧ ¬ tkA ads (ads 1000))
    (hchk : tkChk cc oc nL pcs rt sc 0 M = true) {b : Nat} {ls st : List Value} {h : tkH} (H9 : tkR sx call M Q b ls st h) : tkG p l e R s m args below meth c Qw D cy ads nL H0 (pcs.getD b 0) ls st h := by
  refine H9 (fun b ls st h => tkG p l e R s m args below meth c Qw D cy ads nL H0 (pcs.getD b 0) ls st h) ?_
  intro b ls st h q
  unfold tkB at q
  split at q
  · rename_i is hb
    have hk := tkChk_at M 0 b is hchk hb
    rw [Nat.zero_add] at hk
    exact tkE_sound X (fun _ _ _ _ z => z) hcall hr9 hscr is _ _ _ _ hk q
  · exact q.elim
theorem tk_ofWF {l : Launch} {y : MethodName} {ws ws' : List Cond} {rm : Room} {Pc : Array Value → State → Prop} {Qc : Array Value → State → Outcome → State → Prop} {mc ms : Nat} {free : Addr → Prop} {cc : ByteArray} {maxL : Nat} {ret : Option FieldType}
    (hy : plainFor y = true) (hw : ws = Cond.code y cc maxL ret :: ws')
    (body : ∀ p e s m args below meth c s₁, BodyLoose p l y (headSpec ws rm) cc maxL ret e s m args below meth c s₁ → c.maxLocals = maxL → Pc args s →
      W p l e (headSpec ws rm).room s m args below meth c s.heap [] 0 0 (MQ below Qc args s mc ms free) (entryFrame m args maxL)) : Met l y ws rm Pc Qc mc ms free := by
  refine MetFree.of_bodySF (code := cc) (maxLocals := maxL) (ret := ret) hy ?_ ?_
  · intro args s m h hn
    obtain ⟨meth, c, h1, h2, h3, h4, h5, h6, -, -⟩ := Cond.code_spec hn (atoms_spec (ws := ws) h _ (by rw [hw]; exact List.mem_cons_self))
    exact ⟨meth, c, h1, h2, h3, h4, h5, h6⟩
  · intro p e s m args below meth c s₁ B hml hP _
    have hh0 : s₁.heap = s.heap := by rw [B.state]; rfl
    obtain ⟨t, a1, o, b1, b2, b3⟩ := body p e s m args below meth c s₁ B hml hP s₁ hh0 (Stand.of_body B)
    exact ⟨t, o, a1, b1, b2, ⟨b3.1, b3.2⟩⟩
def tkRm (d : Nat) : Room := { frames := d, cells := 0, slots := 0, locals := 38 * d }
def tkOk (T : List (Nat × Nat × List (List Instr))) : Prop := ∀ (mi : Nat) (x : Nat × Nat × List (List Instr)), T[mi]? = some x → ∃ (md : tkMd) (pcs : List Nat), tkMt[mi]? = some md ∧ x.1 = md.1.2.1 ∧ x.2.1 = (if md.2.1.2.1 = true then 99 else md.2.1.1) ∧ tkChk (tkCodeAt md.2.2.1) md.2.1.1 md.1.2.1 pcs md.1.2.2 false 0 x.2.2 = true ∧ pcs.getD 0 0 = 0
theorem tk_sl_len (ads : Nat → Nat) : ∀ a : List Value, (lg_sl (a.map (tk_cv ads))).length = (tk_args a).length := by
  intro a
  induction a with
  | nil => rfl
  | cons v l ih =>
    unfold lg_sl at ih ⊢
    simp only [List.map_cons, List.flatMap_cons, List.length_append, tk_cv_cat, tk_args, ih]
    by_cases h : v.category = 2
    · rw [if_pos h, if_pos h]; simp; omega
    · rw [if_neg h, if_neg h]; simp; omega
theorem lget_rep (n i : Nat) : lget (List.replicate n .null) i = .null := by
  induction n generalizing i with
  | zero => rfl
  | succ n ih =>
    cases i with
    | zero => rfl
    | succ i => exact ih i
theorem tk_args_mem (ads : Nat → Nat) (n : Nat) : ∀ (a : List Value) (k i : Nat), lget (tk_args a ++ List.replicate n .null) i ≠ .null → (k + i, tk_cv ads (lget (tk_args a ++ List.replicate n .null) i)) ∈ lv_args k (a.map (tk_cv ads)) := by
  intro a
  induction a with
  | nil => intro k i h; exact absurd (lget_rep n i) h
  | cons v l ih =>
    intro k i h
    rw [List.map_cons]
    unfold lv_args
    rw [tk_cv_cat]
    unfold tk_args at h ⊢
    by_cases hc : v.category = 2
    · rw [if_pos hc] at h ⊢
      rw [if_pos hc]
      match i with
      | 0 => exact List.mem_cons_self
      | 1 => exact absurd rfl h
      | i + 2 =>
        refine List.mem_cons_of_mem _ ?_
        have := ih (k + 2) i h
        rw [show k + (i + 2) = k + 2 + i by omega]
        exact this
    · rw [if_neg hc] at h ⊢
      rw [if_neg hc]
      match i with
      | 0 => exact List.mem_cons_self
      | i + 1 =>
        refine List.mem_cons_of_mem _ ?_
        have := ih (k + 1) i h
        rw [show k + (i + 1) = k + 1 + i by omega]
        exact this
theorem tkL_entry (ads : Nat → Nat) {n : Nat} {a : List Value} (h : (tk_args a).length ≤ n) : tkL ads n ((lg_sl (a.map (tk_cv ads)) ++ List.replicate (n - (lg_sl (a.map (tk_cv ads))).length) Slot.unset).toArray) (tk_lcl n a) := by
  have hl := lv_entry (a.map (tk_cv ads)) (n := n) (by rw [tk_sl_len]; exact h)
  refine ⟨hl.1, hl.2.1, ?_, fun i hi => ?_⟩
  · unfold tk_lcl
    rw [List.length_append, List.length_replicate]
    omega
  · have := tk_args_mem ads _ a 0 i hi
    rw [Nat.zero_add] at this
    exact hl.2.2 _ this
theorem tkCall_ok {l : Launch} {D : va_G} {cy ads : Nat → Nat} {T : List (Nat × Nat × List (List Instr))} {d : Nat}
    (ih : ∀ k, k < d → ∀ (mi : Nat) (a : List Value) (h : tkH) (Q : tkQ), mi ≠ 999 → tkM T (k + 1) mi a h Q → ∃ md : tkMd, tkMt[mi]? = some md ∧ Met l md.1.1 (tkCd md :: tkWd) (tkRm k) (tkPc D cy ads a h) (tkQc D cy ads Q) 0 0 (tkA ads) ∧ (md.2.1.2.1 = true ∨ ∃ k r, a = .ref k :: r ∧ (tkSh k).1 = md.2.1.1))
    {R : Room} (hf : d ≤ R.frames) (hl : d ≠ 0 → 38 * (d - 1) + 30 ≤ R.locals) : ∀ mi a h Q, tkM T d mi a h Q → tkCallOk l R D cy ads mi a h Q := by
  intro mi a h Q H
  cases d with
  | zero => exact H.elim
  | succ d =>
    refine ⟨fun h9 => ?_, fun h9 => ?_⟩
    · obtain ⟨md, h1, h2, h3⟩ := ih d (Nat.lt_succ_self d) mi a h Q h9 H
      exact ⟨md, tkRm d, h1, h2, rfl, rfl, hf, by have := hl (by omega); show 30 + 38 * d ≤ _; omega, h3⟩
    · subst h9
      have H : tk_copy a h Q := by
        unfold tkM at H
        rw [if_pos rfl] at H
        exact H
      have := hl (by omega)
      exact ⟨H, by omega, by omega⟩
theorem tkM_sound {T : List (Nat × Nat × List (List Instr))} (hT : tkOk T) (l : Launch) (D : va_G) (cy ads : Nat → Nat) (hinj : ∀ i j, i < 128 → j < 128 → ads i = ads j → i = j) :
    ∀ (d mi : Nat) (a : List Value) (h : tkH) (Q : tkQ), mi ≠ 999 → tkM T (d + 1) mi a h Q → ∃ md : tkMd, tkMt[mi]? = some md ∧ Met l md.1.1 (tkCd md :: tkWd) (tkRm d) (tkPc D cy ads a h) (tkQc D cy ads Q) 0 0 (tkA ads) ∧ (md.2.1.2.1 = true ∨ ∃ k r, a = .ref k :: r ∧ (tkSh k).1 = md.2.1.1) := by
  intro d
  induction d using Nat.strongRecOn with
  | ind d ih =>
  intro mi a h Q h9 H
  have H : if mi = 999 then tk_copy a h Q else match T[mi]? with
    | some x => tkRcv x.2.1 a ∧ (tk_args a).length ≤ x.1 ∧ tkR (0, fun _ => 0) (tkM T d) x.2.2 Q 0 (tk_lcl x.1 a) [] h
    | none => False := H
  rw [if_neg h9] at H
  split at H
  case h_2 => exact H.elim
  rename_i x hx
  obtain ⟨hrv, hla, H⟩ := H
  obtain ⟨md, pcs, hmd, e1, e2, hchk, hp0⟩ := hT mi x hx
  obtain ⟨u1, u2, u3, u4, u5, u6, u7, u8⟩ := tkMd_use (tkMt_use hmd)
  refine ⟨md, hmd, ?_, ?_⟩
  case refine_2 =>
    by_cases hs : md.2.1.2.1 = true
    · exact Or.inl hs
    · refine Or.inr ?_
      rw [if_neg hs] at e2
      rcases hrv with q | ⟨k, r, q1, q2⟩
      · have := (u4 (by simpa using hs)).2.2.1
        omega
      · exact ⟨k, r, q1, by rw [q2, e2]⟩
  refine tk_ofWF (cc := tkCodeAt md.2.2.1) (maxL := md.1.2.1) (ret := md.1.2.2) u7 rfl ?_
  intro p e s m args below meth c s₁ B hml hv
  obtain ⟨rfl, hP, hK, hN⟩ := hv
  have hts := atoms_spec (ws := tkCd md :: tkWd) B.pre
  have hown : s.vm.findClass md.1.1.cls = some m.cls := findClass_of_methodNamed B.named
  have hr := B.returns
  have hlocks := B.notSynchronized
  rw [u5] at hown
  have X : tkX p s m ((a.map (tk_cv ads)).toArray) c (tkCodeAt md.2.2.1) md.1.2.1 md.2.1.1 D cy ads := ⟨B.exec, B.bytes, hml, hown, fun w hw => hts w (List.mem_cons_of_mem _ hw), hN, hK, hinj⟩
  rw [lg_entry_eq]
  rw [e1] at hla H
  have hL := tkL_entry ads hla
  have G := tkR_sound (e := e) (R := tkRm d) (l := l) (below := below) (meth := meth) (Qw := MQ below (tkQc D cy ads Q) (a.map (tk_cv ads)).toArray s 0 0 (tkA ads)) (H0 := s.heap) X (sc := false) (call := tkM T d) (Q := Q) (rt := md.1.2.2) (pcs := pcs)
    (tkCall_ok (d := d) (fun k hk mi a h Q => ih k hk mi a h Q) (Nat.le_refl _) (fun q => by show 38 * (d - 1) + 30 ≤ 38 * d; omega)) ?_ (fun q => by cases q) hchk H
  · rw [hp0] at G
    exact G s.heap [] _ hP va_S.rf hL
  · intro v h2 H locs lsA pc hQ hP2 hS2 hk
    have hq : ∀ t : State, t.heap = H → s.WarmedH t.vm → tkQc D cy ads Q (a.map (tk_cv ads)).toArray s (.returned (v.map (tk_cv ads))) t := fun t ht hW => ⟨⟨v, h2, hQ, rfl, by rw [ht]; exact hP2⟩, hS2.F ht⟩
    unfold tkRk at hk
    split at hk
    · rename_i x hrt
      exact W.iret B.exec B.bytes (by rw [hr, hrt]) hq hS2.2.2 hk
    · rename_i x hrt
      refine W.zret B.exec B.bytes (ty := .boolean) (by rw [hr, hrt]) ?_ hq hS2.2.2 hk.1
      rcases hk.2 with q | q <;> rw [q] <;> rfl
    · rename_i x hrt
      exact W.lret B.exec B.bytes (by rw [hr, hrt]) hq hS2.2.2 hk
    · rename_i x cn hrt
      exact W.aret B.exec B.bytes (rt := .object cn) (by rw [hr, hrt]) (Or.inl ⟨cn, rfl⟩) (Or.inr ⟨_, rfl⟩) hq hS2.2.2 hk
    · rename_i hrt
      exact W.vret B.exec B.bytes (by rw [hr, hrt]) hq hS2.2.2 hk
    · exact hk.elim

