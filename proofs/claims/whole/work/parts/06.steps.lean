/-! the words that every method has; links by nest go beside them -/
def tkWd : List Cond := lw_tbl.filter goodWord
def tkNl : List Cond := lw_tbl.filter (fun w => match w with | .methodLinkNest .. => true | _ => false)
theorem tkWd_good : ∀ w ∈ tkWd, goodWord w = true := fun w h => (List.mem_filter.mp h).2
theorem tkWd_in {i : Nat} {w : Cond} (h : lw_tbl[i]? = some w) (hg : goodWord w = true) : w ∈ tkWd := List.mem_filter.mpr ⟨List.mem_of_getElem? h, hg⟩
theorem tkWd_mem {w : Cond} (h : w ∈ lw_tbl) (hg : goodWord w = true) : w ∈ tkWd := List.mem_filter.mpr ⟨h, hg⟩
theorem tkNl_in {i k : Nat} {a h : String} {y : MethodName} (q : lw_tbl[i]? = some (.methodLinkNest a k y h)) : Cond.methodLinkNest a k y h ∈ tkNl := List.mem_filter.mpr ⟨List.mem_of_getElem? q, rfl⟩
def tkPlain : List Instr := [.iadd, .isub, .imul, .iand, .ior, .ixor, .ishl, .ishr, .iushr, .idiv, .irem, .ladd, .lmul, .land, .lor, .lshl, .lushr, .lcmp, .i2l, .iaload, .baload, .laload, .aaload, .iastore, .bastore, .lastore, .arraylength, .dup, .dup2, .pop]
def tkPut (n : Nat) (ty : FieldType) : Bool := match vwCl[n / 64]? with
  | some (_, T, _) => decide (parseFieldDescriptor (T (n % 64)).2.2.1 = some ty) && !(T (n % 64)).2.2.2 && decide ((tkFk (n / 64)).getD (n % 64) 0 ≠ 2)
  | none => false
/-- does the instruction d at pc do what the small machine's a does -/
def tkRel (oc nL pc : Nat) (pcs : List Nat) (rt : Option FieldType) (sc : Bool) (d : Instr × Nat) (a : Instr) : Bool :=
  match a with
  | .iconst n => decide (d = (.iconst n, 1)) || decide (d = (.bipush n, 2) ∧ (Int8.ofInt n).toInt32 = Int32.ofInt n) || decide (d = (.sipush n, 3) ∧ (Int16.ofInt n).toInt32 = Int32.ofInt n) || tkLc.any (fun q => decide (q.1 = oc) && decide (q.2.2.1 = n) && (decide (d = (.ldc q.2.1, 2)) || decide (d = (.ldc_w q.2.1, 3))))
  | .ldc2_w n => decide (d = (.lconst 0, 1) ∧ n = 0) || decide (d = (.lconst 1, 1) ∧ n = 1) || tkLl.any (fun q => decide (q.1 = oc) && decide (q.2.2.1 = n) && decide (d = (.ldc2_w q.2.1, 3)))
  | .iload k => decide (d = (.iload k, 2)) || decide (d = (.iload_n (Fin.ofNat 4 k), 1) ∧ k < 4)
  | .lload k => decide (d = (.lload k, 2)) || decide (d = (.lload_n (Fin.ofNat 4 k), 1) ∧ k < 4)
  | .aload k => decide (d = (.aload k, 2)) || decide (d = (.aload_n (Fin.ofNat 4 k), 1) ∧ k < 4)
  | .istore k => decide (k < nL) && (decide (d = (.istore k, 2)) || decide (d = (.istore_n (Fin.ofNat 4 k), 1) ∧ k < 4))
  | .astore k => decide (k < nL) && (decide (d = (.astore k, 2)) || decide (d = (.astore_n (Fin.ofNat 4 k), 1) ∧ k < 4))
  | .lstore k => decide (k + 1 < nL) && (decide (d = (.lstore k, 2)) || decide (d = (.lstore_n (Fin.ofNat 4 k), 1) ∧ k < 4))
  | .iinc k n => decide (k < nL) && decide (d = (.iinc k n, 3))
  | .getfield n => tkFl.any (fun q => decide (q.1 = oc) && decide (q.2.2.1 = n) && decide (d = (.getfield q.2.1, 3))) && decide ((tkFk (n / 64)).getD (n % 64) 2 ≠ 2) && decide (n / 64 < 12)
  | .getstatic n => tkFl.any (fun q => decide (q.1 = oc) && decide (q.2.2.1 = n) && decide (d = (.getfield q.2.1, 3))) && decide ((tkFk (n / 64)).getD (n % 64) 0 = 2) && decide (n / 64 < 12)
  | .putfield n => tkFl.any (fun q => decide (q.1 = oc) && decide (q.2.2.1 = n) && decide (d = (.putfield q.2.1, 3))) && tkPut n .int && decide (n / 64 < 12)
  | .putstatic n => tkFl.any (fun q => decide (q.1 = oc) && decide (q.2.2.1 = n) && decide (d = (.putfield q.2.1, 3))) && tkPut n .boolean && decide (n / 64 < 12)
  | .nop => true
  | .caload => sc && decide (d = (.iaload, 1))
  | .castore => sc && decide (d = (.arraylength, 1))
  | .if_icmp c t => decide (d = (.if_icmp c ((pcs.getD t.toNat 0 : Int) - pc), 3))
  | .ifCond c t => decide (d = (.ifCond c ((pcs.getD t.toNat 0 : Int) - pc), 3))
  | .goto t => decide (d = (.goto ((pcs.getD t.toNat 0 : Int) - pc), 3))
  | .tableswitch dd lo hi bs => decide (d.1 = .tableswitch ((pcs.getD dd.toNat 0 : Int) - pc) lo hi (bs.map (fun t => (pcs.getD t.toNat 0 : Int) - pc))) && decide ((bs.size : Int) = hi - lo + 1)
  | .invokeinterface mi n => tkMl.any (fun q => decide (q.1 = oc) && decide (q.2.2.1 = mi) && (match tkMt[mi]? with
      | some md => decide (md.2.1.2.2 = n) && (if md.2.1.2.1 = true then decide (d = (.invokestatic q.2.1, 3)) else decide (d = (.invokevirtual q.2.1, 3)) && decide (q.2.2.2.1 = 0))
      | none => decide (mi = 999) && decide (n = 5) && decide (d = (.invokestatic q.2.1, 3)) && decide (q.2.2.2.1 = 0)))
  | .ireturn => decide (d = (.ireturn, 1)) && decide (rt = some .int)
  | .dreturn => decide (d = (.ireturn, 1)) && decide (rt = some .boolean)
  | .lreturn => decide (d = (.lreturn, 1)) && decide (rt = some .long)
  | .areturn => decide (d = (.areturn, 1)) && (match rt with | some (.object _) => true | _ => false)
  | .return_ => decide (d = (.return_, 1)) && decide (rt = none)
  | a => tkPlain.contains a && decide (d = (a, 1))
def tkTerm (a : Instr) : Bool := match a with
  | .nop | .goto _ | .tableswitch .. | .ireturn | .dreturn | .lreturn | .areturn | .return_ => true
  | _ => false
def tkChkB (cc : ByteArray) (oc nL : Nat) (pcs : List Nat) (rt : Option FieldType) (sc : Bool) (npc : Nat) : List Instr → Nat → Bool
  | [], pc => decide (pc = npc)
  | a :: is, pc => match decode cc pc with
    | .ok d => tkRel oc nL pc pcs rt sc d a && (tkTerm a || tkChkB cc oc nL pcs rt sc npc is (pc + d.2))
    | .error _ => false
/-- the blocks bl, from number b on, are the code's -/
def tkChk (cc : ByteArray) (oc nL : Nat) (pcs : List Nat) (rt : Option FieldType) (sc : Bool) : Nat → List (List Instr) → Bool
  | _, [] => true
  | b, is :: bl => tkChkB cc oc nL pcs rt sc (pcs.getD (b + 1) 0) is (pcs.getD b 0) && tkChk cc oc nL pcs rt sc (b + 1) bl
def tkX (p : Program) (s : State) (m : MethodId) (args : Array Value) (c : Code) (cc : ByteArray) (nL oc : Nat) (D : va_G) (cy ads : Nat → Nat) : Prop :=
  p.tables.exec = Jvm.exec ∧ c.code = cc ∧ c.maxLocals = nL ∧ s.vm.findClass (tkCn oc) = some m.cls ∧ (∀ w ∈ tkWd, w.before args s = true) ∧ (∀ w ∈ tkNl, va_Nw w s) ∧ va_K D vwCl (tkTy cy) s ∧ (∀ i j, i < 128 → j < 128 → ads i = ads j → i = j)
def tkG (p : Program) (l : Launch) (e : Env) (R : Room) (s : State) (m : MethodId) (args : Array Value) (below : List Frame) (meth : Method) (c : Code) (Qw : State → Prop) (D : va_G) (cy ads : Nat → Nat) (nL : Nat) (H0 : Heap) (pc : Nat) (ls st : List Value) (h : tkH) : Prop :=
  ∀ (H : Heap) (locs : List Loc) (lsA : Array Slot), va_P D vwCl (tkWs ads cy h) H → va_S (tkA ads) H0 H locs → tkL ads nL lsA ls → W p l e R s m args below meth c H locs 0 0 Qw (F0 m pc lsA (st.map (tk_cv ads)))

theorem tkS_iadd {p : Program} {l : Launch} {e : Env} {R : Room} {s : State} {m : MethodId} {args : Array Value} {below : List Frame} {meth : Method} {c : Code} {Qw : State → Prop} {D : va_G} {cy : Nat → ClassId} {ads : Nat → Nat} {nL : Nat} {H0 : Heap} {cc : ByteArray} {oc : Nat} (X : tkX p s m args c cc nL oc D cy ads) {pc : Nat} {ls st : List Value} {h : tkH} {N : tkN} {sx : Nat × (Nat → Int32)} {call : tkC} {K : tkK} {Q : tkQ} (hd : decode cc pc = .ok (.iadd, 1)) (hI : tkI sx call K Q .iadd ls st h N) (hN : ∀ ls st h, N ls st h → tkG p l e R s m args below meth c Qw D cy ads nL H0 (pc + 1) ls st h) : tkG p l e R s m args below meth c Qw D cy ads nL H0 pc ls st h := by
  obtain ⟨hx, hb, hml, hown, hts, hnw, hK, hinj⟩ := X
  unfold tkI at hI
  dsimp only at hI
  split at hI
  · intro H locs lsA hP hS hL
    exact lv_iadd hx hb hd (hN _ _ _ hI H locs lsA hP hS hL)
  · exact hI.elim
theorem tkS_isub {p : Program} {l : Launch} {e : Env} {R : Room} {s : State} {m : MethodId} {args : Array Value} {below : List Frame} {meth : Method} {c : Code} {Qw : State → Prop} {D : va_G} {cy : Nat → ClassId} {ads : Nat → Nat} {nL : Nat} {H0 : Heap} {cc : ByteArray} {oc : Nat} (X : tkX p s m args c cc nL oc D cy ads) {pc : Nat} {ls st : List Value} {h : tkH} {N : tkN} {sx : Nat × (Nat → Int32)} {call : tkC} {K : tkK} {Q : tkQ} (hd : decode cc pc = .ok (.isub, 1)) (hI : tkI sx call K Q .isub ls st h N) (hN : ∀ ls st h, N ls st h → tkG p l e R s m args below meth c Qw D cy ads nL H0 (pc + 1) ls st h) : tkG p l e R s m args below meth c Qw D cy ads nL H0 pc ls st h := by
  obtain ⟨hx, hb, hml, hown, hts, hnw, hK, hinj⟩ := X
  unfold tkI at hI
  dsimp only at hI
  split at hI
  · intro H locs lsA hP hS hL
    exact lv_isub hx hb hd (hN _ _ _ hI H locs lsA hP hS hL)
  · exact hI.elim
theorem tkS_imul {p : Program} {l : Launch} {e : Env} {R : Room} {s : State} {m : MethodId} {args : Array Value} {below : List Frame} {meth : Method} {c : Code} {Qw : State → Prop} {D : va_G} {cy : Nat → ClassId} {ads : Nat → Nat} {nL : Nat} {H0 : Heap} {cc : ByteArray} {oc : Nat} (X : tkX p s m args c cc nL oc D cy ads) {pc : Nat} {ls st : List Value} {h : tkH} {N : tkN} {sx : Nat × (Nat → Int32)} {call : tkC} {K : tkK} {Q : tkQ} (hd : decode cc pc = .ok (.imul, 1)) (hI : tkI sx call K Q .imul ls st h N) (hN : ∀ ls st h, N ls st h → tkG p l e R s m args below meth c Qw D cy ads nL H0 (pc + 1) ls st h) : tkG p l e R s m args below meth c Qw D cy ads nL H0 pc ls st h := by
  obtain ⟨hx, hb, hml, hown, hts, hnw, hK, hinj⟩ := X
  unfold tkI at hI
  dsimp only at hI
  split at hI
  · intro H locs lsA hP hS hL
    exact lv_imul hx hb hd (hN _ _ _ hI H locs lsA hP hS hL)
  · exact hI.elim
theorem tkS_iand {p : Program} {l : Launch} {e : Env} {R : Room} {s : State} {m : MethodId} {args : Array Value} {below : List Frame} {meth : Method} {c : Code} {Qw : State → Prop} {D : va_G} {cy : Nat → ClassId} {ads : Nat → Nat} {nL : Nat} {H0 : Heap} {cc : ByteArray} {oc : Nat} (X : tkX p s m args c cc nL oc D cy ads) {pc : Nat} {ls st : List Value} {h : tkH} {N : tkN} {sx : Nat × (Nat → Int32)} {call : tkC} {K : tkK} {Q : tkQ} (hd : decode cc pc = .ok (.iand, 1)) (hI : tkI sx call K Q .iand ls st h N) (hN : ∀ ls st h, N ls st h → tkG p l e R s m args below meth c Qw D cy ads nL H0 (pc + 1) ls st h) : tkG p l e R s m args below meth c Qw D cy ads nL H0 pc ls st h := by
  obtain ⟨hx, hb, hml, hown, hts, hnw, hK, hinj⟩ := X
  unfold tkI at hI
  dsimp only at hI
  split at hI
  · intro H locs lsA hP hS hL
    exact lv_iand hx hb hd (hN _ _ _ hI H locs lsA hP hS hL)
  · exact hI.elim
theorem tkS_ior {p : Program} {l : Launch} {e : Env} {R : Room} {s : State} {m : MethodId} {args : Array Value} {below : List Frame} {meth : Method} {c : Code} {Qw : State → Prop} {D : va_G} {cy : Nat → ClassId} {ads : Nat → Nat} {nL : Nat} {H0 : Heap} {cc : ByteArray} {oc : Nat} (X : tkX p s m args c cc nL oc D cy ads) {pc : Nat} {ls st : List Value} {h : tkH} {N : tkN} {sx : Nat × (Nat → Int32)} {call : tkC} {K : tkK} {Q : tkQ} (hd : decode cc pc = .ok (.ior, 1)) (hI : tkI sx call K Q .ior ls st h N) (hN : ∀ ls st h, N ls st h → tkG p l e R s m args below meth c Qw D cy ads nL H0 (pc + 1) ls st h) : tkG p l e R s m args below meth c Qw D cy ads nL H0 pc ls st h := by
  obtain ⟨hx, hb, hml, hown, hts, hnw, hK, hinj⟩ := X
  unfold tkI at hI
  dsimp only at hI
  split at hI
  · intro H locs lsA hP hS hL
    exact lv_ior hx hb hd (hN _ _ _ hI H locs lsA hP hS hL)
  · exact hI.elim
theorem tkS_ixor {p : Program} {l : Launch} {e : Env} {R : Room} {s : State} {m : MethodId} {args : Array Value} {below : List Frame} {meth : Method} {c : Code} {Qw : State → Prop} {D : va_G} {cy : Nat → ClassId} {ads : Nat → Nat} {nL : Nat} {H0 : Heap} {cc : ByteArray} {oc : Nat} (X : tkX p s m args c cc nL oc D cy ads) {pc : Nat} {ls st : List Value} {h : tkH} {N : tkN} {sx : Nat × (Nat → Int32)} {call : tkC} {K : tkK} {Q : tkQ} (hd : decode cc pc = .ok (.ixor, 1)) (hI : tkI sx call K Q .ixor ls st h N) (hN : ∀ ls st h, N ls st h → tkG p l e R s m args below meth c Qw D cy ads nL H0 (pc + 1) ls st h) : tkG p l e R s m args below meth c Qw D cy ads nL H0 pc ls st h := by
  obtain ⟨hx, hb, hml, hown, hts, hnw, hK, hinj⟩ := X
  unfold tkI at hI
  dsimp only at hI
  split at hI
  · intro H locs lsA hP hS hL
    exact lv_ixor hx hb hd (hN _ _ _ hI H locs lsA hP hS hL)
  · exact hI.elim
theorem tkS_ishl {p : Program} {l : Launch} {e : Env} {R : Room} {s : State} {m : MethodId} {args : Array Value} {below : List Frame} {meth : Method} {c : Code} {Qw : State → Prop} {D : va_G} {cy : Nat → ClassId} {ads : Nat → Nat} {nL : Nat} {H0 : Heap} {cc : ByteArray} {oc : Nat} (X : tkX p s m args c cc nL oc D cy ads) {pc : Nat} {ls st : List Value} {h : tkH} {N : tkN} {sx : Nat × (Nat → Int32)} {call : tkC} {K : tkK} {Q : tkQ} (hd : decode cc pc = .ok (.ishl, 1)) (hI : tkI sx call K Q .ishl ls st h N) (hN : ∀ ls st h, N ls st h → tkG p l e R s m args below meth c Qw D cy ads nL H0 (pc + 1) ls st h) : tkG p l e R s m args below meth c Qw D cy ads nL H0 pc ls st h := by
  obtain ⟨hx, hb, hml, hown, hts, hnw, hK, hinj⟩ := X
  unfold tkI at hI
  dsimp only at hI
  split at hI
  · intro H locs lsA hP hS hL
    exact lv_ishl hx hb hd (hN _ _ _ hI H locs lsA hP hS hL)
  · exact hI.elim
theorem tkS_ishr {p : Program} {l : Launch} {e : Env} {R : Room} {s : State} {m : MethodId} {args : Array Value} {below : List Frame} {meth : Method} {c : Code} {Qw : State → Prop} {D : va_G} {cy : Nat → ClassId} {ads : Nat → Nat} {nL : Nat} {H0 : Heap} {cc : ByteArray} {oc : Nat} (X : tkX p s m args c cc nL oc D cy ads) {pc : Nat} {ls st : List Value} {h : tkH} {N : tkN} {sx : Nat × (Nat → Int32)} {call : tkC} {K : tkK} {Q : tkQ} (hd : decode cc pc = .ok (.ishr, 1)) (hI : tkI sx call K Q .ishr ls st h N) (hN : ∀ ls st h, N ls st h → tkG p l e R s m args below meth c Qw D cy ads nL H0 (pc + 1) ls st h) : tkG p l e R s m args below meth c Qw D cy ads nL H0 pc ls st h := by
  obtain ⟨hx, hb, hml, hown, hts, hnw, hK, hinj⟩ := X
  unfold tkI at hI
  dsimp only at hI
  split at hI
  · intro H locs lsA hP hS hL
    exact lv_ishr hx hb hd (hN _ _ _ hI H locs lsA hP hS hL)
  · exact hI.elim
theorem tkS_ladd {p : Program} {l : Launch} {e : Env} {R : Room} {s : State} {m : MethodId} {args : Array Value} {below : List Frame} {meth : Method} {c : Code} {Qw : State → Prop} {D : va_G} {cy : Nat → ClassId} {ads : Nat → Nat} {nL : Nat} {H0 : Heap} {cc : ByteArray} {oc : Nat} (X : tkX p s m args c cc nL oc D cy ads) {pc : Nat} {ls st : List Value} {h : tkH} {N : tkN} {sx : Nat × (Nat → Int32)} {call : tkC} {K : tkK} {Q : tkQ} (hd : decode cc pc = .ok (.ladd, 1)) (hI : tkI sx call K Q .ladd ls st h N) (hN : ∀ ls st h, N ls st h → tkG p l e R s m args below meth c Qw D cy ads nL H0 (pc + 1) ls st h) : tkG p l e R s m args below meth c Qw D cy ads nL H0 pc ls st h := by
  obtain ⟨hx, hb, hml, hown, hts, hnw, hK, hinj⟩ := X
  unfold tkI at hI
  dsimp only at hI
  split at hI
  · intro H locs lsA hP hS hL
    exact lv_ladd hx hb hd (hN _ _ _ hI H locs lsA hP hS hL)
  · exact hI.elim
theorem tkS_lmul {p : Program} {l : Launch} {e : Env} {R : Room} {s : State} {m : MethodId} {args : Array Value} {below : List Frame} {meth : Method} {c : Code} {Qw : State → Prop} {D : va_G} {cy : Nat → ClassId} {ads : Nat → Nat} {nL : Nat} {H0 : Heap} {cc : ByteArray} {oc : Nat} (X : tkX p s m args c cc nL oc D cy ads) {pc : Nat} {ls st : List Value} {h : tkH} {N : tkN} {sx : Nat × (Nat → Int32)} {call : tkC} {K : tkK} {Q : tkQ} (hd : decode cc pc = .ok (.lmul, 1)) (hI : tkI sx call K Q .lmul ls st h N) (hN : ∀ ls st h, N ls st h → tkG p l e R s m args below meth c Qw D cy ads nL H0 (pc + 1) ls st h) : tkG p l e R s m args below meth c Qw D cy ads nL H0 pc ls st h := by
  obtain ⟨hx, hb, hml, hown, hts, hnw, hK, hinj⟩ := X
  unfold tkI at hI
  dsimp only at hI
  split at hI
  · intro H locs lsA hP hS hL
    exact lv_lmul hx hb hd (hN _ _ _ hI H locs lsA hP hS hL)
  · exact hI.elim
theorem tkS_land {p : Program} {l : Launch} {e : Env} {R : Room} {s : State} {m : MethodId} {args : Array Value} {below : List Frame} {meth : Method} {c : Code} {Qw : State → Prop} {D : va_G} {cy : Nat → ClassId} {ads : Nat → Nat} {nL : Nat} {H0 : Heap} {cc : ByteArray} {oc : Nat} (X : tkX p s m args c cc nL oc D cy ads) {pc : Nat} {ls st : List Value} {h : tkH} {N : tkN} {sx : Nat × (Nat → Int32)} {call : tkC} {K : tkK} {Q : tkQ} (hd : decode cc pc = .ok (.land, 1)) (hI : tkI sx call K Q .land ls st h N) (hN : ∀ ls st h, N ls st h → tkG p l e R s m args below meth c Qw D cy ads nL H0 (pc + 1) ls st h) : tkG p l e R s m args below meth c Qw D cy ads nL H0 pc ls st h := by
  obtain ⟨hx, hb, hml, hown, hts, hnw, hK, hinj⟩ := X
  unfold tkI at hI
  dsimp only at hI
  split at hI
  · intro H locs lsA hP hS hL
    exact lv_land hx hb hd (hN _ _ _ hI H locs lsA hP hS hL)
  · exact hI.elim
theorem tkS_lor {p : Program} {l : Launch} {e : Env} {R : Room} {s : State} {m : MethodId} {args : Array Value} {below : List Frame} {meth : Method} {c : Code} {Qw : State → Prop} {D : va_G} {cy : Nat → ClassId} {ads : Nat → Nat} {nL : Nat} {H0 : Heap} {cc : ByteArray} {oc : Nat} (X : tkX p s m args c cc nL oc D cy ads) {pc : Nat} {ls st : List Value} {h : tkH} {N : tkN} {sx : Nat × (Nat → Int32)} {call : tkC} {K : tkK} {Q : tkQ} (hd : decode cc pc = .ok (.lor, 1)) (hI : tkI sx call K Q .lor ls st h N) (hN : ∀ ls st h, N ls st h → tkG p l e R s m args below meth c Qw D cy ads nL H0 (pc + 1) ls st h) : tkG p l e R s m args below meth c Qw D cy ads nL H0 pc ls st h := by
  obtain ⟨hx, hb, hml, hown, hts, hnw, hK, hinj⟩ := X
  unfold tkI at hI
  dsimp only at hI
  split at hI
  · intro H locs lsA hP hS hL
    exact lv_lor hx hb hd (hN _ _ _ hI H locs lsA hP hS hL)
  · exact hI.elim
theorem tkS_iushr {p : Program} {l : Launch} {e : Env} {R : Room} {s : State} {m : MethodId} {args : Array Value} {below : List Frame} {meth : Method} {c : Code} {Qw : State → Prop} {D : va_G} {cy : Nat → ClassId} {ads : Nat → Nat} {nL : Nat} {H0 : Heap} {cc : ByteArray} {oc : Nat} (X : tkX p s m args c cc nL oc D cy ads) {pc : Nat} {ls st : List Value} {h : tkH} {N : tkN} {sx : Nat × (Nat → Int32)} {call : tkC} {K : tkK} {Q : tkQ} (hd : decode cc pc = .ok (.iushr, 1)) (hI : tkI sx call K Q .iushr ls st h N) (hN : ∀ ls st h, N ls st h → tkG p l e R s m args below meth c Qw D cy ads nL H0 (pc + 1) ls st h) : tkG p l e R s m args below meth c Qw D cy ads nL H0 pc ls st h := by
  obtain ⟨hx, hb, hml, hown, hts, hnw, hK, hinj⟩ := X
  unfold tkI at hI
  dsimp only at hI
  split at hI
  · intro H locs lsA hP hS hL
    exact lv_iushr hx hb hd rfl (hN _ _ _ hI H locs lsA hP hS hL)
  · exact hI.elim
theorem tkS_lshl {p : Program} {l : Launch} {e : Env} {R : Room} {s : State} {m : MethodId} {args : Array Value} {below : List Frame} {meth : Method} {c : Code} {Qw : State → Prop} {D : va_G} {cy : Nat → ClassId} {ads : Nat → Nat} {nL : Nat} {H0 : Heap} {cc : ByteArray} {oc : Nat} (X : tkX p s m args c cc nL oc D cy ads) {pc : Nat} {ls st : List Value} {h : tkH} {N : tkN} {sx : Nat × (Nat → Int32)} {call : tkC} {K : tkK} {Q : tkQ} (hd : decode cc pc = .ok (.lshl, 1)) (hI : tkI sx call K Q .lshl ls st h N) (hN : ∀ ls st h, N ls st h → tkG p l e R s m args below meth c Qw D cy ads nL H0 (pc + 1) ls st h) : tkG p l e R s m args below meth c Qw D cy ads nL H0 pc ls st h := by
  obtain ⟨hx, hb, hml, hown, hts, hnw, hK, hinj⟩ := X
  unfold tkI at hI
  dsimp only at hI
  split at hI
  · intro H locs lsA hP hS hL
    exact lv_lshl hx hb hd rfl (hN _ _ _ hI H locs lsA hP hS hL)
  · exact hI.elim
theorem tkS_lushr {p : Program} {l : Launch} {e : Env} {R : Room} {s : State} {m : MethodId} {args : Array Value} {below : List Frame} {meth : Method} {c : Code} {Qw : State → Prop} {D : va_G} {cy : Nat → ClassId} {ads : Nat → Nat} {nL : Nat} {H0 : Heap} {cc : ByteArray} {oc : Nat} (X : tkX p s m args c cc nL oc D cy ads) {pc : Nat} {ls st : List Value} {h : tkH} {N : tkN} {sx : Nat × (Nat → Int32)} {call : tkC} {K : tkK} {Q : tkQ} (hd : decode cc pc = .ok (.lushr, 1)) (hI : tkI sx call K Q .lushr ls st h N) (hN : ∀ ls st h, N ls st h → tkG p l e R s m args below meth c Qw D cy ads nL H0 (pc + 1) ls st h) : tkG p l e R s m args below meth c Qw D cy ads nL H0 pc ls st h := by
  obtain ⟨hx, hb, hml, hown, hts, hnw, hK, hinj⟩ := X
  unfold tkI at hI
  dsimp only at hI
  split at hI
  · intro H locs lsA hP hS hL
    exact lv_lushr hx hb hd rfl (hN _ _ _ hI H locs lsA hP hS hL)
  · exact hI.elim
theorem tkS_i2l {p : Program} {l : Launch} {e : Env} {R : Room} {s : State} {m : MethodId} {args : Array Value} {below : List Frame} {meth : Method} {c : Code} {Qw : State → Prop} {D : va_G} {cy : Nat → ClassId} {ads : Nat → Nat} {nL : Nat} {H0 : Heap} {cc : ByteArray} {oc : Nat} (X : tkX p s m args c cc nL oc D cy ads) {pc : Nat} {ls st : List Value} {h : tkH} {N : tkN} {sx : Nat × (Nat → Int32)} {call : tkC} {K : tkK} {Q : tkQ} (hd : decode cc pc = .ok (.i2l, 1)) (hI : tkI sx call K Q .i2l ls st h N) (hN : ∀ ls st h, N ls st h → tkG p l e R s m args below meth c Qw D cy ads nL H0 (pc + 1) ls st h) : tkG p l e R s m args below meth c Qw D cy ads nL H0 pc ls st h := by
  obtain ⟨hx, hb, hml, hown, hts, hnw, hK, hinj⟩ := X
  unfold tkI at hI
  dsimp only at hI
  split at hI
  · intro H locs lsA hP hS hL
    exact lv_i2l hx hb hd rfl (hN _ _ _ hI H locs lsA hP hS hL)
  · exact hI.elim
theorem tkS_idiv {p : Program} {l : Launch} {e : Env} {R : Room} {s : State} {m : MethodId} {args : Array Value} {below : List Frame} {meth : Method} {c : Code} {Qw : State → Prop} {D : va_G} {cy : Nat → ClassId} {ads : Nat → Nat} {nL : Nat} {H0 : Heap} {cc : ByteArray} {oc : Nat} (X : tkX p s m args c cc nL oc D cy ads) {pc : Nat} {ls st : List Value} {h : tkH} {N : tkN} {sx : Nat × (Nat → Int32)} {call : tkC} {K : tkK} {Q : tkQ} (hd : decode cc pc = .ok (.idiv, 1)) (hI : tkI sx call K Q .idiv ls st h N) (hN : ∀ ls st h, N ls st h → tkG p l e R s m args below meth c Qw D cy ads nL H0 (pc + 1) ls st h) : tkG p l e R s m args below meth c Qw D cy ads nL H0 pc ls st h := by
  obtain ⟨hx, hb, hml, hown, hts, hnw, hK, hinj⟩ := X
  unfold tkI at hI
  dsimp only at hI
  split at hI
  · intro H locs lsA hP hS hL
    exact lv_idiv hx hb hd hI.1 (hN _ _ _ hI.2 H locs lsA hP hS hL)
  · exact hI.elim
theorem tkS_irem {p : Program} {l : Launch} {e : Env} {R : Room} {s : State} {m : MethodId} {args : Array Value} {below : List Frame} {meth : Method} {c : Code} {Qw : State → Prop} {D : va_G} {cy : Nat → ClassId} {ads : Nat → Nat} {nL : Nat} {H0 : Heap} {cc : ByteArray} {oc : Nat} (X : tkX p s m args c cc nL oc D cy ads) {pc : Nat} {ls st : List Value} {h : tkH} {N : tkN} {sx : Nat × (Nat → Int32)} {call : tkC} {K : tkK} {Q : tkQ} (hd : decode cc pc = .ok (.irem, 1)) (hI : tkI sx call K Q .irem ls st h N) (hN : ∀ ls st h, N ls st h → tkG p l e R s m args below meth c Qw D cy ads nL H0 (pc + 1) ls st h) : tkG p l e R s m args below meth c Qw D cy ads nL H0 pc ls st h := by
  obtain ⟨hx, hb, hml, hown, hts, hnw, hK, hinj⟩ := X
  unfold tkI at hI
  dsimp only at hI
  split at hI
  · intro H locs lsA hP hS hL
    exact lv_irem hx hb hd hI.1 (hN _ _ _ hI.2 H locs lsA hP hS hL)
  · exact hI.elim
theorem tkS_lcmp {p : Program} {l : Launch} {e : Env} {R : Room} {s : State} {m : MethodId} {args : Array Value} {below : List Frame} {meth : Method} {c : Code} {Qw : State → Prop} {D : va_G} {cy : Nat → ClassId} {ads : Nat → Nat} {nL : Nat} {H0 : Heap} {cc : ByteArray} {oc : Nat} (X : tkX p s m args c cc nL oc D cy ads) {pc : Nat} {ls st : List Value} {h : tkH} {N : tkN} {sx : Nat × (Nat → Int32)} {call : tkC} {K : tkK} {Q : tkQ} (hd : decode cc pc = .ok (.lcmp, 1)) (hI : tkI sx call K Q .lcmp ls st h N) (hN : ∀ ls st h, N ls st h → tkG p l e R s m args below meth c Qw D cy ads nL H0 (pc + 1) ls st h) : tkG p l e R s m args below meth c Qw D cy ads nL H0 pc ls st h := by
  obtain ⟨hx, hb, hml, hown, hts, hnw, hK, hinj⟩ := X
  unfold tkI at hI
  dsimp only at hI
  split at hI
  · intro H locs lsA hP hS hL
    exact W.lcmp hx hb hd (hN _ _ _ hI H locs lsA hP hS hL)
  · exact hI.elim
theorem tkS_dup {p : Program} {l : Launch} {e : Env} {R : Room} {s : State} {m : MethodId} {args : Array Value} {below : List Frame} {meth : Method} {c : Code} {Qw : State → Prop} {D : va_G} {cy : Nat → ClassId} {ads : Nat → Nat} {nL : Nat} {H0 : Heap} {cc : ByteArray} {oc : Nat} (X : tkX p s m args c cc nL oc D cy ads) {pc : Nat} {ls st : List Value} {h : tkH} {N : tkN} {sx : Nat × (Nat → Int32)} {call : tkC} {K : tkK} {Q : tkQ} (hd : decode cc pc = .ok (.dup, 1)) (hI : tkI sx call K Q .dup ls st h N) (hN : ∀ ls st h, N ls st h → tkG p l e R s m args below meth c Qw D cy ads nL H0 (pc + 1) ls st h) : tkG p l e R s m args below meth c Qw D cy ads nL H0 pc ls st h := by
  obtain ⟨hx, hb, hml, hown, hts, hnw, hK, hinj⟩ := X
  unfold tkI at hI
  dsimp only at hI
  split at hI
  · intro H locs lsA hP hS hL
    exact lv_dup hx hb hd (by rw [tk_cv_cat]; exact hI.1) (hN _ _ _ hI.2 H locs lsA hP hS hL)
  · exact hI.elim
theorem tkS_pop {p : Program} {l : Launch} {e : Env} {R : Room} {s : State} {m : MethodId} {args : Array Value} {below : List Frame} {meth : Method} {c : Code} {Qw : State → Prop} {D : va_G} {cy : Nat → ClassId} {ads : Nat → Nat} {nL : Nat} {H0 : Heap} {cc : ByteArray} {oc : Nat} (X : tkX p s m args c cc nL oc D cy ads) {pc : Nat} {ls st : List Value} {h : tkH} {N : tkN} {sx : Nat × (Nat → Int32)} {call : tkC} {K : tkK} {Q : tkQ} (hd : decode cc pc = .ok (.pop, 1)) (hI : tkI sx call K Q .pop ls st h N) (hN : ∀ ls st h, N ls st h → tkG p l e R s m args below meth c Qw D cy ads nL H0 (pc + 1) ls st h) : tkG p l e R s m args below meth c Qw D cy ads nL H0 pc ls st h := by
  obtain ⟨hx, hb, hml, hown, hts, hnw, hK, hinj⟩ := X
  unfold tkI at hI
  dsimp only at hI
  split at hI
  · intro H locs lsA hP hS hL
    exact lv_pop hx hb hd (by rw [tk_cv_cat]; exact hI.1) (hN _ _ _ hI.2 H locs lsA hP hS hL)
  · exact hI.elim
theorem tkS_dup2 {p : Program} {l : Launch} {e : Env} {R : Room} {s : State} {m : MethodId} {args : Array Value} {below : List Frame} {meth : Method} {c : Code} {Qw : State → Prop} {D : va_G} {cy : Nat → ClassId} {ads : Nat → Nat} {nL : Nat} {H0 : Heap} {cc : ByteArray} {oc : Nat} (X : tkX p s m args c cc nL oc D cy ads) {pc : Nat} {ls st : List Value} {h : tkH} {N : tkN} {sx : Nat × (Nat → Int32)} {call : tkC} {K : tkK} {Q : tkQ} (hd : decode cc pc = .ok (.dup2, 1)) (hI : tkI sx call K Q .dup2 ls st h N) (hN : ∀ ls st h, N ls st h → tkG p l e R s m args below meth c Qw D cy ads nL H0 (pc + 1) ls st h) : tkG p l e R s m args below meth c Qw D cy ads nL H0 pc ls st h := by
  obtain ⟨hx, hb, hml, hown, hts, hnw, hK, hinj⟩ := X
  unfold tkI at hI
  dsimp only at hI
  split at hI
  · intro H locs lsA hP hS hL
    exact lv_dup2_11 hx hb hd (by rw [tk_cv_cat]; exact hI.1) (by rw [tk_cv_cat]; exact hI.2.1) (hN _ _ _ hI.2.2 H locs lsA hP hS hL)
  · exact hI.elim
theorem tkWc_64 {ads : Nat → Nat} {cy : Nat → ClassId} {h : tkH} {k : Nat} (e : (tkSh k).1 = 64) : tkWc ads cy h k = .inl (cy 0, (tkSh k).2, .inl (h.1 k)) := by unfold tkWc; rw [if_pos e]
theorem tkWc_65 {ads : Nat → Nat} {cy : Nat → ClassId} {h : tkH} {k : Nat} (e : (tkSh k).1 = 65) : tkWc ads cy h k = .inl (cy 1, (tkSh k).2, .inl (h.1 k)) := by unfold tkWc; rw [if_neg (by rw [e]; decide), if_pos e]
theorem tkWc_66 {ads : Nat → Nat} {cy : Nat → ClassId} {h : tkH} {k : Nat} (e : (tkSh k).1 = 66) : tkWc ads cy h k = .inl (cy 2, (tkSh k).2, .inr (.inl (h.2 k))) := by unfold tkWc; rw [if_neg (by rw [e]; decide), if_neg (by rw [e]; decide), if_pos e]
theorem tkWc_67 {ads : Nat → Nat} {cy : Nat → ClassId} {h : tkH} {k : Nat} (e : (tkSh k).1 = 67) : tkWc ads cy h k = .inl (cy 3, (tkSh k).2, .inr (.inr (.inr (.inr (fun j => some (ads (tkRf k j))))))) := by unfold tkWc; rw [if_neg (by rw [e]; decide), if_neg (by rw [e]; decide), if_neg (by rw [e]; decide), if_pos e]
theorem tkWc_o {ads : Nat → Nat} {cy : Nat → ClassId} {h : tkH} {k ci : Nat} (e : (tkSh k).1 = ci) (hc : ci < 12) : tkWc ads cy h k = .inr (ci, tkFs ads h k ci) := by unfold tkWc; subst e; rw [if_neg (by omega), if_neg (by omega), if_neg (by omega), if_neg (by omega)]
theorem tkS_iaload {p : Program} {l : Launch} {e : Env} {R : Room} {s : State} {m : MethodId} {args : Array Value} {below : List Frame} {meth : Method} {c : Code} {Qw : State → Prop} {D : va_G} {cy : Nat → ClassId} {ads : Nat → Nat} {nL : Nat} {H0 : Heap} {cc : ByteArray} {oc : Nat} (X : tkX p s m args c cc nL oc D cy ads) {pc : Nat} {ls st : List Value} {h : tkH} {N : tkN} {sx : Nat × (Nat → Int32)} {call : tkC} {K : tkK} {Q : tkQ} (hd : decode cc pc = .ok (.iaload, 1)) (hI : tkI sx call K Q .iaload ls st h N) (hN : ∀ ls st h, N ls st h → tkG p l e R s m args below meth c Qw D cy ads nL H0 (pc + 1) ls st h) : tkG p l e R s m args below meth c Qw D cy ads nL H0 pc ls st h := by
  obtain ⟨hx, hb, hml, hown, hts, hnw, hK, hinj⟩ := X
  unfold tkI at hI
  dsimp only at hI
  split at hI
  · intro H locs lsA hP hS hL
    have ha := tkWs_at (ads := ads) (cy := cy) (h := h) (tkSh_lt (by rw [hI.1]; decide))
    rw [tkWc_64 hI.1] at ha
    exact va_iald hx hb hK hP _ 0 ha rfl hI.2.1 hd (hN _ _ _ hI.2.2 H locs lsA hP hS hL)
  · exact hI.elim
theorem tkS_baload {p : Program} {l : Launch} {e : Env} {R : Room} {s : State} {m : MethodId} {args : Array Value} {below : List Frame} {meth : Method} {c : Code} {Qw : State → Prop} {D : va_G} {cy : Nat → ClassId} {ads : Nat → Nat} {nL : Nat} {H0 : Heap} {cc : ByteArray} {oc : Nat} (X : tkX p s m args c cc nL oc D cy ads) {pc : Nat} {ls st : List Value} {h : tkH} {N : tkN} {sx : Nat × (Nat → Int32)} {call : tkC} {K : tkK} {Q : tkQ} (hd : decode cc pc = .ok (.baload, 1)) (hI : tkI sx call K Q .baload ls st h N) (hN : ∀ ls st h, N ls st h → tkG p l e R s m args below meth c Qw D cy ads nL H0 (pc + 1) ls st h) : tkG p l e R s m args below meth c Qw D cy ads nL H0 pc ls st h := by
  obtain ⟨hx, hb, hml, hown, hts, hnw, hK, hinj⟩ := X
  unfold tkI at hI
  dsimp only at hI
  split at hI
  · intro H locs lsA hP hS hL
    have ha := tkWs_at (ads := ads) (cy := cy) (h := h) (tkSh_lt (by rw [hI.1]; decide))
    rw [tkWc_65 hI.1] at ha
    exact va_zald hx hb hK hP _ 1 ha rfl hI.2.1 hd (hN _ _ _ hI.2.2 H locs lsA hP hS hL)
  · exact hI.elim
theorem tkS_laload {p : Program} {l : Launch} {e : Env} {R : Room} {s : State} {m : MethodId} {args : Array Value} {below : List Frame} {meth : Method} {c : Code} {Qw : State → Prop} {D : va_G} {cy : Nat → ClassId} {ads : Nat → Nat} {nL : Nat} {H0 : Heap} {cc : ByteArray} {oc : Nat} (X : tkX p s m args c cc nL oc D cy ads) {pc : Nat} {ls st : List Value} {h : tkH} {N : tkN} {sx : Nat × (Nat → Int32)} {call : tkC} {K : tkK} {Q : tkQ} (hd : decode cc pc = .ok (.laload, 1)) (hI : tkI sx call K Q .laload ls st h N) (hN : ∀ ls st h, N ls st h → tkG p l e R s m args below meth c Qw D cy ads nL H0 (pc + 1) ls st h) : tkG p l e R s m args below meth c Qw D cy ads nL H0 pc ls st h := by
  obtain ⟨hx, hb, hml, hown, hts, hnw, hK, hinj⟩ := X
  unfold tkI at hI
  dsimp only at hI
  split at hI
  · intro H locs lsA hP hS hL
    have ha := tkWs_at (ads := ads) (cy := cy) (h := h) (tkSh_lt (by rw [hI.1]; decide))
    rw [tkWc_66 hI.1] at ha
    exact va_lald hx hb hK hP _ 2 ha rfl hI.2.1 hd (hN _ _ _ hI.2.2 H locs lsA hP hS hL)
  · exact hI.elim
theorem tkS_aaload {p : Program} {l : Launch} {e : Env} {R : Room} {s : State} {m : MethodId} {args : Array Value} {below : List Frame} {meth : Method} {c : Code} {Qw : State → Prop} {D : va_G} {cy : Nat → ClassId} {ads : Nat → Nat} {nL : Nat} {H0 : Heap} {cc : ByteArray} {oc : Nat} (X : tkX p s m args c cc nL oc D cy ads) {pc : Nat} {ls st : List Value} {h : tkH} {N : tkN} {sx : Nat × (Nat → Int32)} {call : tkC} {K : tkK} {Q : tkQ} (hd : decode cc pc = .ok (.aaload, 1)) (hI : tkI sx call K Q .aaload ls st h N) (hN : ∀ ls st h, N ls st h → tkG p l e R s m args below meth c Qw D cy ads nL H0 (pc + 1) ls st h) : tkG p l e R s m args below meth c Qw D cy ads nL H0 pc ls st h := by
  obtain ⟨hx, hb, hml, hown, hts, hnw, hK, hinj⟩ := X
  unfold tkI at hI
  dsimp only at hI
  split at hI
  · intro H locs lsA hP hS hL
    have ha := tkWs_at (ads := ads) (cy := cy) (h := h) (tkSh_lt (by rw [hI.1]; decide))
    rw [tkWc_67 hI.1] at ha
    exact va_aldq hx hb hK hP _ 3 ha rfl hI.2.1 hd (hN _ _ _ hI.2.2 H locs lsA hP hS hL)
  · exact hI.elim
theorem tkS_iastore {p : Program} {l : Launch} {e : Env} {R : Room} {s : State} {m : MethodId} {args : Array Value} {below : List Frame} {meth : Method} {c : Code} {Qw : State → Prop} {D : va_G} {cy : Nat → ClassId} {ads : Nat → Nat} {nL : Nat} {H0 : Heap} {cc : ByteArray} {oc : Nat} (X : tkX p s m args c cc nL oc D cy ads) {pc : Nat} {ls st : List Value} {h : tkH} {N : tkN} {sx : Nat × (Nat → Int32)} {call : tkC} {K : tkK} {Q : tkQ} (hd : decode cc pc = .ok (.iastore, 1)) (hI : tkI sx call K Q .iastore ls st h N) (hN : ∀ ls st h, N ls st h → tkG p l e R s m args below meth c Qw D cy ads nL H0 (pc + 1) ls st h) : tkG p l e R s m args below meth c Qw D cy ads nL H0 pc ls st h := by
  obtain ⟨hx, hb, hml, hown, hts, hnw, hK, hinj⟩ := X
  unfold tkI at hI
  dsimp only at hI
  split at hI
  · intro H locs lsA hP hS hL
    have hk := tkSh_lt (show (tkSh _).1 ≠ 99 by rw [hI.1]; decide)
    have ha := tkWs_at (ads := ads) (cy := cy) (h := h) hk
    rw [tkWc_64 hI.1] at ha
    refine va_iast hx hb hK hP (tkWs_D hinj cy h) hS _ 0 ha rfl hI.2.1 hd (fun H1 locs1 hP1 hD1 hS1 => ?_)
    skip
    rw [tkWs_set (h' := (up2 h.1 _ _ _, h.2)) hk (by rw [tkWc_64 hI.1]; dsimp only; rw [up2_self]) (fun j hj => tkWc_ne (by first | rfl | exact up2_ne _ _ _ hj) (by first | rfl | exact up2_ne _ _ _ hj))] at hP1
    exact hN _ _ _ hI.2.2 H1 locs1 lsA hP1 hS1 hL
  · exact hI.elim
theorem tk_nar {v : Int32} (h : v = 0 ∨ v = 1) : vp_nar .boolean v = v := by rcases h with rfl | rfl <;> rfl
theorem tkS_bastore {p : Program} {l : Launch} {e : Env} {R : Room} {s : State} {m : MethodId} {args : Array Value} {below : List Frame} {meth : Method} {c : Code} {Qw : State → Prop} {D : va_G} {cy : Nat → ClassId} {ads : Nat → Nat} {nL : Nat} {H0 : Heap} {cc : ByteArray} {oc : Nat} (X : tkX p s m args c cc nL oc D cy ads) {pc : Nat} {ls st : List Value} {h : tkH} {N : tkN} {sx : Nat × (Nat → Int32)} {call : tkC} {K : tkK} {Q : tkQ} (hd : decode cc pc = .ok (.bastore, 1)) (hI : tkI sx call K Q .bastore ls st h N) (hN : ∀ ls st h, N ls st h → tkG p l e R s m args below meth c Qw D cy ads nL H0 (pc + 1) ls st h) : tkG p l e R s m args below meth c Qw D cy ads nL H0 pc ls st h := by
  obtain ⟨hx, hb, hml, hown, hts, hnw, hK, hinj⟩ := X
  unfold tkI at hI
  dsimp only at hI
  split at hI
  · intro H locs lsA hP hS hL
    have hk := tkSh_lt (show (tkSh _).1 ≠ 99 by rw [hI.1]; decide)
    have ha := tkWs_at (ads := ads) (cy := cy) (h := h) hk
    rw [tkWc_65 hI.1] at ha
    refine va_zast hx hb hK hP (tkWs_D hinj cy h) hS _ 1 ha rfl hI.2.1 hd (fun H1 locs1 hP1 hD1 hS1 => ?_)
    rw [tk_nar hI.2.2.1] at hP1
    rw [tkWs_set (h' := (up2 h.1 _ _ _, h.2)) hk (by rw [tkWc_65 hI.1]; dsimp only; rw [up2_self]) (fun j hj => tkWc_ne (by first | rfl | exact up2_ne _ _ _ hj) (by first | rfl | exact up2_ne _ _ _ hj))] at hP1
    exact hN _ _ _ hI.2.2.2 H1 locs1 lsA hP1 hS1 hL
  · exact hI.elim
theorem tkS_lastore {p : Program} {l : Launch} {e : Env} {R : Room} {s : State} {m : MethodId} {args : Array Value} {below : List Frame} {meth : Method} {c : Code} {Qw : State → Prop} {D : va_G} {cy : Nat → ClassId} {ads : Nat → Nat} {nL : Nat} {H0 : Heap} {cc : ByteArray} {oc : Nat} (X : tkX p s m args c cc nL oc D cy ads) {pc : Nat} {ls st : List Value} {h : tkH} {N : tkN} {sx : Nat × (Nat → Int32)} {call : tkC} {K : tkK} {Q : tkQ} (hd : decode cc pc = .ok (.lastore, 1)) (hI : tkI sx call K Q .lastore ls st h N) (hN : ∀ ls st h, N ls st h → tkG p l e R s m args below meth c Qw D cy ads nL H0 (pc + 1) ls st h) : tkG p l e R s m args below meth c Qw D cy ads nL H0 pc ls st h := by
  obtain ⟨hx, hb, hml, hown, hts, hnw, hK, hinj⟩ := X
  unfold tkI at hI
  dsimp only at hI
  split at hI
  · intro H locs lsA hP hS hL
    have hk := tkSh_lt (show (tkSh _).1 ≠ 99 by rw [hI.1]; decide)
    have ha := tkWs_at (ads := ads) (cy := cy) (h := h) hk
    rw [tkWc_66 hI.1] at ha
    refine va_last hx hb hK hP (tkWs_D hinj cy h) hS _ 2 ha rfl hI.2.1 hd (fun H1 locs1 hP1 hD1 hS1 => ?_)
    skip
    rw [tkWs_set (h' := (h.1, up2L h.2 _ _ _)) hk (by rw [tkWc_66 hI.1]; dsimp only; rw [up2L_self]) (fun j hj => tkWc_ne (by first | rfl | exact up2L_ne _ _ _ hj) (by first | rfl | exact up2L_ne _ _ _ hj))] at hP1
    exact hN _ _ _ hI.2.2 H1 locs1 lsA hP1 hS1 hL
  · exact hI.elim
theorem tkS_arraylength {p : Program} {l : Launch} {e : Env} {R : Room} {s : State} {m : MethodId} {args : Array Value} {below : List Frame} {meth : Method} {c : Code} {Qw : State → Prop} {D : va_G} {cy : Nat → ClassId} {ads : Nat → Nat} {nL : Nat} {H0 : Heap} {cc : ByteArray} {oc : Nat} (X : tkX p s m args c cc nL oc D cy ads) {pc : Nat} {ls st : List Value} {h : tkH} {N : tkN} {sx : Nat × (Nat → Int32)} {call : tkC} {K : tkK} {Q : tkQ} (hd : decode cc pc = .ok (.arraylength, 1)) (hI : tkI sx call K Q .arraylength ls st h N) (hN : ∀ ls st h, N ls st h → tkG p l e R s m args below meth c Qw D cy ads nL H0 (pc + 1) ls st h) : tkG p l e R s m args below meth c Qw D cy ads nL H0 pc ls st h := by
  obtain ⟨hx, hb, hml, hown, hts, hnw, hK, hinj⟩ := X
  unfold tkI at hI
  dsimp only at hI
  split at hI
  · intro H locs lsA hP hS hL
    rcases hI.1 with q | q
    · have ha := tkWs_at (ads := ads) (cy := cy) (h := h) (tkSh_lt (by rw [q]; decide))
      rw [tkWc_64 q] at ha
      exact va_alen hx hb hK hP _ 0 ha rfl rfl hd (hN _ _ _ hI.2 H locs lsA hP hS hL)
    · have ha := tkWs_at (ads := ads) (cy := cy) (h := h) (tkSh_lt (by rw [q]; decide))
      rw [tkWc_66 q] at ha
      exact va_alen hx hb hK hP _ 2 ha rfl rfl hd (hN _ _ _ hI.2 H locs lsA hP hS hL)
  · exact hI.elim
