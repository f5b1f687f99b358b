theorem tkS_iconst {p : Program} {l : Launch} {e : Env} {R : Room} {s : State} {m : MethodId} {args : Array Value} {below : List Frame} {meth : Method} {c : Code} {Qw : State → Prop} {D : va_G} {cy : Nat → ClassId} {ads : Nat → Nat} {nL : Nat} {H0 : Heap} {cc : ByteArray} {oc : Nat} (X : tkX p s m args c cc nL oc D cy ads) {pc : Nat} {ls st : List Value} {h : tkH} {n : Int} {pcs : List Nat} {rt : Option FieldType} {sc : Bool} {d : Instr × Nat} {N : tkN} {sx : Nat × (Nat → Int32)} {call : tkC} {K : tkK} {Q : tkQ} (hd : decode cc pc = .ok d) (hr : tkRel oc nL pc pcs rt sc d (.iconst n) = true) (hI : tkI sx call K Q (.iconst n) ls st h N) (hN : ∀ ls st h, N ls st h → tkG p l e R s m args below meth c Qw D cy ads nL H0 (pc + d.2) ls st h) : tkG p l e R s m args below meth c Qw D cy ads nL H0 pc ls st h := by
  obtain ⟨hx, hb, hml, hown, hts, hnw, hK, hinj⟩ := X
  unfold tkI at hI
  unfold tkRel at hr
  dsimp only at hI hr
  have go : ∀ H locs lsA, va_P D vwCl (tkWs ads cy h) H → va_S (tkA ads) H0 H locs → tkL ads nL lsA ls → W p l e R s m args below meth c H locs 0 0 Qw (F0 m (pc + d.2) lsA (.int (Int32.ofInt n) :: st.map (tk_cv ads))) := fun H locs lsA hP hS hL => hN _ _ _ hI H locs lsA hP hS hL
  intro H locs lsA hP hS hL
  simp only [Bool.or_eq_true, decide_eq_true_eq] at hr
  rcases hr with ((rfl | ⟨rfl, hv⟩) | ⟨rfl, hv⟩) | hr
  · exact lv_iconst hx hb hd rfl (go H locs lsA hP hS hL)
  · exact lv_bipush hx hb hd hv (go H locs lsA hP hS hL)
  · exact lv_sipush hx hb hd hv (go H locs lsA hP hS hL)
  · obtain ⟨q, hq, hr⟩ := List.any_eq_true.mp hr
    simp only [Bool.and_eq_true, Bool.or_eq_true, decide_eq_true_eq] at hr
    obtain ⟨⟨h1, h2⟩, h3⟩ := hr
    have hw := of_decide_eq_true (List.all_eq_true.mp tkLc_ok q hq)
    rw [h1, h2] at hw
    have hc := hts _ (tkWd_in hw rfl)
    rcases h3 with rfl | rfl
    · exact lv_ldc hx hb hown hc hd (go H locs lsA hP hS hL)
    · exact lv_ldcw hx hb hown hc hd (go H locs lsA hP hS hL)
theorem tkS_ldc2 {p : Program} {l : Launch} {e : Env} {R : Room} {s : State} {m : MethodId} {args : Array Value} {below : List Frame} {meth : Method} {c : Code} {Qw : State → Prop} {D : va_G} {cy : Nat → ClassId} {ads : Nat → Nat} {nL : Nat} {H0 : Heap} {cc : ByteArray} {oc : Nat} (X : tkX p s m args c cc nL oc D cy ads) {pc : Nat} {ls st : List Value} {h : tkH} {n : Nat} {pcs : List Nat} {rt : Option FieldType} {sc : Bool} {d : Instr × Nat} {N : tkN} {sx : Nat × (Nat → Int32)} {call : tkC} {K : tkK} {Q : tkQ} (hd : decode cc pc = .ok d) (hr : tkRel oc nL pc pcs rt sc d (.ldc2_w n) = true) (hI : tkI sx call K Q (.ldc2_w n) ls st h N) (hN : ∀ ls st h, N ls st h → tkG p l e R s m args below meth c Qw D cy ads nL H0 (pc + d.2) ls st h) : tkG p l e R s m args below meth c Qw D cy ads nL H0 pc ls st h := by
  obtain ⟨hx, hb, hml, hown, hts, hnw, hK, hinj⟩ := X
  unfold tkI at hI
  unfold tkRel at hr
  dsimp only at hI hr
  have go : ∀ H locs lsA, va_P D vwCl (tkWs ads cy h) H → va_S (tkA ads) H0 H locs → tkL ads nL lsA ls → W p l e R s m args below meth c H locs 0 0 Qw (F0 m (pc + d.2) lsA (.long (Int64.ofNat n) :: st.map (tk_cv ads))) := fun H locs lsA hP hS hL => hN _ _ _ hI H locs lsA hP hS hL
  intro H locs lsA hP hS hL
  simp only [Bool.or_eq_true, decide_eq_true_eq] at hr
  rcases hr with (⟨rfl, rfl⟩ | ⟨rfl, rfl⟩) | hr
  · exact lv_lconst hx hb hd rfl (go H locs lsA hP hS hL)
  · exact lv_lconst hx hb hd rfl (go H locs lsA hP hS hL)
  · obtain ⟨q, hq, hr⟩ := List.any_eq_true.mp hr
    simp only [Bool.and_eq_true, decide_eq_true_eq] at hr
    obtain ⟨⟨h1, h2⟩, rfl⟩ := hr
    have hw := of_decide_eq_true (List.all_eq_true.mp tkLl_ok q hq)
    rw [h1, h2] at hw
    exact lv_ldc2 hx hb hown (hts _ (tkWd_in hw rfl)) hd (go H locs lsA hP hS hL)
theorem tkS_iload {p : Program} {l : Launch} {e : Env} {R : Room} {s : State} {m : MethodId} {args : Array Value} {below : List Frame} {meth : Method} {c : Code} {Qw : State → Prop} {D : va_G} {cy : Nat → ClassId} {ads : Nat → Nat} {nL : Nat} {H0 : Heap} {cc : ByteArray} {oc : Nat} (X : tkX p s m args c cc nL oc D cy ads) {pc : Nat} {ls st : List Value} {h : tkH} {k : Nat} {pcs : List Nat} {rt : Option FieldType} {sc : Bool} {d : Instr × Nat} {N : tkN} {sx : Nat × (Nat → Int32)} {call : tkC} {K : tkK} {Q : tkQ} (hd : decode cc pc = .ok d) (hr : tkRel oc nL pc pcs rt sc d (.iload k) = true) (hI : tkI sx call K Q (.iload k) ls st h N) (hN : ∀ ls st h, N ls st h → tkG p l e R s m args below meth c Qw D cy ads nL H0 (pc + d.2) ls st h) : tkG p l e R s m args below meth c Qw D cy ads nL H0 pc ls st h := by
  obtain ⟨hx, hb, hml, hown, hts, hnw, hK, hinj⟩ := X
  unfold tkI at hI
  unfold tkRel at hr
  dsimp only at hI hr
  split at hI
  · rename_i x e
    intro H locs lsA hP hS hL
    simp only [Bool.or_eq_true, decide_eq_true_eq] at hr
    rcases hr with rfl | ⟨rfl, h4⟩
    · exact lv_iload hx hb hd (hL.int e) (hN _ _ _ hI H locs lsA hP hS hL)
    · exact lv_iload_n (i := k) hx hb hd (by simp [Fin.ofNat]; omega) (hL.int e) (hN _ _ _ hI H locs lsA hP hS hL)
  · exact hI.elim
theorem tkS_lload {p : Program} {l : Launch} {e : Env} {R : Room} {s : State} {m : MethodId} {args : Array Value} {below : List Frame} {meth : Method} {c : Code} {Qw : State → Prop} {D : va_G} {cy : Nat → ClassId} {ads : Nat → Nat} {nL : Nat} {H0 : Heap} {cc : ByteArray} {oc : Nat} (X : tkX p s m args c cc nL oc D cy ads) {pc : Nat} {ls st : List Value} {h : tkH} {k : Nat} {pcs : List Nat} {rt : Option FieldType} {sc : Bool} {d : Instr × Nat} {N : tkN} {sx : Nat × (Nat → Int32)} {call : tkC} {K : tkK} {Q : tkQ} (hd : decode cc pc = .ok d) (hr : tkRel oc nL pc pcs rt sc d (.lload k) = true) (hI : tkI sx call K Q (.lload k) ls st h N) (hN : ∀ ls st h, N ls st h → tkG p l e R s m args below meth c Qw D cy ads nL H0 (pc + d.2) ls st h) : tkG p l e R s m args below meth c Qw D cy ads nL H0 pc ls st h := by
  obtain ⟨hx, hb, hml, hown, hts, hnw, hK, hinj⟩ := X
  unfold tkI at hI
  unfold tkRel at hr
  dsimp only at hI hr
  split at hI
  · rename_i x e
    intro H locs lsA hP hS hL
    simp only [Bool.or_eq_true, decide_eq_true_eq] at hr
    rcases hr with rfl | ⟨rfl, h4⟩
    · exact lv_lload hx hb hd (hL.long e) (hN _ _ _ hI H locs lsA hP hS hL)
    · exact lv_lload_n (i := k) hx hb hd (by simp [Fin.ofNat]; omega) (hL.long e) (hN _ _ _ hI H locs lsA hP hS hL)
  · exact hI.elim
theorem tkS_aload {p : Program} {l : Launch} {e : Env} {R : Room} {s : State} {m : MethodId} {args : Array Value} {below : List Frame} {meth : Method} {c : Code} {Qw : State → Prop} {D : va_G} {cy : Nat → ClassId} {ads : Nat → Nat} {nL : Nat} {H0 : Heap} {cc : ByteArray} {oc : Nat} (X : tkX p s m args c cc nL oc D cy ads) {pc : Nat} {ls st : List Value} {h : tkH} {k : Nat} {pcs : List Nat} {rt : Option FieldType} {sc : Bool} {d : Instr × Nat} {N : tkN} {sx : Nat × (Nat → Int32)} {call : tkC} {K : tkK} {Q : tkQ} (hd : decode cc pc = .ok d) (hr : tkRel oc nL pc pcs rt sc d (.aload k) = true) (hI : tkI sx call K Q (.aload k) ls st h N) (hN : ∀ ls st h, N ls st h → tkG p l e R s m args below meth c Qw D cy ads nL H0 (pc + d.2) ls st h) : tkG p l e R s m args below meth c Qw D cy ads nL H0 pc ls st h := by
  obtain ⟨hx, hb, hml, hown, hts, hnw, hK, hinj⟩ := X
  unfold tkI at hI
  unfold tkRel at hr
  dsimp only at hI hr
  split at hI
  · rename_i x e
    intro H locs lsA hP hS hL
    simp only [Bool.or_eq_true, decide_eq_true_eq] at hr
    rcases hr with rfl | ⟨rfl, h4⟩
    · exact lv_aload hx hb hd (hL.ref e) (hN _ _ _ hI H locs lsA hP hS hL)
    · exact lv_aload_n (i := k) hx hb hd (by simp [Fin.ofNat]; omega) (hL.ref e) (hN _ _ _ hI H locs lsA hP hS hL)
  · exact hI.elim
theorem tkS_istore {p : Program} {l : Launch} {e : Env} {R : Room} {s : State} {m : MethodId} {args : Array Value} {below : List Frame} {meth : Method} {c : Code} {Qw : State → Prop} {D : va_G} {cy : Nat → ClassId} {ads : Nat → Nat} {nL : Nat} {H0 : Heap} {cc : ByteArray} {oc : Nat} (X : tkX p s m args c cc nL oc D cy ads) {pc : Nat} {ls st : List Value} {h : tkH} {k : Nat} {pcs : List Nat} {rt : Option FieldType} {sc : Bool} {d : Instr × Nat} {N : tkN} {sx : Nat × (Nat → Int32)} {call : tkC} {K : tkK} {Q : tkQ} (hd : decode cc pc = .ok d) (hr : tkRel oc nL pc pcs rt sc d (.istore k) = true) (hI : tkI sx call K Q (.istore k) ls st h N) (hN : ∀ ls st h, N ls st h → tkG p l e R s m args below meth c Qw D cy ads nL H0 (pc + d.2) ls st h) : tkG p l e R s m args below meth c Qw D cy ads nL H0 pc ls st h := by
  obtain ⟨hx, hb, hml, hown, hts, hnw, hK, hinj⟩ := X
  unfold tkI at hI
  unfold tkRel at hr
  dsimp only at hI hr
  split at hI
  · rename_i x r
    intro H locs lsA hP hS hL
    simp only [Bool.and_eq_true, Bool.or_eq_true, decide_eq_true_eq] at hr
    obtain ⟨hk, hr⟩ := hr
    rcases hr with rfl | ⟨rfl, h4⟩
    · exact lv_istore hx hb hd hL.has hk rfl (fun ls' hl => hN _ _ _ hI H locs ls' hP hS (hL.set1 hk hl))
    · exact lv_istore_n (i := k) hx hb hd (by simp [Fin.ofNat]; omega) hL.has hk rfl (fun ls' hl => hN _ _ _ hI H locs ls' hP hS (hL.set1 hk hl))
  · exact hI.elim
theorem tkS_astore {p : Program} {l : Launch} {e : Env} {R : Room} {s : State} {m : MethodId} {args : Array Value} {below : List Frame} {meth : Method} {c : Code} {Qw : State → Prop} {D : va_G} {cy : Nat → ClassId} {ads : Nat → Nat} {nL : Nat} {H0 : Heap} {cc : ByteArray} {oc : Nat} (X : tkX p s m args c cc nL oc D cy ads) {pc : Nat} {ls st : List Value} {h : tkH} {k : Nat} {pcs : List Nat} {rt : Option FieldType} {sc : Bool} {d : Instr × Nat} {N : tkN} {sx : Nat × (Nat → Int32)} {call : tkC} {K : tkK} {Q : tkQ} (hd : decode cc pc = .ok d) (hr : tkRel oc nL pc pcs rt sc d (.astore k) = true) (hI : tkI sx call K Q (.astore k) ls st h N) (hN : ∀ ls st h, N ls st h → tkG p l e R s m args below meth c Qw D cy ads nL H0 (pc + d.2) ls st h) : tkG p l e R s m args below meth c Qw D cy ads nL H0 pc ls st h := by
  obtain ⟨hx, hb, hml, hown, hts, hnw, hK, hinj⟩ := X
  unfold tkI at hI
  unfold tkRel at hr
  dsimp only at hI hr
  split at hI
  · rename_i x r
    intro H locs lsA hP hS hL
    simp only [Bool.and_eq_true, Bool.or_eq_true, decide_eq_true_eq] at hr
    obtain ⟨hk, hr⟩ := hr
    rcases hr with rfl | ⟨rfl, h4⟩
    · exact lv_astore hx hb hd hL.has hk rfl (fun ls' hl => hN _ _ _ hI H locs ls' hP hS (hL.set1 hk hl))
    · exact lv_astore_n (i := k) hx hb hd (by simp [Fin.ofNat]; omega) hL.has hk rfl (fun ls' hl => hN _ _ _ hI H locs ls' hP hS (hL.set1 hk hl))
  · exact hI.elim
theorem tkS_lstore {p : Program} {l : Launch} {e : Env} {R : Room} {s : State} {m : MethodId} {args : Array Value} {below : List Frame} {meth : Method} {c : Code} {Qw : State → Prop} {D : va_G} {cy : Nat → ClassId} {ads : Nat → Nat} {nL : Nat} {H0 : Heap} {cc : ByteArray} {oc : Nat} (X : tkX p s m args c cc nL oc D cy ads) {pc : Nat} {ls st : List Value} {h : tkH} {k : Nat} {pcs : List Nat} {rt : Option FieldType} {sc : Bool} {d : Instr × Nat} {N : tkN} {sx : Nat × (Nat → Int32)} {call : tkC} {K : tkK} {Q : tkQ} (hd : decode cc pc = .ok d) (hr : tkRel oc nL pc pcs rt sc d (.lstore k) = true) (hI : tkI sx call K Q (.lstore k) ls st h N) (hN : ∀ ls st h, N ls st h → tkG p l e R s m args below meth c Qw D cy ads nL H0 (pc + d.2) ls st h) : tkG p l e R s m args below meth c Qw D cy ads nL H0 pc ls st h := by
  obtain ⟨hx, hb, hml, hown, hts, hnw, hK, hinj⟩ := X
  unfold tkI at hI
  unfold tkRel at hr
  dsimp only at hI hr
  split at hI
  · rename_i x r
    intro H locs lsA hP hS hL
    simp only [Bool.and_eq_true, Bool.or_eq_true, decide_eq_true_eq] at hr
    obtain ⟨hk, hr⟩ := hr
    rcases hr with rfl | ⟨rfl, h4⟩
    · exact lv_lstore hx hb hd hL.has hk rfl (fun ls' hl => hN _ _ _ hI H locs ls' hP hS (hL.set2 hk hl))
    · exact lv_lstore_n (i := k) hx hb hd (by simp [Fin.ofNat]; omega) hL.has hk rfl (fun ls' hl => hN _ _ _ hI H locs ls' hP hS (hL.set2 hk hl))
  · exact hI.elim
theorem tkS_iinc {p : Program} {l : Launch} {e : Env} {R : Room} {s : State} {m : MethodId} {args : Array Value} {below : List Frame} {meth : Method} {c : Code} {Qw : State → Prop} {D : va_G} {cy : Nat → ClassId} {ads : Nat → Nat} {nL : Nat} {H0 : Heap} {cc : ByteArray} {oc : Nat} (X : tkX p s m args c cc nL oc D cy ads) {pc : Nat} {ls st : List Value} {h : tkH} {k : Nat} {n : Int} {pcs : List Nat} {rt : Option FieldType} {sc : Bool} {d : Instr × Nat} {N : tkN} {sx : Nat × (Nat → Int32)} {call : tkC} {K : tkK} {Q : tkQ} (hd : decode cc pc = .ok d) (hr : tkRel oc nL pc pcs rt sc d (.iinc k n) = true) (hI : tkI sx call K Q (.iinc k n) ls st h N) (hN : ∀ ls st h, N ls st h → tkG p l e R s m args below meth c Qw D cy ads nL H0 (pc + d.2) ls st h) : tkG p l e R s m args below meth c Qw D cy ads nL H0 pc ls st h := by
  obtain ⟨hx, hb, hml, hown, hts, hnw, hK, hinj⟩ := X
  unfold tkI at hI
  unfold tkRel at hr
  dsimp only at hI hr
  split at hI
  · rename_i x e
    intro H locs lsA hP hS hL
    simp only [Bool.and_eq_true, decide_eq_true_eq] at hr
    obtain ⟨hk, rfl⟩ := hr
    have hm : (k, Value.int x) ∈ tkLv ads ls := tkLv_mem.mpr ⟨(by rw [e]; exact fun q => (by cases q)), (by rw [e]; rfl)⟩
    obtain ⟨j, hj⟩ := List.getElem?_of_mem hm
    exact lv_iinc hx hb hd hL.has hj rfl hk rfl (fun ls' hl => hN _ _ _ hI H locs ls' hP hS (hL.set1 (v := .int (x + Int32.ofInt n)) hk hl))
  · exact hI.elim
theorem tkFl_use {oc idx n : Nat} {q : Nat × Nat × Nat × Nat} (hq : q ∈ tkFl) (h1 : q.1 = oc) (h2 : q.2.2.1 = n) (h3 : q.2.1 = idx) : ∃ C T N, vwCl[n / 64]? = some (C, T, N) ∧ n % 64 < N ∧ Cond.fieldLink (tkCn oc) idx C (T (n % 64)).2.1 (T (n % 64)).2.2.1 ∈ tkWd ∧ (T (n % 64)).1 = C := by
  have hw := List.all_eq_true.mp tkFl_ok q hq
  subst h1; subst h2; subst h3
  split at hw
  · rename_i C T N e
    simp only [Bool.and_eq_true, decide_eq_true_eq] at hw
    exact ⟨C, T, N, e, hw.1.1, tkWd_in hw.1.2 rfl, hw.2⟩
  · cases hw
theorem tkFs_get {ads : Nat → Nat} {h : tkH} {a ci j : Nat} (hj : j < (tkFk ci).length) : (tkFs ads h a ci)[j]? = some (tkFv ads h a (tkFk ci) j) := by
  unfold tkFs
  rw [List.getElem?_map, List.getElem?_range hj]
  rfl
theorem tkIn_wd {C : String} {T : u_T} {N : Nat} (h : ∀ w ∈ u_ws C T N, w ∈ lw_tbl) : ∀ w ∈ u_ws C T N, w ∈ tkWd := by
  intro w hw
  refine tkWd_mem (h w hw) ?_
  obtain ⟨k, -, rfl⟩ := List.mem_map.mp hw
  unfold u_lay
  split <;> rfl
theorem tkS_getfield {p : Program} {l : Launch} {e : Env} {R : Room} {s : State} {m : MethodId} {args : Array Value} {below : List Frame} {meth : Method} {c : Code} {Qw : State → Prop} {D : va_G} {cy : Nat → ClassId} {ads : Nat → Nat} {nL : Nat} {H0 : Heap} {cc : ByteArray} {oc : Nat} (X : tkX p s m args c cc nL oc D cy ads) {pc : Nat} {ls st : List Value} {h : tkH} {n : Nat} {pcs : List Nat} {rt : Option FieldType} {sc : Bool} {d : Instr × Nat} {N : tkN} {sx : Nat × (Nat → Int32)} {call : tkC} {K : tkK} {Q : tkQ} (hd : decode cc pc = .ok d) (hr : tkRel oc nL pc pcs rt sc d (.getfield n) = true) (hI : tkI sx call K Q (.getfield n) ls st h N) (hN : ∀ ls st h, N ls st h → tkG p l e R s m args below meth c Qw D cy ads nL H0 (pc + d.2) ls st h) : tkG p l e R s m args below meth c Qw D cy ads nL H0 pc ls st h := by
  obtain ⟨hx, hb, hml, hown, hts, hnw, hK, hinj⟩ := X
  unfold tkI at hI
  unfold tkRel at hr
  dsimp only at hI hr
  split at hI
  · rename_i a r
    intro H locs lsA hP hS hL
    simp only [Bool.and_eq_true, decide_eq_true_eq] at hr
    obtain ⟨⟨hr, hkd⟩, hc12⟩ := hr
    obtain ⟨q, hq, hr⟩ := List.any_eq_true.mp hr
    simp only [Bool.and_eq_true, decide_eq_true_eq] at hr
    obtain ⟨⟨h1, h2⟩, rfl⟩ := hr
    obtain ⟨C, T, NN, e, hn, hw, hT⟩ := tkFl_use hq h1 h2 rfl
    obtain ⟨v1, v2, v3, v4⟩ := tkVw e
    have ha := tkWs_at (ads := ads) (cy := cy) (h := h) (tkSh_lt (a := a) (by rw [hI.1]; omega))
    rw [tkWc_o hI.1 hc12] at ha
    have hv : (tkFs ads h a (n / 64))[n % 64]? = some (.int (h.1 a (n % 64))) := by
      rw [tkFs_get (by rw [← v4]; exact hn)]
      unfold tkFv
      rw [if_neg (fun z => hkd (by rw [List.getD_eq_getElem?_getD] at z ⊢; rw [List.getElem?_eq_getElem (by rw [← v4]; exact hn)] at z ⊢; exact z))]
    exact va_get (v := .int (h.1 a (n % 64))) hx hb hts (tkIn_wd v1) hown hK hP a ha e (n % 64) hn (hts _ hw) (fun x hx => by rw [hT] at hx; exact hx) hv hd (hN _ _ _ hI.2 H locs lsA hP hS hL)
  · exact hI.elim
theorem tkS_getref {p : Program} {l : Launch} {e : Env} {R : Room} {s : State} {m : MethodId} {args : Array Value} {below : List Frame} {meth : Method} {c : Code} {Qw : State → Prop} {D : va_G} {cy : Nat → ClassId} {ads : Nat → Nat} {nL : Nat} {H0 : Heap} {cc : ByteArray} {oc : Nat} (X : tkX p s m args c cc nL oc D cy ads) {pc : Nat} {ls st : List Value} {h : tkH} {n : Nat} {pcs : List Nat} {rt : Option FieldType} {sc : Bool} {d : Instr × Nat} {N : tkN} {sx : Nat × (Nat → Int32)} {call : tkC} {K : tkK} {Q : tkQ} (hd : decode cc pc = .ok d) (hr : tkRel oc nL pc pcs rt sc d (.getstatic n) = true) (hI : tkI sx call K Q (.getstatic n) ls st h N) (hN : ∀ ls st h, N ls st h → tkG p l e R s m args below meth c Qw D cy ads nL H0 (pc + d.2) ls st h) : tkG p l e R s m args below meth c Qw D cy ads nL H0 pc ls st h := by
  obtain ⟨hx, hb, hml, hown, hts, hnw, hK, hinj⟩ := X
  unfold tkI at hI
  unfold tkRel at hr
  dsimp only at hI hr
  split at hI
  · rename_i a r
    intro H locs lsA hP hS hL
    simp only [Bool.and_eq_true, decide_eq_true_eq] at hr
    obtain ⟨⟨hr, hkd⟩, hc12⟩ := hr
    obtain ⟨q, hq, hr⟩ := List.any_eq_true.mp hr
    simp only [Bool.and_eq_true, decide_eq_true_eq] at hr
    obtain ⟨⟨h1, h2⟩, rfl⟩ := hr
    obtain ⟨C, T, NN, e, hn, hw, hT⟩ := tkFl_use hq h1 h2 rfl
    obtain ⟨v1, v2, v3, v4⟩ := tkVw e
    have ha := tkWs_at (ads := ads) (cy := cy) (h := h) (tkSh_lt (a := a) (by rw [hI.1]; omega))
    rw [tkWc_o hI.1 hc12] at ha
    have hv : (tkFs ads h a (n / 64))[n % 64]? = some (.ref (ads (tkRf a (n % 64)))) := by
      rw [tkFs_get (by rw [← v4]; exact hn)]
      unfold tkFv
      rw [if_pos hkd]
    exact va_get (v := .ref (ads (tkRf a (n % 64)))) hx hb hts (tkIn_wd v1) hown hK hP a ha e (n % 64) hn (hts _ hw) (fun x hx => by rw [hT] at hx; exact hx) hv hd (hN _ _ _ hI.2 H locs lsA hP hS hL)
  · exact hI.elim
theorem tkS_putfield {p : Program} {l : Launch} {e : Env} {R : Room} {s : State} {m : MethodId} {args : Array Value} {below : List Frame} {meth : Method} {c : Code} {Qw : State → Prop} {D : va_G} {cy : Nat → ClassId} {ads : Nat → Nat} {nL : Nat} {H0 : Heap} {cc : ByteArray} {oc : Nat} (X : tkX p s m args c cc nL oc D cy ads) {pc : Nat} {ls st : List Value} {h : tkH} {n : Nat} {pcs : List Nat} {rt : Option FieldType} {sc : Bool} {d : Instr × Nat} {N : tkN} {sx : Nat × (Nat → Int32)} {call : tkC} {K : tkK} {Q : tkQ} (hd : decode cc pc = .ok d) (hr : tkRel oc nL pc pcs rt sc d (.putfield n) = true) (hI : tkI sx call K Q (.putfield n) ls st h N) (hN : ∀ ls st h, N ls st h → tkG p l e R s m args below meth c Qw D cy ads nL H0 (pc + d.2) ls st h) : tkG p l e R s m args below meth c Qw D cy ads nL H0 pc ls st h := by
  obtain ⟨hx, hb, hml, hown, hts, hnw, hK, hinj⟩ := X
  unfold tkI at hI
  unfold tkRel at hr
  dsimp only at hI hr
  split at hI
  · rename_i v a r
    intro H locs lsA hP hS hL
    simp only [Bool.and_eq_true, decide_eq_true_eq] at hr
    obtain ⟨⟨hr, hkd⟩, hc12⟩ := hr
    obtain ⟨q, hq, hr⟩ := List.any_eq_true.mp hr
    simp only [Bool.and_eq_true, decide_eq_true_eq] at hr
    obtain ⟨⟨h1, h2⟩, rfl⟩ := hr
    obtain ⟨C, T, NN, e, hn, hw, hT⟩ := tkFl_use hq h1 h2 rfl
    obtain ⟨v1, ⟨ty0, v2⟩, v3, v4⟩ := tkVw e
    unfold tkPut at hkd
    rw [e] at hkd
    simp only [Bool.and_eq_true, decide_eq_true_eq, Bool.not_eq_true'] at hkd
    obtain ⟨⟨g1, g2⟩, g3⟩ := hkd
    have hk := tkSh_lt (a := a) (by rw [hI.1]; omega)
    have ha := tkWs_at (ads := ads) (cy := cy) (h := h) hk
    rw [tkWc_o hI.1 hc12] at ha
    refine va_put (v := .int v) (ty := .int) hx hb hts (tkIn_wd v1) ty0 v2 v3 hown hK hP (tkWs_D hinj cy h) hS a ha e (n % 64) hn (hts _ hw) (fun x hx => by rw [hT] at hx; exact hx) g2 g1 rfl rfl (by unfold tkFs; simp only [List.length_map, List.length_range]; rw [← v4]; exact hn) hd (fun H1 locs1 hP1 hD1 hS1 => ?_)
    rw [tkFs_set g3, tkWs_set (h' := (up2 h.1 a (n % 64) v, h.2)) hk (tkWc_o hI.1 hc12) (fun j hj => tkWc_ne (up2_ne _ _ _ hj) rfl)] at hP1
    exact hN _ _ _ hI.2 H1 locs1 lsA hP1 hS1 hL
  · exact hI.elim
theorem tkS_putbool {p : Program} {l : Launch} {e : Env} {R : Room} {s : State} {m : MethodId} {args : Array Value} {below : List Frame} {meth : Method} {c : Code} {Qw : State → Prop} {D : va_G} {cy : Nat → ClassId} {ads : Nat → Nat} {nL : Nat} {H0 : Heap} {cc : ByteArray} {oc : Nat} (X : tkX p s m args c cc nL oc D cy ads) {pc : Nat} {ls st : List Value} {h : tkH} {n : Nat} {pcs : List Nat} {rt : Option FieldType} {sc : Bool} {d : Instr × Nat} {N : tkN} {sx : Nat × (Nat → Int32)} {call : tkC} {K : tkK} {Q : tkQ} (hd : decode cc pc = .ok d) (hr : tkRel oc nL pc pcs rt sc d (.putstatic n) = true) (hI : tkI sx call K Q (.putstatic n) ls st h N) (hN : ∀ ls st h, N ls st h → tkG p l e R s m args below meth c Qw D cy ads nL H0 (pc + d.2) ls st h) : tkG p l e R s m args below meth c Qw D cy ads nL H0 pc ls st h := by
  obtain ⟨hx, hb, hml, hown, hts, hnw, hK, hinj⟩ := X
  unfold tkI at hI
  unfold tkRel at hr
  dsimp only at hI hr
  split at hI
  · rename_i v a r
    intro H locs lsA hP hS hL
    simp only [Bool.and_eq_true, decide_eq_true_eq] at hr
    obtain ⟨⟨hr, hkd⟩, hc12⟩ := hr
    obtain ⟨q, hq, hr⟩ := List.any_eq_true.mp hr
    simp only [Bool.and_eq_true, decide_eq_true_eq] at hr
    obtain ⟨⟨h1, h2⟩, rfl⟩ := hr
    obtain ⟨C, T, NN, e, hn, hw, hT⟩ := tkFl_use hq h1 h2 rfl
    obtain ⟨v1, ⟨ty0, v2⟩, v3, v4⟩ := tkVw e
    unfold tkPut at hkd
    rw [e] at hkd
    simp only [Bool.and_eq_true, decide_eq_true_eq, Bool.not_eq_true'] at hkd
    obtain ⟨⟨g1, g2⟩, g3⟩ := hkd
    have hk := tkSh_lt (a := a) (by rw [hI.1]; omega)
    have ha := tkWs_at (ads := ads) (cy := cy) (h := h) hk
    rw [tkWc_o hI.1 hc12] at ha
    refine va_put (v := .int v) (ty := .boolean) hx hb hts (tkIn_wd v1) ty0 v2 v3 hown hK hP (tkWs_D hinj cy h) hS a ha e (n % 64) hn (hts _ hw) (fun x hx => by rw [hT] at hx; exact hx) g2 g1 (by rcases hI.2.1 with q | q <;> rw [q] <;> rfl) (by rcases hI.2.1 with q | q <;> rw [q] <;> rfl) (by unfold tkFs; simp only [List.length_map, List.length_range]; rw [← v4]; exact hn) hd (fun H1 locs1 hP1 hD1 hS1 => ?_)
    rw [tkFs_set g3, tkWs_set (h' := (up2 h.1 a (n % 64) v, h.2)) hk (tkWc_o hI.1 hc12) (fun j hj => tkWc_ne (up2_ne _ _ _ hj) rfl)] at hP1
    exact hN _ _ _ hI.2.2 H1 locs1 lsA hP1 hS1 hL
  · exact hI.elim
theorem tkS_if_icmp {p : Program} {l : Launch} {e : Env} {R : Room} {s : State} {m : MethodId} {args : Array Value} {below : List Frame} {meth : Method} {c : Code} {Qw : State → Prop} {D : va_G} {cy : Nat → ClassId} {ads : Nat → Nat} {nL : Nat} {H0 : Heap} {cc : ByteArray} {oc : Nat} (X : tkX p s m args c cc nL oc D cy ads) {pc : Nat} {ls st : List Value} {h : tkH} {cd : Jvm.ClassFile.Cond} {t : Int} {pcs : List Nat} {rt : Option FieldType} {sc : Bool} {d : Instr × Nat} {N : tkN} {sx : Nat × (Nat → Int32)} {call : tkC} {K : tkK} {Q : tkQ} (hd : decode cc pc = .ok d) (hKg : ∀ b ls st h, K b ls st h → tkG p l e R s m args below meth c Qw D cy ads nL H0 (pcs.getD b 0) ls st h) (hr : tkRel oc nL pc pcs rt sc d (.if_icmp cd t) = true) (hI : tkI sx call K Q (.if_icmp cd t) ls st h N) (hN : ∀ ls st h, N ls st h → tkG p l e R s m args below meth c Qw D cy ads nL H0 (pc + d.2) ls st h) : tkG p l e R s m args below meth c Qw D cy ads nL H0 pc ls st h := by
  obtain ⟨hx, hb, hml, hown, hts, hnw, hK, hinj⟩ := X
  unfold tkI at hI
  unfold tkRel at hr
  dsimp only at hI hr
  split at hI
  · rename_i y x r
    simp only [decide_eq_true_eq] at hr
    subst hr
    intro H locs lsA hP hS hL
    have ht : ∀ q, icc cd x y → W p l e R s m args below meth c H locs 0 0 Qw (F0 m (pcs.getD t.toNat q) lsA (r.map (tk_cv ads))) ∨ q ≠ 0 := fun q hc => by
      by_cases h0 : q = 0
      · subst h0; exact Or.inl (hKg _ _ _ _ (hI.1 hc) H locs lsA hP hS hL)
      · exact Or.inr h0
    have ht : icc cd x y → W p l e R s m args below meth c H locs 0 0 Qw (F0 m (pcs.getD t.toNat 0) lsA (r.map (tk_cv ads))) := fun hc => hKg _ _ _ _ (hI.1 hc) H locs lsA hP hS hL
    have hf : ¬ icc cd x y → W p l e R s m args below meth c H locs 0 0 Qw (F0 m (pc + 3) lsA (r.map (tk_cv ads))) := fun hc => hN _ _ _ (hI.2 hc) H locs lsA hP hS hL
    have e1 : (pc : Int) + ((pcs.getD t.toNat 0 : Int) - pc) = ((pcs.getD t.toNat 0 : Nat) : Int) := by omega
    cases cd
    · exact lv_icmp_eq hx hb hd e1 ht hf
    · exact lv_icmp_ne hx hb hd e1 ht (fun q => hf (fun z => z q))
    · exact lv_icmp_lt hx hb hd e1 ht hf
    · exact lv_icmp_ge hx hb hd e1 ht hf
    · exact lv_icmp_gt hx hb hd e1 ht hf
    · exact lv_icmp_le hx hb hd e1 ht hf
  · exact hI.elim
theorem tkS_ifCond {p : Program} {l : Launch} {e : Env} {R : Room} {s : State} {m : MethodId} {args : Array Value} {below : List Frame} {meth : Method} {c : Code} {Qw : State → Prop} {D : va_G} {cy : Nat → ClassId} {ads : Nat → Nat} {nL : Nat} {H0 : Heap} {cc : ByteArray} {oc : Nat} (X : tkX p s m args c cc nL oc D cy ads) {pc : Nat} {ls st : List Value} {h : tkH} {cd : Jvm.ClassFile.Cond} {t : Int} {pcs : List Nat} {rt : Option FieldType} {sc : Bool} {d : Instr × Nat} {N : tkN} {sx : Nat × (Nat → Int32)} {call : tkC} {K : tkK} {Q : tkQ} (hd : decode cc pc = .ok d) (hKg : ∀ b ls st h, K b ls st h → tkG p l e R s m args below meth c Qw D cy ads nL H0 (pcs.getD b 0) ls st h) (hr : tkRel oc nL pc pcs rt sc d (.ifCond cd t) = true) (hI : tkI sx call K Q (.ifCond cd t) ls st h N) (hN : ∀ ls st h, N ls st h → tkG p l e R s m args below meth c Qw D cy ads nL H0 (pc + d.2) ls st h) : tkG p l e R s m args below meth c Qw D cy ads nL H0 pc ls st h := by
  obtain ⟨hx, hb, hml, hown, hts, hnw, hK, hinj⟩ := X
  unfold tkI at hI
  unfold tkRel at hr
  dsimp only at hI hr
  split at hI
  · rename_i x r
    simp only [decide_eq_true_eq] at hr
    subst hr
    intro H locs lsA hP hS hL
    have ht : icc cd x 0 → W p l e R s m args below meth c H locs 0 0 Qw (F0 m (pcs.getD t.toNat 0) lsA (r.map (tk_cv ads))) := fun hc => hKg _ _ _ _ (hI.1 hc) H locs lsA hP hS hL
    have hf : ¬ icc cd x 0 → W p l e R s m args below meth c H locs 0 0 Qw (F0 m (pc + 3) lsA (r.map (tk_cv ads))) := fun hc => hN _ _ _ (hI.2 hc) H locs lsA hP hS hL
    have e1 : (pc : Int) + ((pcs.getD t.toNat 0 : Int) - pc) = ((pcs.getD t.toNat 0 : Nat) : Int) := by omega
    cases cd
    · exact lv_if_eq hx hb hd e1 ht hf
    · exact lv_if_ne hx hb hd e1 ht (fun q => hf (fun z => z q))
    · exact lv_if_lt hx hb hd e1 ht hf
    · exact lv_if_ge hx hb hd e1 ht hf
    · exact lv_if_gt hx hb hd e1 ht hf
    · exact lv_if_le hx hb hd e1 ht hf
  · exact hI.elim
theorem tkS_goto {p : Program} {l : Launch} {e : Env} {R : Room} {s : State} {m : MethodId} {args : Array Value} {below : List Frame} {meth : Method} {c : Code} {Qw : State → Prop} {D : va_G} {cy : Nat → ClassId} {ads : Nat → Nat} {nL : Nat} {H0 : Heap} {cc : ByteArray} {oc : Nat} (X : tkX p s m args c cc nL oc D cy ads) {pc : Nat} {ls st : List Value} {h : tkH} {t : Int} {pcs : List Nat} {rt : Option FieldType} {sc : Bool} {d : Instr × Nat} {N : tkN} {sx : Nat × (Nat → Int32)} {call : tkC} {K : tkK} {Q : tkQ} (hd : decode cc pc = .ok d) (hKg : ∀ b ls st h, K b ls st h → tkG p l e R s m args below meth c Qw D cy ads nL H0 (pcs.getD b 0) ls st h) (hr : tkRel oc nL pc pcs rt sc d (.goto t) = true) (hI : tkI sx call K Q (.goto t) ls st h N) (hN : ∀ ls st h, N ls st h → tkG p l e R s m args below meth c Qw D cy ads nL H0 (pc + d.2) ls st h) : tkG p l e R s m args below meth c Qw D cy ads nL H0 pc ls st h := by
  obtain ⟨hx, hb, hml, hown, hts, hnw, hK, hinj⟩ := X
  unfold tkI at hI
  unfold tkRel at hr
  dsimp only at hI hr
  simp only [decide_eq_true_eq] at hr
  subst hr
  intro H locs lsA hP hS hL
  exact lv_goto (tgt := pcs.getD t.toNat 0) hx hb hd (by omega) (hKg _ _ _ _ hI H locs lsA hP hS hL)
theorem tkS_tableswitch {p : Program} {l : Launch} {e : Env} {R : Room} {s : State} {m : MethodId} {args : Array Value} {below : List Frame} {meth : Method} {c : Code} {Qw : State → Prop} {D : va_G} {cy : Nat → ClassId} {ads : Nat → Nat} {nL : Nat} {H0 : Heap} {cc : ByteArray} {oc : Nat} (X : tkX p s m args c cc nL oc D cy ads) {pc : Nat} {ls st : List Value} {h : tkH} {dd lo hi : Int} {bs : Array Int} {pcs : List Nat} {rt : Option FieldType} {sc : Bool} {d : Instr × Nat} {N : tkN} {sx : Nat × (Nat → Int32)} {call : tkC} {K : tkK} {Q : tkQ} (hd : decode cc pc = .ok d) (hKg : ∀ b ls st h, K b ls st h → tkG p l e R s m args below meth c Qw D cy ads nL H0 (pcs.getD b 0) ls st h) (hr : tkRel oc nL pc pcs rt sc d (.tableswitch dd lo hi bs) = true) (hI : tkI sx call K Q (.tableswitch dd lo hi bs) ls st h N) (hN : ∀ ls st h, N ls st h → tkG p l e R s m args below meth c Qw D cy ads nL H0 (pc + d.2) ls st h) : tkG p l e R s m args below meth c Qw D cy ads nL H0 pc ls st h := by
  obtain ⟨hx, hb, hml, hown, hts, hnw, hK, hinj⟩ := X
  unfold tkI at hI
  unfold tkRel at hr
  dsimp only at hI hr
  split at hI
  · rename_i x r
    simp only [Bool.and_eq_true, decide_eq_true_eq] at hr
    obtain ⟨hr, hsz⟩ := hr
    obtain ⟨d1, d2⟩ := d
    dsimp only at hr
    subst hr
    intro H locs lsA hP hS hL
    by_cases h1 : x.toInt < lo
    · exact lv_tableOut (tgt := pcs.getD dd.toNat 0) hx hb hd (Or.inl h1) (by omega) (hKg _ _ _ _ (hI.1 (Or.inl h1)) H locs lsA hP hS hL)
    · by_cases h2 : hi < x.toInt
      · exact lv_tableOut (tgt := pcs.getD dd.toNat 0) hx hb hd (Or.inr h2) (by omega) (hKg _ _ _ _ (hI.1 (Or.inr h2)) H locs lsA hP hS hL)
      · have hk := hKg _ _ _ _ (hI.2 h1 h2) H locs lsA hP hS hL
        have hlt : (x.toInt - lo).toNat < bs.size := by omega
        refine lv_tableIn (off := (pcs.getD (bs.getD (x.toInt - lo).toNat 0).toNat 0 : Int) - pc) (tgt := pcs.getD (bs.getD (x.toInt - lo).toNat 0).toNat 0) hx hb hd h1 h2 ?_ (by omega) hk
        rw [Array.getElem?_map, Array.getElem?_eq_getElem hlt]
        simp [Array.getD, hlt]
  · exact hI.elim
