/-! soundness, with cells made before -/
def tkGz (nc ns : Nat) (p : Program) (l : Launch) (e : Env) (R : Room) (s : State) (m : MethodId) (args : Array Value) (below : List Frame) (meth : Method) (c : Code) (Qw : State → Prop) (D : va_G) (cy ads : Nat → Nat) (nL : Nat) (H0 : Heap) (pc : Nat) (ls st : List Value) (h : tkH) : Prop :=
  ∀ (H : Heap) (locs : List Loc) (lsA : Array Slot), va_P D vwCl (tkWs ads cy h) H → va_S (tkA ads) H0 H locs → tkL ads nL lsA ls → W p l e R s m args below meth c H locs nc ns Qw (F0 m pc lsA (st.map (tk_cv ads)))

theorem tkZ_iadd {nc ns : Nat} {p : Program} {l : Launch} {e : Env} {R : Room} {s : State} {m : MethodId} {args : Array Value} {below : List Frame} {meth : Method} {c : Code} {Qw : State → Prop} {D : va_G} {cy : Nat → ClassId} {ads : Nat → Nat} {nL : Nat} {H0 : Heap} {cc : ByteArray} {oc : Nat} (X : tkX p s m args c cc nL oc D cy ads) {pc : Nat} {ls st : List Value} {h : tkH} {N : tkN} {sx : Nat × (Nat → Int32)} {call : tkC} {K : tkK} {Q : tkQ} (hd : decode cc pc = .ok (.iadd, 1)) (hI : tkI sx call K Q .iadd ls st h N) (hN : ∀ ls st h, N ls st h → tkGz nc ns p l e R s m args below meth c Qw D cy ads nL H0 (pc + 1) ls st h) : tkGz nc ns p l e R s m args below meth c Qw D cy ads nL H0 pc ls st h := by
  obtain ⟨hx, hb, hml, hown, hts, hnw, hK, hinj⟩ := X
  unfold tkI at hI
  dsimp only at hI
  split at hI
  · intro H locs lsA hP hS hL
    exact lv_iadd hx hb hd (hN _ _ _ hI H locs lsA hP hS hL)
  · exact hI.elim
theorem tkZ_isub {nc ns : Nat} {p : Program} {l : Launch} {e : Env} {R : Room} {s : State} {m : MethodId} {args : Array Value} {below : List Frame} {meth : Method} {c : Code} {Qw : State → Prop} {D : va_G} {cy : Nat → ClassId} {ads : Nat → Nat} {nL : Nat} {H0 : Heap} {cc : ByteArray} {oc : Nat} (X : tkX p s m args c cc nL oc D cy ads) {pc : Nat} {ls st : List Value} {h : tkH} {N : tkN} {sx : Nat × (Nat → Int32)} {call : tkC} {K : tkK} {Q : tkQ} (hd : decode cc pc = .ok (.isub, 1)) (hI : tkI sx call K Q .isub ls st h N) (hN : ∀ ls st h, N ls st h → tkGz nc ns p l e R s m args below meth c Qw D cy ads nL H0 (pc + 1) ls st h) : tkGz nc ns p l e R s m args below meth c Qw D cy ads nL H0 pc ls st h := by
  obtain ⟨hx, hb, hml, hown, hts, hnw, hK, hinj⟩ := X
  unfold tkI at hI
  dsimp only at hI
  split at hI
  · intro H locs lsA hP hS hL
    exact lv_isub hx hb hd (hN _ _ _ hI H locs lsA hP hS hL)
  · exact hI.elim
theorem tkZ_imul {nc ns : Nat} {p : Program} {l : Launch} {e : Env} {R : Room} {s : State} {m : MethodId} {args : Array Value} {below : List Frame} {meth : Method} {c : Code} {Qw : State → Prop} {D : va_G} {cy : Nat → ClassId} {ads : Nat → Nat} {nL : Nat} {H0 : Heap} {cc : ByteArray} {oc : Nat} (X : tkX p s m args c cc nL oc D cy ads) {pc : Nat} {ls st : List Value} {h : tkH} {N : tkN} {sx : Nat × (Nat → Int32)} {call : tkC} {K : tkK} {Q : tkQ} (hd : decode cc pc = .ok (.imul, 1)) (hI : tkI sx call K Q .imul ls st h N) (hN : ∀ ls st h, N ls st h → tkGz nc ns p l e R s m args below meth c Qw D cy ads nL H0 (pc + 1) ls st h) : tkGz nc ns p l e R s m args below meth c Qw D cy ads nL H0 pc ls st h := by
  obtain ⟨hx, hb, hml, hown, hts, hnw, hK, hinj⟩ := X
  unfold tkI at hI
  dsimp only at hI
  split at hI
  · intro H locs lsA hP hS hL
    exact lv_imul hx hb hd (hN _ _ _ hI H locs lsA hP hS hL)
  · exact hI.elim
theorem tkZ_iand {nc ns : Nat} {p : Program} {l : Launch} {e : Env} {R : Room} {s : State} {m : MethodId} {args : Array Value} {below : List Frame} {meth : Method} {c : Code} {Qw : State → Prop} {D : va_G} {cy : Nat → ClassId} {ads : Nat → Nat} {nL : Nat} {H0 : Heap} {cc : ByteArray} {oc : Nat} (X : tkX p s m args c cc nL oc D cy ads) {pc : Nat} {ls st : List Value} {h : tkH} {N : tkN} {sx : Nat × (Nat → Int32)} {call : tkC} {K : tkK} {Q : tkQ} (hd : decode cc pc = .ok (.iand, 1)) (hI : tkI sx call K Q .iand ls st h N) (hN : ∀ ls st h, N ls st h → tkGz nc ns p l e R s m args below meth c Qw D cy ads nL H0 (pc + 1) ls st h) : tkGz nc ns p l e R s m args below meth c Qw D cy ads nL H0 pc ls st h := by
  obtain ⟨hx, hb, hml, hown, hts, hnw, hK, hinj⟩ := X
  unfold tkI at hI
  dsimp only at hI
  split at hI
  · intro H locs lsA hP hS hL
    exact lv_iand hx hb hd (hN _ _ _ hI H locs lsA hP hS hL)
  · exact hI.elim
theorem tkZ_ior {nc ns : Nat} {p : Program} {l : Launch} {e : Env} {R : Room} {s : State} {m : MethodId} {args : Array Value} {below : List Frame} {meth : Method} {c : Code} {Qw : State → Prop} {D : va_G} {cy : Nat → ClassId} {ads : Nat → Nat} {nL : Nat} {H0 : Heap} {cc : ByteArray} {oc : Nat} (X : tkX p s m args c cc nL oc D cy ads) {pc : Nat} {ls st : List Value} {h : tkH} {N : tkN} {sx : Nat × (Nat → Int32)} {call : tkC} {K : tkK} {Q : tkQ} (hd : decode cc pc = .ok (.ior, 1)) (hI : tkI sx call K Q .ior ls st h N) (hN : ∀ ls st h, N ls st h → tkGz nc ns p l e R s m args below meth c Qw D cy ads nL H0 (pc + 1) ls st h) : tkGz nc ns p l e R s m args below meth c Qw D cy ads nL H0 pc ls st h := by
  obtain ⟨hx, hb, hml, hown, hts, hnw, hK, hinj⟩ := X
  unfold tkI at hI
  dsimp only at hI
  split at hI
  · intro H locs lsA hP hS hL
    exact lv_ior hx hb hd (hN _ _ _ hI H locs lsA hP hS hL)
  · exact hI.elim
theorem tkZ_ixor {nc ns : Nat} {p : Program} {l : Launch} {e : Env} {R : Room} {s : State} {m : MethodId} {args : Array Value} {below : List Frame} {meth : Method} {c : Code} {Qw : State → Prop} {D : va_G} {cy : Nat → ClassId} {ads : Nat → Nat} {nL : Nat} {H0 : Heap} {cc : ByteArray} {oc : Nat} (X : tkX p s m args c cc nL oc D cy ads) {pc : Nat} {ls st : List Value} {h : tkH} {N : tkN} {sx : Nat × (Nat → Int32)} {call : tkC} {K : tkK} {Q : tkQ} (hd : decode cc pc = .ok (.ixor, 1)) (hI : tkI sx call K Q .ixor ls st h N) (hN : ∀ ls st h, N ls st h → tkGz nc ns p l e R s m args below meth c Qw D cy ads nL H0 (pc + 1) ls st h) : tkGz nc ns p l e R s m args below meth c Qw D cy ads nL H0 pc ls st h := by
  obtain ⟨hx, hb, hml, hown, hts, hnw, hK, hinj⟩ := X
  unfold tkI at hI
  dsimp only at hI
  split at hI
  · intro H locs lsA hP hS hL
    exact lv_ixor hx hb hd (hN _ _ _ hI H locs lsA hP hS hL)
  · exact hI.elim
theorem tkZ_ishl {nc ns : Nat} {p : Program} {l : Launch} {e : Env} {R : Room} {s : State} {m : MethodId} {args : Array Value} {below : List Frame} {meth : Method} {c : Code} {Qw : State → Prop} {D : va_G} {cy : Nat → ClassId} {ads : Nat → Nat} {nL : Nat} {H0 : Heap} {cc : ByteArray} {oc : Nat} (X : tkX p s m args c cc nL oc D cy ads) {pc : Nat} {ls st : List Value} {h : tkH} {N : tkN} {sx : Nat × (Nat → Int32)} {call : tkC} {K : tkK} {Q : tkQ} (hd : decode cc pc = .ok (.ishl, 1)) (hI : tkI sx call K Q .ishl ls st h N) (hN : ∀ ls st h, N ls st h → tkGz nc ns p l e R s m args below meth c Qw D cy ads nL H0 (pc + 1) ls st h) : tkGz nc ns p l e R s m args below meth c Qw D cy ads nL H0 pc ls st h := by
  obtain ⟨hx, hb, hml, hown, hts, hnw, hK, hinj⟩ := X
  unfold tkI at hI
  dsimp only at hI
  split at hI
  · intro H locs lsA hP hS hL
    exact lv_ishl hx hb hd (hN _ _ _ hI H locs lsA hP hS hL)
  · exact hI.elim
theorem tkZ_ishr {nc ns : Nat} {p : Program} {l : Launch} {e : Env} {R : Room} {s : State} {m : MethodId} {args : Array Value} {below : List Frame} {meth : Method} {c : Code} {Qw : State → Prop} {D : va_G} {cy : Nat → ClassId} {ads : Nat → Nat} {nL : Nat} {H0 : Heap} {cc : ByteArray} {oc : Nat} (X : tkX p s m args c cc nL oc D cy ads) {pc : Nat} {ls st : List Value} {h : tkH} {N : tkN} {sx : Nat × (Nat → Int32)} {call : tkC} {K : tkK} {Q : tkQ} (hd : decode cc pc = .ok (.ishr, 1)) (hI : tkI sx call K Q .ishr ls st h N) (hN : ∀ ls st h, N ls st h → tkGz nc ns p l e R s m args below meth c Qw D cy ads nL H0 (pc + 1) ls st h) : tkGz nc ns p l e R s m args below meth c Qw D cy ads nL H0 pc ls st h := by
  obtain ⟨hx, hb, hml, hown, hts, hnw, hK, hinj⟩ := X
  unfold tkI at hI
  dsimp only at hI
  split at hI
  · intro H locs lsA hP hS hL
    exact lv_ishr hx hb hd (hN _ _ _ hI H locs lsA hP hS hL)
  · exact hI.elim
theorem tkZ_ladd {nc ns : Nat} {p : Program} {l : Launch} {e : Env} {R : Room} {s : State} {m : MethodId} {args : Array Value} {below : List Frame} {meth : Method} {c : Code} {Qw : State → Prop} {D : va_G} {cy : Nat → ClassId} {ads : Nat → Nat} {nL : Nat} {H0 : Heap} {cc : ByteArray} {oc : Nat} (X : tkX p s m args c cc nL oc D cy ads) {pc : Nat} {ls st : List Value} {h : tkH} {N : tkN} {sx : Nat × (Nat → Int32)} {call : tkC} {K : tkK} {Q : tkQ} (hd : decode cc pc = .ok (.ladd, 1)) (hI : tkI sx call K Q .ladd ls st h N) (hN : ∀ ls st h, N ls st h → tkGz nc ns p l e R s m args below meth c Qw D cy ads nL H0 (pc + 1) ls st h) : tkGz nc ns p l e R s m args below meth c Qw D cy ads nL H0 pc ls st h := by
  obtain ⟨hx, hb, hml, hown, hts, hnw, hK, hinj⟩ := X
  unfold tkI at hI
  dsimp only at hI
  split at hI
  · intro H locs lsA hP hS hL
    exact lv_ladd hx hb hd (hN _ _ _ hI H locs lsA hP hS hL)
  · exact hI.elim
theorem tkZ_lmul {nc ns : Nat} {p : Program} {l : Launch} {e : Env} {R : Room} {s : State} {m : MethodId} {args : Array Value} {below : List Frame} {meth : Method} {c : Code} {Qw : State → Prop} {D : va_G} {cy : Nat → ClassId} {ads : Nat → Nat} {nL : Nat} {H0 : Heap} {cc : ByteArray} {oc : Nat} (X : tkX p s m args c cc nL oc D cy ads) {pc : Nat} {ls st : List Value} {h : tkH} {N : tkN} {sx : Nat × (Nat → Int32)} {call : tkC} {K : tkK} {Q : tkQ} (hd : decode cc pc = .ok (.lmul, 1)) (hI : tkI sx call K Q .lmul ls st h N) (hN : ∀ ls st h, N ls st h → tkGz nc ns p l e R s m args below meth c Qw D cy ads nL H0 (pc + 1) ls st h) : tkGz nc ns p l e R s m args below meth c Qw D cy ads nL H0 pc ls st h := by
  obtain ⟨hx, hb, hml, hown, hts, hnw, hK, hinj⟩ := X
  unfold tkI at hI
  dsimp only at hI
  split at hI
  · intro H locs lsA hP hS hL
    exact lv_lmul hx hb hd (hN _ _ _ hI H locs lsA hP hS hL)
  · exact hI.elim
theorem tkZ_land {nc ns : Nat} {p : Program} {l : Launch} {e : Env} {R : Room} {s : State} {m : MethodId} {args : Array Value} {below : List Frame} {meth : Method} {c : Code} {Qw : State → Prop} {D : va_G} {cy : Nat → ClassId} {ads : Nat → Nat} {nL : Nat} {H0 : Heap} {cc : ByteArray} {oc : Nat} (X : tkX p s m args c cc nL oc D cy ads) {pc : Nat} {ls st : List Value} {h : tkH} {N : tkN} {sx : Nat × (Nat → Int32)} {call : tkC} {K : tkK} {Q : tkQ} (hd : decode cc pc = .ok (.land, 1)) (hI : tkI sx call K Q .land ls st h N) (hN : ∀ ls st h, N ls st h → tkGz nc ns p l e R s m args below meth c Qw D cy ads nL H0 (pc + 1) ls st h) : tkGz nc ns p l e R s m args below meth c Qw D cy ads nL H0 pc ls st h := by
  obtain ⟨hx, hb, hml, hown, hts, hnw, hK, hinj⟩ := X
  unfold tkI at hI
  dsimp only at hI
  split at hI
  · intro H locs lsA hP hS hL
    exact lv_land hx hb hd (hN _ _ _ hI H locs lsA hP hS hL)
  · exact hI.elim
theorem tkZ_lor {nc ns : Nat} {p : Program} {l : Launch} {e : Env} {R : Room} {s : State} {m : MethodId} {args : Array Value} {below : List Frame} {meth : Method} {c : Code} {Qw : State → Prop} {D : va_G} {cy : Nat → ClassId} {ads : Nat → Nat} {nL : Nat} {H0 : Heap} {cc : ByteArray} {oc : Nat} (X : tkX p s m args c cc nL oc D cy ads) {pc : Nat} {ls st : List Value} {h : tkH} {N : tkN} {sx : Nat × (Nat → Int32)} {call : tkC} {K : tkK} {Q : tkQ} (hd : decode cc pc = .ok (.lor, 1)) (hI : tkI sx call K Q .lor ls st h N) (hN : ∀ ls st h, N ls st h → tkGz nc ns p l e R s m args below meth c Qw D cy ads nL H0 (pc + 1) ls st h) : tkGz nc ns p l e R s m args below meth c Qw D cy ads nL H0 pc ls st h := by
  obtain ⟨hx, hb, hml, hown, hts, hnw, hK, hinj⟩ := X
  unfold tkI at hI
  dsimp only at hI
  split at hI
  · intro H locs lsA hP hS hL
    exact lv_lor hx hb hd (hN _ _ _ hI H locs lsA hP hS hL)
  · exact hI.elim
theorem tkZ_iushr {nc ns : Nat} {p : Program} {l : Launch} {e : Env} {R : Room} {s : State} {m : MethodId} {args : Array Value} {below : List Frame} {meth : Method} {c : Code} {Qw : State → Prop} {D : va_G} {cy : Nat → ClassId} {ads : Nat → Nat} {nL : Nat} {H0 : Heap} {cc : ByteArray} {oc : Nat} (X : tkX p s m args c cc nL oc D cy ads) {pc : Nat} {ls st : List Value} {h : tkH} {N : tkN} {sx : Nat × (Nat → Int32)} {call : tkC} {K : tkK} {Q : tkQ} (hd : decode cc pc = .ok (.iushr, 1)) (hI : tkI sx call K Q .iushr ls st h N) (hN : ∀ ls st h, N ls st h → tkGz nc ns p l e R s m args below meth c Qw D cy ads nL H0 (pc + 1) ls st h) : tkGz nc ns p l e R s m args below meth c Qw D cy ads nL H0 pc ls st h := by
  obtain ⟨hx, hb, hml, hown, hts, hnw, hK, hinj⟩ := X
  unfold tkI at hI
  dsimp only at hI
  split at hI
  · intro H locs lsA hP hS hL
    exact lv_iushr hx hb hd rfl (hN _ _ _ hI H locs lsA hP hS hL)
  · exact hI.elim
theorem tkZ_lshl {nc ns : Nat} {p : Program} {l : Launch} {e : Env} {R : Room} {s : State} {m : MethodId} {args : Array Value} {below : List Frame} {meth : Method} {c : Code} {Qw : State → Prop} {D : va_G} {cy : Nat → ClassId} {ads : Nat → Nat} {nL : Nat} {H0 : Heap} {cc : ByteArray} {oc : Nat} (X : tkX p s m args c cc nL oc D cy ads) {pc : Nat} {ls st : List Value} {h : tkH} {N : tkN} {sx : Nat × (Nat → Int32)} {call : tkC} {K : tkK} {Q : tkQ} (hd : decode cc pc = .ok (.lshl, 1)) (hI : tkI sx call K Q .lshl ls st h N) (hN : ∀ ls st h, N ls st h → tkGz nc ns p l e R s m args below meth c Qw D cy ads nL H0 (pc + 1) ls st h) : tkGz nc ns p l e R s m args below meth c Qw D cy ads nL H0 pc ls st h := by
  obtain ⟨hx, hb, hml, hown, hts, hnw, hK, hinj⟩ := X
  unfold tkI at hI
  dsimp only at hI
  split at hI
  · intro H locs lsA hP hS hL
    exact lv_lshl hx hb hd rfl (hN _ _ _ hI H locs lsA hP hS hL)
  · exact hI.elim
theorem tkZ_lushr {nc ns : Nat} {p : Program} {l : Launch} {e : Env} {R : Room} {s : State} {m : MethodId} {args : Array Value} {below : List Frame} {meth : Method} {c : Code} {Qw : State → Prop} {D : va_G} {cy : Nat → ClassId} {ads : Nat → Nat} {nL : Nat} {H0 : Heap} {cc : ByteArray} {oc : Nat} (X : tkX p s m args c cc nL oc D cy ads) {pc : Nat} {ls st : List Value} {h : tkH} {N : tkN} {sx : Nat × (Nat → Int32)} {call : tkC} {K : tkK} {Q : tkQ} (hd : decode cc pc = .ok (.lushr, 1)) (hI : tkI sx call K Q .lushr ls st h N) (hN : ∀ ls st h, N ls st h → tkGz nc ns p l e R s m args below meth c Qw D cy ads nL H0 (pc + 1) ls st h) : tkGz nc ns p l e R s m args below meth c Qw D cy ads nL H0 pc ls st h := by
  obtain ⟨hx, hb, hml, hown, hts, hnw, hK, hinj⟩ := X
  unfold tkI at hI
  dsimp only at hI
  split at hI
  · intro H locs lsA hP hS hL
    exact lv_lushr hx hb hd rfl (hN _ _ _ hI H locs lsA hP hS hL)
  · exact hI.elim
theorem tkZ_i2l {nc ns : Nat} {p : Program} {l : Launch} {e : Env} {R : Room} {s : State} {m : MethodId} {args : Array Value} {below : List Frame} {meth : Method} {c : Code} {Qw : State → Prop} {D : va_G} {cy : Nat → ClassId} {ads : Nat → Nat} {nL : Nat} {H0 : Heap} {cc : ByteArray} {oc : Nat} (X : tkX p s m args c cc nL oc D cy ads) {pc : Nat} {ls st : List Value} {h : tkH} {N : tkN} {sx : Nat × (Nat → Int32)} {call : tkC} {K : tkK} {Q : tkQ} (hd : decode cc pc = .ok (.i2l, 1)) (hI : tkI sx call K Q .i2l ls st h N) (hN : ∀ ls st h, N ls st h → tkGz nc ns p l e R s m args below meth c Qw D cy ads nL H0 (pc + 1) ls st h) : tkGz nc ns p l e R s m args below meth c Qw D cy ads nL H0 pc ls st h := by
  obtain ⟨hx, hb, hml, hown, hts, hnw, hK, hinj⟩ := X
  unfold tkI at hI
  dsimp only at hI
  split at hI
  · intro H locs lsA hP hS hL
    exact lv_i2l hx hb hd rfl (hN _ _ _ hI H locs lsA hP hS hL)
  · exact hI.elim
theorem tkZ_idiv {nc ns : Nat} {p : Program} {l : Launch} {e : Env} {R : Room} {s : State} {m : MethodId} {args : Array Value} {below : List Frame} {meth : Method} {c : Code} {Qw : State → Prop} {D : va_G} {cy : Nat → ClassId} {ads : Nat → Nat} {nL : Nat} {H0 : Heap} {cc : ByteArray} {oc : Nat} (X : tkX p s m args c cc nL oc D cy ads) {pc : Nat} {ls st : List Value} {h : tkH} {N : tkN} {sx : Nat × (Nat → Int32)} {call : tkC} {K : tkK} {Q : tkQ} (hd : decode cc pc = .ok (.idiv, 1)) (hI : tkI sx call K Q .idiv ls st h N) (hN : ∀ ls st h, N ls st h → tkGz nc ns p l e R s m args below meth c Qw D cy ads nL H0 (pc + 1) ls st h) : tkGz nc ns p l e R s m args below meth c Qw D cy ads nL H0 pc ls st h := by
  obtain ⟨hx, hb, hml, hown, hts, hnw, hK, hinj⟩ := X
  unfold tkI at hI
  dsimp only at hI
  split at hI
  · intro H locs lsA hP hS hL
    exact lv_idiv hx hb hd hI.1 (hN _ _ _ hI.2 H locs lsA hP hS hL)
  · exact hI.elim
theorem tkZ_irem {nc ns : Nat} {p : Program} {l : Launch} {e : Env} {R : Room} {s : State} {m : MethodId} {args : Array Value} {below : List Frame} {meth : Method} {c : Code} {Qw : State → Prop} {D : va_G} {cy : Nat → ClassId} {ads : Nat → Nat} {nL : Nat} {H0 : Heap} {cc : ByteArray} {oc : Nat} (X : tkX p s m args c cc nL oc D cy ads) {pc : Nat} {ls st : List Value} {h : tkH} {N : tkN} {sx : Nat × (Nat → Int32)} {call : tkC} {K : tkK} {Q : tkQ} (hd : decode cc pc = .ok (.irem, 1)) (hI : tkI sx call K Q .irem ls st h N) (hN : ∀ ls st h, N ls st h → tkGz nc ns p l e R s m args below meth c Qw D cy ads nL H0 (pc + 1) ls st h) : tkGz nc ns p l e R s m args below meth c Qw D cy ads nL H0 pc ls st h := by
  obtain ⟨hx, hb, hml, hown, hts, hnw, hK, hinj⟩ := X
  unfold tkI at hI
  dsimp only at hI
  split at hI
  · intro H locs lsA hP hS hL
    exact lv_irem hx hb hd hI.1 (hN _ _ _ hI.2 H locs lsA hP hS hL)
  · exact hI.elim
theorem tkZ_lcmp {nc ns : Nat} {p : Program} {l : Launch} {e : Env} {R : Room} {s : State} {m : MethodId} {args : Array Value} {below : List Frame} {meth : Method} {c : Code} {Qw : State → Prop} {D : va_G} {cy : Nat → ClassId} {ads : Nat → Nat} {nL : Nat} {H0 : Heap} {cc : ByteArray} {oc : Nat} (X : tkX p s m args c cc nL oc D cy ads) {pc : Nat} {ls st : List Value} {h : tkH} {N : tkN} {sx : Nat × (Nat → Int32)} {call : tkC} {K : tkK} {Q : tkQ} (hd : decode cc pc = .ok (.lcmp, 1)) (hI : tkI sx call K Q .lcmp ls st h N) (hN : ∀ ls st h, N ls st h → tkGz nc ns p l e R s m args below meth c Qw D cy ads nL H0 (pc + 1) ls st h) : tkGz nc ns p l e R s m args below meth c Qw D cy ads nL H0 pc ls st h := by
  obtain ⟨hx, hb, hml, hown, hts, hnw, hK, hinj⟩ := X
  unfold tkI at hI
  dsimp only at hI
  split at hI
  · intro H locs lsA hP hS hL
    exact W.lcmp hx hb hd (hN _ _ _ hI H locs lsA hP hS hL)
  · exact hI.elim
theorem tkZ_dup {nc ns : Nat} {p : Program} {l : Launch} {e : Env} {R : Room} {s : State} {m : MethodId} {args : Array Value} {below : List Frame} {meth : Method} {c : Code} {Qw : State → Prop} {D : va_G} {cy : Nat → ClassId} {ads : Nat → Nat} {nL : Nat} {H0 : Heap} {cc : ByteArray} {oc : Nat} (X : tkX p s m args c cc nL oc D cy ads) {pc : Nat} {ls st : List Value} {h : tkH} {N : tkN} {sx : Nat × (Nat → Int32)} {call : tkC} {K : tkK} {Q : tkQ} (hd : decode cc pc = .ok (.dup, 1)) (hI : tkI sx call K Q .dup ls st h N) (hN : ∀ ls st h, N ls st h → tkGz nc ns p l e R s m args below meth c Qw D cy ads nL H0 (pc + 1) ls st h) : tkGz nc ns p l e R s m args below meth c Qw D cy ads nL H0 pc ls st h := by
  obtain ⟨hx, hb, hml, hown, hts, hnw, hK, hinj⟩ := X
  unfold tkI at hI
  dsimp only at hI
  split at hI
  · intro H locs lsA hP hS hL
    exact lv_dup hx hb hd (by rw [tk_cv_cat]; exact hI.1) (hN _ _ _ hI.2 H locs lsA hP hS hL)
  · exact hI.elim
theorem tkZ_pop {nc ns : Nat} {p : Program} {l : Launch} {e : Env} {R : Room} {s : State} {m : MethodId} {args : Array Value} {below : List Frame} {meth : Method} {c : Code} {Qw : State → Prop} {D : va_G} {cy : Nat → ClassId} {ads : Nat → Nat} {nL : Nat} {H0 : Heap} {cc : ByteArray} {oc : Nat} (X : tkX p s m args c cc nL oc D cy ads) {pc : Nat} {ls st : List Value} {h : tkH} {N : tkN} {sx : Nat × (Nat → Int32)} {call : tkC} {K : tkK} {Q : tkQ} (hd : decode cc pc = .ok (.pop, 1)) (hI : tkI sx call K Q .pop ls st h N) (hN : ∀ ls st h, N ls st h → tkGz nc ns p l e R s m args below meth c Qw D cy ads nL H0 (pc + 1) ls st h) : tkGz nc ns p l e R s m args below meth c Qw D cy ads nL H0 pc ls st h := by
  obtain ⟨hx, hb, hml, hown, hts, hnw, hK, hinj⟩ := X
  unfold tkI at hI
  dsimp only at hI
  split at hI
  · intro H locs lsA hP hS hL
    exact lv_pop hx hb hd (by rw [tk_cv_cat]; exact hI.1) (hN _ _ _ hI.2 H locs lsA hP hS hL)
  · exact hI.elim
theorem tkZ_dup2 {nc ns : Nat} {p : Program} {l : Launch} {e : Env} {R : Room} {s : State} {m : MethodId} {args : Array Value} {below : List Frame} {meth : Method} {c : Code} {Qw : State → Prop} {D : va_G} {cy : Nat → ClassId} {ads : Nat → Nat} {nL : Nat} {H0 : Heap} {cc : ByteArray} {oc : Nat} (X : tkX p s m args c cc nL oc D cy ads) {pc : Nat} {ls st : List Value} {h : tkH} {N : tkN} {sx : Nat × (Nat → Int32)} {call : tkC} {K : tkK} {Q : tkQ} (hd : decode cc pc = .ok (.dup2, 1)) (hI : tkI sx call K Q .dup2 ls st h N) (hN : ∀ ls st h, N ls st h → tkGz nc ns p l e R s m args below meth c Qw D cy ads nL H0 (pc + 1) ls st h) : tkGz nc ns p l e R s m args below meth c Qw D cy ads nL H0 pc ls st h := by
  obtain ⟨hx, hb, hml, hown, hts, hnw, hK, hinj⟩ := X
  unfold tkI at hI
  dsimp only at hI
  split at hI
  · intro H locs lsA hP hS hL
    exact lv_dup2_11 hx hb hd (by rw [tk_cv_cat]; exact hI.1) (by rw [tk_cv_cat]; exact hI.2.1) (hN _ _ _ hI.2.2 H locs lsA hP hS hL)
  · exact hI.elim
theorem tkZ_iaload {nc ns : Nat} {p : Program} {l : Launch} {e : Env} {R : Room} {s : State} {m : MethodId} {args : Array Value} {below : List Frame} {meth : Method} {c : Code} {Qw : State → Prop} {D : va_G} {cy : Nat → ClassId} {ads : Nat → Nat} {nL : Nat} {H0 : Heap} {cc : ByteArray} {oc : Nat} (X : tkX p s m args c cc nL oc D cy ads) {pc : Nat} {ls st : List Value} {h : tkH} {N : tkN} {sx : Nat × (Nat → Int32)} {call : tkC} {K : tkK} {Q : tkQ} (hd : decode cc pc = .ok (.iaload, 1)) (hI : tkI sx call K Q .iaload ls st h N) (hN : ∀ ls st h, N ls st h → tkGz nc ns p l e R s m args below meth c Qw D cy ads nL H0 (pc + 1) ls st h) : tkGz nc ns p l e R s m args below meth c Qw D cy ads nL H0 pc ls st h := by
  obtain ⟨hx, hb, hml, hown, hts, hnw, hK, hinj⟩ := X
  unfold tkI at hI
  dsimp only at hI
  split at hI
  · intro H locs lsA hP hS hL
    have ha := tkWs_at (ads := ads) (cy := cy) (h := h) (tkSh_lt (by rw [hI.1]; decide))
    rw [tkWc_64 hI.1] at ha
    exact va_iald hx hb hK hP _ 0 ha rfl hI.2.1 hd (hN _ _ _ hI.2.2 H locs lsA hP hS hL)
  · exact hI.elim
theorem tkZ_baload {nc ns : Nat} {p : Program} {l : Launch} {e : Env} {R : Room} {s : State} {m : MethodId} {args : Array Value} {below : List Frame} {meth : Method} {c : Code} {Qw : State → Prop} {D : va_G} {cy : Nat → ClassId} {ads : Nat → Nat} {nL : Nat} {H0 : Heap} {cc : ByteArray} {oc : Nat} (X : tkX p s m args c cc nL oc D cy ads) {pc : Nat} {ls st : List Value} {h : tkH} {N : tkN} {sx : Nat × (Nat → Int32)} {call : tkC} {K : tkK} {Q : tkQ} (hd : decode cc pc = .ok (.baload, 1)) (hI : tkI sx call K Q .baload ls st h N) (hN : ∀ ls st h, N ls st h → tkGz nc ns p l e R s m args below meth c Qw D cy ads nL H0 (pc + 1) ls st h) : tkGz nc ns p l e R s m args below meth c Qw D cy ads nL H0 pc ls st h := by
  obtain ⟨hx, hb, hml, hown, hts, hnw, hK, hinj⟩ := X
  unfold tkI at hI
  dsimp only at hI
  split at hI
  · intro H locs lsA hP hS hL
    have ha := tkWs_at (ads := ads) (cy := cy) (h := h) (tkSh_lt (by rw [hI.1]; decide))
    rw [tkWc_65 hI.1] at ha
    exact va_zald hx hb hK hP _ 1 ha rfl hI.2.1 hd (hN _ _ _ hI.2.2 H locs lsA hP hS hL)
  · exact hI.elim
theorem tkZ_laload {nc ns : Nat} {p : Program} {l : Launch} {e : Env} {R : Room} {s : State} {m : MethodId} {args : Array Value} {below : List Frame} {meth : Method} {c : Code} {Qw : State → Prop} {D : va_G} {cy : Nat → ClassId} {ads : Nat → Nat} {nL : Nat} {H0 : Heap} {cc : ByteArray} {oc : Nat} (X : tkX p s m args c cc nL oc D cy ads) {pc : Nat} {ls st : List Value} {h : tkH} {N : tkN} {sx : Nat × (Nat → Int32)} {call : tkC} {K : tkK} {Q : tkQ} (hd : decode cc pc = .ok (.laload, 1)) (hI : tkI sx call K Q .laload ls st h N) (hN : ∀ ls st h, N ls st h → tkGz nc ns p l e R s m args below meth c Qw D cy ads nL H0 (pc + 1) ls st h) : tkGz nc ns p l e R s m args below meth c Qw D cy ads nL H0 pc ls st h := by
  obtain ⟨hx, hb, hml, hown, hts, hnw, hK, hinj⟩ := X
  unfold tkI at hI
  dsimp only at hI
  split at hI
  · intro H locs lsA hP hS hL
    have ha := tkWs_at (ads := ads) (cy := cy) (h := h) (tkSh_lt (by rw [hI.1]; decide))
    rw [tkWc_66 hI.1] at ha
    exact va_lald hx hb hK hP _ 2 ha rfl hI.2.1 hd (hN _ _ _ hI.2.2 H locs lsA hP hS hL)
  · exact hI.elim
theorem tkZ_aaload {nc ns : Nat} {p : Program} {l : Launch} {e : Env} {R : Room} {s : State} {m : MethodId} {args : Array Value} {below : List Frame} {meth : Method} {c : Code} {Qw : State → Prop} {D : va_G} {cy : Nat → ClassId} {ads : Nat → Nat} {nL : Nat} {H0 : Heap} {cc : ByteArray} {oc : Nat} (X : tkX p s m args c cc nL oc D cy ads) {pc : Nat} {ls st : List Value} {h : tkH} {N : tkN} {sx : Nat × (Nat → Int32)} {call : tkC} {K : tkK} {Q : tkQ} (hd : decode cc pc = .ok (.aaload, 1)) (hI : tkI sx call K Q .aaload ls st h N) (hN : ∀ ls st h, N ls st h → tkGz nc ns p l e R s m args below meth c Qw D cy ads nL H0 (pc + 1) ls st h) : tkGz nc ns p l e R s m args below meth c Qw D cy ads nL H0 pc ls st h := by
  obtain ⟨hx, hb, hml, hown, hts, hnw, hK, hinj⟩ := X
  unfold tkI at hI
  dsimp only at hI
  split at hI
  · intro H locs lsA hP hS hL
    have ha := tkWs_at (ads := ads) (cy := cy) (h := h) (tkSh_lt (by rw [hI.1]; decide))
    rw [tkWc_67 hI.1] at ha
    exact va_aldq hx hb hK hP _ 3 ha rfl hI.2.1 hd (hN _ _ _ hI.2.2 H locs lsA hP hS hL)
  · exact hI.elim
theorem tkZ_iastore {nc ns : Nat} {p : Program} {l : Launch} {e : Env} {R : Room} {s : State} {m : MethodId} {args : Array Value} {below : List Frame} {meth : Method} {c : Code} {Qw : State → Prop} {D : va_G} {cy : Nat → ClassId} {ads : Nat → Nat} {nL : Nat} {H0 : Heap} {cc : ByteArray} {oc : Nat} (X : tkX p s m args c cc nL oc D cy ads) {pc : Nat} {ls st : List Value} {h : tkH} {N : tkN} {sx : Nat × (Nat → Int32)} {call : tkC} {K : tkK} {Q : tkQ} (hd : decode cc pc = .ok (.iastore, 1)) (hI : tkI sx call K Q .iastore ls st h N) (hN : ∀ ls st h, N ls st h → tkGz nc ns p l e R s m args below meth c Qw D cy ads nL H0 (pc + 1) ls st h) : tkGz nc ns p l e R s m args below meth c Qw D cy ads nL H0 pc ls st h := by
  obtain ⟨hx, hb, hml, hown, hts, hnw, hK, hinj⟩ := X
  unfold tkI at hI
  dsimp only at hI
  split at hI
  · intro H locs lsA hP hS hL
    have hk := tkSh_lt (show (tkSh _).1 ≠ 99 by rw [hI.1]; decide)
    have ha := tkWs_at (ads := ads) (cy := cy) (h := h) hk
    rw [tkWc_64 hI.1] at ha
    refine va_iast hx hb hK hP (tkWs_D hinj cy h) hS _ 0 ha rfl hI.2.1 hd (fun H1 locs1 hP1 hD1 hS1 => ?_)
    skip
    rw [tkWs_set (h' := (up2 h.1 _ _ _, h.2)) hk (by rw [tkWc_64 hI.1]; dsimp only; rw [up2_self]) (fun j hj => tkWc_ne (by first | rfl | exact up2_ne _ _ _ hj) (by first | rfl | exact up2_ne _ _ _ hj))] at hP1
    exact hN _ _ _ hI.2.2 H1 locs1 lsA hP1 hS1 hL
  · exact hI.elim
theorem tkZ_bastore {nc ns : Nat} {p : Program} {l : Launch} {e : Env} {R : Room} {s : State} {m : MethodId} {args : Array Value} {below : List Frame} {meth : Method} {c : Code} {Qw : State → Prop} {D : va_G} {cy : Nat → ClassId} {ads : Nat → Nat} {nL : Nat} {H0 : Heap} {cc : ByteArray} {oc : Nat} (X : tkX p s m args c cc nL oc D cy ads) {pc : Nat} {ls st : List Value} {h : tkH} {N : tkN} {sx : Nat × (Nat → Int32)} {call : tkC} {K : tkK} {Q : tkQ} (hd : decode cc pc = .ok (.bastore, 1)) (hI : tkI sx call K Q .bastore ls st h N) (hN : ∀ ls st h, N ls st h → tkGz nc ns p l e R s m args below meth c Qw D cy ads nL H0 (pc + 1) ls st h) : tkGz nc ns p l e R s m args below meth c Qw D cy ads nL H0 pc ls st h := by
  obtain ⟨hx, hb, hml, hown, hts, hnw, hK, hinj⟩ := X
  unfold tkI at hI
  dsimp only at hI
  split at hI
  · intro H locs lsA hP hS hL
    have hk := tkSh_lt (show (tkSh _).1 ≠ 99 by rw [hI.1]; decide)
    have ha := tkWs_at (ads := ads) (cy := cy) (h := h) hk
    rw [tkWc_65 hI.1] at ha
    refine va_zast hx hb hK hP (tkWs_D hinj cy h) hS _ 1 ha rfl hI.2.1 hd (fun H1 locs1 hP1 hD1 hS1 => ?_)
    rw [tk_nar hI.2.2.1] at hP1
    rw [tkWs_set (h' := (up2 h.1 _ _ _, h.2)) hk (by rw [tkWc_65 hI.1]; dsimp only; rw [up2_self]) (fun j hj => tkWc_ne (by first | rfl | exact up2_ne _ _ _ hj) (by first | rfl | exact up2_ne _ _ _ hj))] at hP1
    exact hN _ _ _ hI.2.2.2 H1 locs1 lsA hP1 hS1 hL
  · exact hI.elim
theorem tkZ_lastore {nc ns : Nat} {p : Program} {l : Launch} {e : Env} {R : Room} {s : State} {m : MethodId} {args : Array Value} {below : List Frame} {meth : Method} {c : Code} {Qw : State → Prop} {D : va_G} {cy : Nat → ClassId} {ads : Nat → Nat} {nL : Nat} {H0 : Heap} {cc : ByteArray} {oc : Nat} (X : tkX p s m args c cc nL oc D cy ads) {pc : Nat} {ls st : List Value} {h : tkH} {N : tkN} {sx : Nat × (Nat → Int32)} {call : tkC} {K : tkK} {Q : tkQ} (hd : decode cc pc = .ok (.lastore, 1)) (hI : tkI sx call K Q .lastore ls st h N) (hN : ∀ ls st h, N ls st h → tkGz nc ns p l e R s m args below meth c Qw D cy ads nL H0 (pc + 1) ls st h) : tkGz nc ns p l e R s m args below meth c Qw D cy ads nL H0 pc ls st h := by
  obtain ⟨hx, hb, hml, hown, hts, hnw, hK, hinj⟩ := X
  unfold tkI at hI
  dsimp only at hI
  split at hI
  · intro H locs lsA hP hS hL
    have hk := tkSh_lt (show (tkSh _).1 ≠ 99 by rw [hI.1]; decide)
    have ha := tkWs_at (ads := ads) (cy := cy) (h := h) hk
    rw [tkWc_66 hI.1] at ha
    refine va_last hx hb hK hP (tkWs_D hinj cy h) hS _ 2 ha rfl hI.2.1 hd (fun H1 locs1 hP1 hD1 hS1 => ?_)
    skip
    rw [tkWs_set (h' := (h.1, up2L h.2 _ _ _)) hk (by rw [tkWc_66 hI.1]; dsimp only; rw [up2L_self]) (fun j hj => tkWc_ne (by first | rfl | exact up2L_ne _ _ _ hj) (by first | rfl | exact up2L_ne _ _ _ hj))] at hP1
    exact hN _ _ _ hI.2.2 H1 locs1 lsA hP1 hS1 hL
  · exact hI.elim
theorem tkZ_arraylength {nc ns : Nat} {p : Program} {l : Launch} {e : Env} {R : Room} {s : State} {m : MethodId} {args : Array Value} {below : List Frame} {meth : Method} {c : Code} {Qw : State → Prop} {D : va_G} {cy : Nat → ClassId} {ads : Nat → Nat} {nL : Nat} {H0 : Heap} {cc : ByteArray} {oc : Nat} (X : tkX p s m args c cc nL oc D cy ads) {pc : Nat} {ls st : List Value} {h : tkH} {N : tkN} {sx : Nat × (Nat → Int32)} {call : tkC} {K : tkK} {Q : tkQ} (hd : decode cc pc = .ok (.arraylength, 1)) (hI : tkI sx call K Q .arraylength ls st h N) (hN : ∀ ls st h, N ls st h → tkGz nc ns p l e R s m args below meth c Qw D cy ads nL H0 (pc + 1) ls st h) : tkGz nc ns p l e R s m args below meth c Qw D cy ads nL H0 pc ls st h := by
  obtain ⟨hx, hb, hml, hown, hts, hnw, hK, hinj⟩ := X
  unfold tkI at hI
  dsimp only at hI
  split at hI
  · intro H locs lsA hP hS hL
    rcases hI.1 with q | q
    · have ha := tkWs_at (ads := ads) (cy := cy) (h := h) (tkSh_lt (by rw [q]; decide))
      rw [tkWc_64 q] at ha
      exact va_alen hx hb hK hP _ 0 ha rfl rfl hd (hN _ _ _ hI.2 H locs lsA hP hS hL)
    · have ha := tkWs_at (ads := ads) (cy := cy) (h := h) (tkSh_lt (by rw [q]; decide))
      rw [tkWc_66 q] at ha
      exact va_alen hx hb hK hP _ 2 ha rfl rfl hd (hN _ _ _ hI.2 H locs lsA hP hS hL)
  · exact hI.elim
theorem tkZ_iconst {nc ns : Nat} {p : Program} {l : Launch} {e : Env} {R : Room} {s : State} {m : MethodId} {args : Array Value} {below : List Frame} {meth : Method} {c : Code} {Qw : State → Prop} {D : va_G} {cy : Nat → ClassId} {ads : Nat → Nat} {nL : Nat} {H0 : Heap} {cc : ByteArray} {oc : Nat} (X : tkX p s m args c cc nL oc D cy ads) {pc : Nat} {ls st : List Value} {h : tkH} {n : Int} {pcs : List Nat} {rt : Option FieldType} {sc : Bool} {d : Instr × Nat} {N : tkN} {sx : Nat × (Nat → Int32)} {call : tkC} {K : tkK} {Q : tkQ} (hd : decode cc pc = .ok d) (hr : tkRel oc nL pc pcs rt sc d (.iconst n) = true) (hI : tkI sx call K Q (.iconst n) ls st h N) (hN : ∀ ls st h, N ls st h → tkGz nc ns p l e R s m args below meth c Qw D cy ads nL H0 (pc + d.2) ls st h) : tkGz nc ns p l e R s m args below meth c Qw D cy ads nL H0 pc ls st h := by
  obtain ⟨hx, hb, hml, hown, hts, hnw, hK, hinj⟩ := X
  unfold tkI at hI
  unfold tkRel at hr
  dsimp only at hI hr
  have go : ∀ H locs lsA, va_P D vwCl (tkWs ads cy h) H → va_S (tkA ads) H0 H locs → tkL ads nL lsA ls → W p l e R s m args below meth c H locs nc ns Qw (F0 m (pc + d.2) lsA (.int (Int32.ofInt n) :: st.map (tk_cv ads))) := fun H locs lsA hP hS hL => hN _ _ _ hI H locs lsA hP hS hL
  intro H locs lsA hP hS hL
  simp only [Bool.or_eq_true, decide_eq_true_eq] at hr
  rcases hr with ((rfl | ⟨rfl, hv⟩) | ⟨rfl, hv⟩) | hr
  · exact lv_iconst hx hb hd rfl (go H locs lsA hP hS hL)
  · exact lv_bipush hx hb hd hv (go H locs lsA hP hS hL)
  · exact lv_sipush hx hb hd hv (go H locs lsA hP hS hL)
  · obtain ⟨q, hq, hr⟩ := List.any_eq_true.mp hr
    simp only [Bool.and_eq_true, Bool.or_eq_true, decide_eq_true_eq] at hr
    obtain ⟨⟨h1, h2⟩, h3⟩ := hr
    have hw := of_decide_eq_true (List.all_eq_true.mp tkLc_ok q hq)
    rw [h1, h2] at hw
    have hc := hts _ (tkWd_in hw rfl)
    rcases h3 with rfl | rfl
    · exact lv_ldc hx hb hown hc hd (go H locs lsA hP hS hL)
    · exact lv_ldcw hx hb hown hc hd (go H locs lsA hP hS hL)
theorem tkZ_ldc2 {nc ns : Nat} {p : Program} {l : Launch} {e : Env} {R : Room} {s : State} {m : MethodId} {args : Array Value} {below : List Frame} {meth : Method} {c : Code} {Qw : State → Prop} {D : va_G} {cy : Nat → ClassId} {ads : Nat → Nat} {nL : Nat} {H0 : Heap} {cc : ByteArray} {oc : Nat} (X : tkX p s m args c cc nL oc D cy ads) {pc : Nat} {ls st : List Value} {h : tkH} {n : Nat} {pcs : List Nat} {rt : Option FieldType} {sc : Bool} {d : Instr × Nat} {N : tkN} {sx : Nat × (Nat → Int32)} {call : tkC} {K : tkK} {Q : tkQ} (hd : decode cc pc = .ok d) (hr : tkRel oc nL pc pcs rt sc d (.ldc2_w n) = true) (hI : tkI sx call K Q (.ldc2_w n) ls st h N) (hN : ∀ ls st h, N ls st h → tkGz nc ns p l e R s m args below meth c Qw D cy ads nL H0 (pc + d.2) ls st h) : tkGz nc ns p l e R s m args below meth c Qw D cy ads nL H0 pc ls st h := by
  obtain ⟨hx, hb, hml, hown, hts, hnw, hK, hinj⟩ := X
  unfold tkI at hI
  unfold tkRel at hr
  dsimp only at hI hr
  have go : ∀ H locs lsA, va_P D vwCl (tkWs ads cy h) H → va_S (tkA ads) H0 H locs → tkL ads nL lsA ls → W p l e R s m args below meth c H locs nc ns Qw (F0 m (pc + d.2) lsA (.long (Int64.ofNat n) :: st.map (tk_cv ads))) := fun H locs lsA hP hS hL => hN _ _ _ hI H locs lsA hP hS hL
  intro H locs lsA hP hS hL
  simp only [Bool.or_eq_true, decide_eq_true_eq] at hr
  rcases hr with (⟨rfl, rfl⟩ | ⟨rfl, rfl⟩) | hr
  · exact lv_lconst hx hb hd rfl (go H locs lsA hP hS hL)
  · exact lv_lconst hx hb hd rfl (go H locs lsA hP hS hL)
  · obtain ⟨q, hq, hr⟩ := List.any_eq_true.mp hr
    simp only [Bool.and_eq_true, decide_eq_true_eq] at hr
    obtain ⟨⟨h1, h2⟩, rfl⟩ := hr
    have hw := of_decide_eq_true (List.all_eq_true.mp tkLl_ok q hq)
    rw [h1, h2] at hw
    exact lv_ldc2 hx hb hown (hts _ (tkWd_in hw rfl)) hd (go H locs lsA hP hS hL)
theorem tkZ_iload {nc ns : Nat} {p : Program} {l : Launch} {e : Env} {R : Room} {s : State} {m : MethodId} {args : Array Value} {below : List Frame} {meth : Method} {c : Code} {Qw : State → Prop} {D : va_G} {cy : Nat → ClassId} {ads : Nat → Nat} {nL : Nat} {H0 : Heap} {cc : ByteArray} {oc : Nat} (X : tkX p s m args c cc nL oc D cy ads) {pc : Nat} {ls st : List Value} {h : tkH} {k : Nat} {pcs : List Nat} {rt : Option FieldType} {sc : Bool} {d : Instr × Nat} {N : tkN} {sx : Nat × (Nat → Int32)} {call : tkC} {K : tkK} {Q : tkQ} (hd : decode cc pc = .ok d) (hr : tkRel oc nL pc pcs rt sc d (.iload k) = true) (hI : tkI sx call K Q (.iload k) ls st h N) (hN : ∀ ls st h, N ls st h → tkGz nc ns p l e R s m args below meth c Qw D cy ads nL H0 (pc + d.2) ls st h) : tkGz nc ns p l e R s m args below meth c Qw D cy ads nL H0 pc ls st h := by
  obtain ⟨hx, hb, hml, hown, hts, hnw, hK, hinj⟩ := X
  unfold tkI at hI
  unfold tkRel at hr
  dsimp only at hI hr
  split at hI
  · rename_i x e
    intro H locs lsA hP hS hL
    simp only [Bool.or_eq_true, decide_eq_true_eq] at hr
    rcases hr with rfl | ⟨rfl, h4⟩
    · exact lv_iload hx hb hd (hL.int e) (hN _ _ _ hI H locs lsA hP hS hL)
    · exact lv_iload_n (i := k) hx hb hd (by simp [Fin.ofNat]; omega) (hL.int e) (hN _ _ _ hI H locs lsA hP hS hL)
  · exact hI.elim
theorem tkZ_lload {nc ns : Nat} {p : Program} {l : Launch} {e : Env} {R : Room} {s : State} {m : MethodId} {args : Array Value} {below : List Frame} {meth : Method} {c : Code} {Qw : State → Prop} {D : va_G} {cy : Nat → ClassId} {ads : Nat → Nat} {nL : Nat} {H0 : Heap} {cc : ByteArray} {oc : Nat} (X : tkX p s m args c cc nL oc D cy ads) {pc : Nat} {ls st : List Value} {h : tkH} {k : Nat} {pcs : List Nat} {rt : Option FieldType} {sc : Bool} {d : Instr × Nat} {N : tkN} {sx : Nat × (Nat → Int32)} {call : tkC} {K : tkK} {Q : tkQ} (hd : decode cc pc = .ok d) (hr : tkRel oc nL pc pcs rt sc d (.lload k) = true) (hI : tkI sx call K Q (.lload k) ls st h N) (hN : ∀ ls st h, N ls st h → tkGz nc ns p l e R s m args below meth c Qw D cy ads nL H0 (pc + d.2) ls st h) : tkGz nc ns p l e R s m args below meth c Qw D cy ads nL H0 pc ls st h := by
  obtain ⟨hx, hb, hml, hown, hts, hnw, hK, hinj⟩ := X
  unfold tkI at hI
  unfold tkRel at hr
  dsimp only at hI hr
  split at hI
  · rename_i x e
    intro H locs lsA hP hS hL
    simp only [Bool.or_eq_true, decide_eq_true_eq] at hr
    rcases hr with rfl | ⟨rfl, h4⟩
    · exact lv_lload hx hb hd (hL.long e) (hN _ _ _ hI H locs lsA hP hS hL)
    · exact lv_lload_n (i := k) hx hb hd (by simp [Fin.ofNat]; omega) (hL.long e) (hN _ _ _ hI H locs lsA hP hS hL)
  · exact hI.elim
theorem tkZ_aload {nc ns : Nat} {p : Program} {l : Launch} {e : Env} {R : Room} {s : State} {m : MethodId} {args : Array Value} {below : List Frame} {meth : Method} {c : Code} {Qw : State → Prop} {D : va_G} {cy : Nat → ClassId} {ads : Nat → Nat} {nL : Nat} {H0 : Heap} {cc : ByteArray} {oc : Nat} (X : tkX p s m args c cc nL oc D cy ads) {pc : Nat} {ls st : List Value} {h : tkH} {k : Nat} {pcs : List Nat} {rt : Option FieldType} {sc : Bool} {d : Instr × Nat} {N : tkN} {sx : Nat × (Nat → Int32)} {call : tkC} {K : tkK} {Q : tkQ} (hd : decode cc pc = .ok d) (hr : tkRel oc nL pc pcs rt sc d (.aload k) = true) (hI : tkI sx call K Q (.aload k) ls st h N) (hN : ∀ ls st h, N ls st h → tkGz nc ns p l e R s m args below meth c Qw D cy ads nL H0 (pc + d.2) ls st h) : tkGz nc ns p l e R s m args below meth c Qw D cy ads nL H0 pc ls st h := by
  obtain ⟨hx, hb, hml, hown, hts, hnw, hK, hinj⟩ := X
  unfold tkI at hI
  unfold tkRel at hr
  dsimp only at hI hr
  split at hI
  · rename_i x e
    intro H locs lsA hP hS hL
    simp only [Bool.or_eq_true, decide_eq_true_eq] at hr
    rcases hr with rfl | ⟨rfl, h4⟩
    · exact lv_aload hx hb hd (hL.ref e) (hN _ _ _ hI H locs lsA hP hS hL)
    · exact lv_aload_n (i := k) hx hb hd (by simp [Fin.ofNat]; omega) (hL.ref e) (hN _ _ _ hI H locs lsA hP hS hL)
  · exact hI.elim
theorem tkZ_istore {nc ns : Nat} {p : Program} {l : Launch} {e : Env} {R : Room} {s : State} {m : MethodId} {args : Array Value} {below : List Frame} {meth : Method} {c : Code} {Qw : State → Prop} {D : va_G} {cy : Nat → ClassId} {ads : Nat → Nat} {nL : Nat} {H0 : Heap} {cc : ByteArray} {oc : Nat} (X : tkX p s m args c cc nL oc D cy ads) {pc : Nat} {ls st : List Value} {h : tkH} {k : Nat} {pcs : List Nat} {rt : Option FieldType} {sc : Bool} {d : Instr × Nat} {N : tkN} {sx : Nat × (Nat → Int32)} {call : tkC} {K : tkK} {Q : tkQ} (hd : decode cc pc = .ok d) (hr : tkRel oc nL pc pcs rt sc d (.istore k) = true) (hI : tkI sx call K Q (.istore k) ls st h N) (hN : ∀ ls st h, N ls st h → tkGz nc ns p l e R s m args below meth c Qw D cy ads nL H0 (pc + d.2) ls st h) : tkGz nc ns p l e R s m args below meth c Qw D cy ads nL H0 pc ls st h := by
  obtain ⟨hx, hb, hml, hown, hts, hnw, hK, hinj⟩ := X
  unfold tkI at hI
  unfold tkRel at hr
  dsimp only at hI hr
  split at hI
  · rename_i x r
    intro H locs lsA hP hS hL
    simp only [Bool.and_eq_true, Bool.or_eq_true, decide_eq_true_eq] at hr
    obtain ⟨hk, hr⟩ := hr
    rcases hr with rfl | ⟨rfl, h4⟩
    · exact lv_istore hx hb hd hL.has hk rfl (fun ls' hl => hN _ _ _ hI H locs ls' hP hS (hL.set1 hk hl))
    · exact lv_istore_n (i := k) hx hb hd (by simp [Fin.ofNat]; omega) hL.has hk rfl (fun ls' hl => hN _ _ _ hI H locs ls' hP hS (hL.set1 hk hl))
  · exact hI.elim
theorem tkZ_astore {nc ns : Nat} {p : Program} {l : Launch} {e : Env} {R : Room} {s : State} {m : MethodId} {args : Array Value} {below : List Frame} {meth : Method} {c : Code} {Qw : State → Prop} {D : va_G} {cy : Nat → ClassId} {ads : Nat → Nat} {nL : Nat} {H0 : Heap} {cc : ByteArray} {oc : Nat} (X : tkX p s m args c cc nL oc D cy ads) {pc : Nat} {ls st : List Value} {h : tkH} {k : Nat} {pcs : List Nat} {rt : Option FieldType} {sc : Bool} {d : Instr × Nat} {N : tkN} {sx : Nat × (Nat → Int32)} {call : tkC} {K : tkK} {Q : tkQ} (hd : decode cc pc = .ok d) (hr : tkRel oc nL pc pcs rt sc d (.astore k) = true) (hI : tkI sx call K Q (.astore k) ls st h N) (hN : ∀ ls st h, N ls st h → tkGz nc ns p l e R s m args below meth c Qw D cy ads nL H0 (pc + d.2) ls st h) : tkGz nc ns p l e R s m args below meth c Qw D cy ads nL H0 pc ls st h := by
  obtain ⟨hx, hb, hml, hown, hts, hnw, hK, hinj⟩ := X
  unfold tkI at hI
  unfold tkRel at hr
  dsimp only at hI hr
  split at hI
  · rename_i x r
    intro H locs lsA hP hS hL
    simp only [Bool.and_eq_true, Bool.or_eq_true, decide_eq_true_eq] at hr
    obtain ⟨hk, hr⟩ := hr
    rcases hr with rfl | ⟨rfl, h4⟩
    · exact lv_astore hx hb hd hL.has hk rfl (fun ls' hl => hN _ _ _ hI H locs ls' hP hS (hL.set1 hk hl))
    · exact lv_astore_n (i := k) hx hb hd (by simp [Fin.ofNat]; omega) hL.has hk rfl (fun ls' hl => hN _ _ _ hI H locs ls' hP hS (hL.set1 hk hl))
  · exact hI.elim
theorem tkZ_lstore {nc ns : Nat} {p : Program} {l : Launch} {e : Env} {R : Room} {s : State} {m : MethodId} {args : Array Value} {below : List Frame} {meth : Method} {c : Code} {Qw : State → Prop} {D : va_G} {cy : Nat → ClassId} {ads : Nat → Nat} {nL : Nat} {H0 : Heap} {cc : ByteArray} {oc : Nat} (X : tkX p s m args c cc nL oc D cy ads) {pc : Nat} {ls st : List Value} {h : tkH} {k : Nat} {pcs : List Nat} {rt : Option FieldType} {sc : Bool} {d : Instr × Nat} {N : tkN} {sx : Nat × (Nat → Int32)} {call : tkC} {K : tkK} {Q : tkQ} (hd : decode cc pc = .ok d) (hr : tkRel oc nL pc pcs rt sc d (.lstore k) = true) (hI : tkI sx call K Q (.lstore k) ls st h N) (hN : ∀ ls st h, N ls st h → tkGz nc ns p l e R s m args below meth c Qw D cy ads nL H0 (pc + d.2) ls st h) : tkGz nc ns p l e R s m args below meth c Qw D cy ads nL H0 pc ls st h := by
  obtain ⟨hx, hb, hml, hown, hts, hnw, hK, hinj⟩ := X
  unfold tkI at hI
  unfold tkRel at hr
  dsimp only at hI hr
  split at hI
  · rename_i x r
    intro H locs lsA hP hS hL
    simp only [Bool.and_eq_true, Bool.or_eq_true, decide_eq_true_eq] at hr
    obtain ⟨hk, hr⟩ := hr
    rcases hr with rfl | ⟨rfl, h4⟩
    · exact lv_lstore hx hb hd hL.has hk rfl (fun ls' hl => hN _ _ _ hI H locs ls' hP hS (hL.set2 hk hl))
    · exact lv_lstore_n (i := k) hx hb hd (by simp [Fin.ofNat]; omega) hL.has hk rfl (fun ls' hl => hN _ _ _ hI H locs ls' hP hS (hL.set2 hk hl))
  · exact hI.elim
theorem tkZ_iinc {nc ns : Nat} {p : Program} {l : Launch} {e : Env} {R : Room} {s : State} {m : MethodId} {args : Array Value} {below : List Frame} {meth : Method} {c : Code} {Qw : State → Prop} {D : va_G} {cy : Nat → ClassId} {ads : Nat → Nat} {nL : Nat} {H0 : Heap} {cc : ByteArray} {oc : Nat} (X : tkX p s m args c cc nL oc D cy ads) {pc : Nat} {ls st : List Value} {h : tkH} {k : Nat} {n : Int} {pcs : List Nat} {rt : Option FieldType} {sc : Bool} {d : Instr × Nat} {N : tkN} {sx : Nat × (Nat → Int32)} {call : tkC} {K : tkK} {Q : tkQ} (hd : decode cc pc = .ok d) (hr : tkRel oc nL pc pcs rt sc d (.iinc k n) = true) (hI : tkI sx call K Q (.iinc k n) ls st h N) (hN : ∀ ls st h, N ls st h → tkGz nc ns p l e R s m args below meth c Qw D cy ads nL H0 (pc + d.2) ls st h) : tkGz nc ns p l e R s m args below meth c Qw D cy ads nL H0 pc ls st h := by
  obtain ⟨hx, hb, hml, hown, hts, hnw, hK, hinj⟩ := X
  unfold tkI at hI
  unfold tkRel at hr
  dsimp only at hI hr
  split at hI
  · rename_i x e
    intro H locs lsA hP hS hL
    simp only [Bool.and_eq_true, decide_eq_true_eq] at hr
    obtain ⟨hk, rfl⟩ := hr
    have hm : (k, Value.int x) ∈ tkLv ads ls := tkLv_mem.mpr ⟨(by rw [e]; exact fun q => (by cases q)), (by rw [e]; rfl)⟩
    obtain ⟨j, hj⟩ := List.getElem?_of_mem hm
    exact lv_iinc hx hb hd hL.has hj rfl hk rfl (fun ls' hl => hN _ _ _ hI H locs ls' hP hS (hL.set1 (v := .int (x + Int32.ofInt n)) hk hl))
  · exact hI.elim
theorem tkZ_getfield {nc ns : Nat} {p : Program} {l : Launch} {e : Env} {R : Room} {s : State} {m : MethodId} {args : Array Value} {below : List Frame} {meth : Method} {c : Code} {Qw : State → Prop} {D : va_G} {cy : Nat → ClassId} {ads : Nat → Nat} {nL : Nat} {H0 : Heap} {cc : ByteArray} {oc : Nat} (X : tkX p s m args c cc nL oc D cy ads) {pc : Nat} {ls st : List Value} {h : tkH} {n : Nat} {pcs : List Nat} {rt : Option FieldType} {sc : Bool} {d : Instr × Nat} {N : tkN} {sx : Nat × (Nat → Int32)} {call : tkC} {K : tkK} {Q : tkQ} (hd : decode cc pc = .ok d) (hr : tkRel oc nL pc pcs rt sc d (.getfield n) = true) (hI : tkI sx call K Q (.getfield n) ls st h N) (hN : ∀ ls st h, N ls st h → tkGz nc ns p l e R s m args below meth c Qw D cy ads nL H0 (pc + d.2) ls st h) : tkGz nc ns p l e R s m args below meth c Qw D cy ads nL H0 pc ls st h := by
  obtain ⟨hx, hb, hml, hown, hts, hnw, hK, hinj⟩ := X
  unfold tkI at hI
  unfold tkRel at hr
  dsimp only at hI hr
  split at hI
  · rename_i a r
    intro H locs lsA hP hS hL
    simp only [Bool.and_eq_true, decide_eq_true_eq] at hr
    obtain ⟨⟨hr, hkd⟩, hc12⟩ := hr
    obtain ⟨q, hq, hr⟩ := List.any_eq_true.mp hr
    simp only [Bool.and_eq_true, decide_eq_true_eq] at hr
    obtain ⟨⟨h1, h2⟩, rfl⟩ := hr
    obtain ⟨C, T, NN, e, hn, hw, hT⟩ := tkFl_use hq h1 h2 rfl
    obtain ⟨v1, v2, v3, v4⟩ := tkVw e
    have ha := tkWs_at (ads := ads) (cy := cy) (h := h) (tkSh_lt (a := a) (by rw [hI.1]; omega))
    rw [tkWc_o hI.1 hc12] at ha
    have hv : (tkFs ads h a (n / 64))[n % 64]? = some (.int (h.1 a (n % 64))) := by
      rw [tkFs_get (by rw [← v4]; exact hn)]
      unfold tkFv
      rw [if_neg (fun z => hkd (by rw [List.getD_eq_getElem?_getD] at z ⊢; rw [List.getElem?_eq_getElem (by rw [← v4]; exact hn)] at z ⊢; exact z))]
    exact va_get (v := .int (h.1 a (n % 64))) hx hb hts (tkIn_wd v1) hown hK hP a ha e (n % 64) hn (hts _ hw) (fun x hx => by rw [hT] at hx; exact hx) hv hd (hN _ _ _ hI.2 H locs lsA hP hS hL)
  · exact hI.elim
theorem tkZ_getref {nc ns : Nat} {p : Program} {l : Launch} {e : Env} {R : Room} {s : State} {m : MethodId} {args : Array Value} {below : List Frame} {meth : Method} {c : Code} {Qw : State → Prop} {D : va_G} {cy : Nat → ClassId} {ads : Nat → Nat} {nL : Nat} {H0 : Heap} {cc : ByteArray} {oc : Nat} (X : tkX p s m args c cc nL oc D cy ads) {pc : Nat} {ls st : List Value} {h : tkH} {n : Nat} {pcs : List Nat} {rt : Option FieldType} {sc : Bool} {d : Instr × Nat} {N : tkN} {sx : Nat × (Nat → Int32)} {call : tkC} {K : tkK} {Q : tkQ} (hd : decode cc pc = .ok d) (hr : tkRel oc nL pc pcs rt sc d (.getstatic n) = true) (hI : tkI sx call K Q (.getstatic n) ls st h N) (hN : ∀ ls st h, N ls st h → tkGz nc ns p l e R s m args below meth c Qw D cy ads nL H0 (pc + d.2) ls st h) : tkGz nc ns p l e R s m args below meth c Qw D cy ads nL H0 pc ls st h := by
  obtain ⟨hx, hb, hml, hown, hts, hnw, hK, hinj⟩ := X
  unfold tkI at hI
  unfold tkRel at hr
  dsimp only at hI hr
  split at hI
  · rename_i a r
    intro H locs lsA hP hS hL
    simp only [Bool.and_eq_true, decide_eq_true_eq] at hr
    obtain ⟨⟨hr, hkd⟩, hc12⟩ := hr
    obtain ⟨q, hq, hr⟩ := List.any_eq_true.mp hr
    simp only [Bool.and_eq_true, decide_eq_true_eq] at hr
    obtain ⟨⟨h1, h2⟩, rfl⟩ := hr
    obtain ⟨C, T, NN, e, hn, hw, hT⟩ := tkFl_use hq h1 h2 rfl
    obtain ⟨v1, v2, v3, v4⟩ := tkVw e
    have ha := tkWs_at (ads := ads) (cy := cy) (h := h) (tkSh_lt (a := a) (by rw [hI.1]; omega))
    rw [tkWc_o hI.1 hc12] at ha
    have hv : (tkFs ads h a (n / 64))[n % 64]? = some (.ref (ads (tkRf a (n % 64)))) := by
      rw [tkFs_get (by rw [← v4]; exact hn)]
      unfold tkFv
      rw [if_pos hkd]
    exact va_get (v := .ref (ads (tkRf a (n % 64)))) hx hb hts (tkIn_wd v1) hown hK hP a ha e (n % 64) hn (hts _ hw) (fun x hx => by rw [hT] at hx; exact hx) hv hd (hN _ _ _ hI.2 H locs lsA hP hS hL)
  · exact hI.elim
theorem tkZ_putfield {nc ns : Nat} {p : Program} {l : Launch} {e : Env} {R : Room} {s : State} {m : MethodId} {args : Array Value} {below : List Frame} {meth : Method} {c : Code} {Qw : State → Prop} {D : va_G} {cy : Nat → ClassId} {ads : Nat → Nat} {nL : Nat} {H0 : Heap} {cc : ByteArray} {oc : Nat} (X : tkX p s m args c cc nL oc D cy ads) {pc : Nat} {ls st : List Value} {h : tkH} {n : Nat} {pcs : List Nat} {rt : Option FieldType} {sc : Bool} {d : Instr × Nat} {N : tkN} {sx : Nat × (Nat → Int32)} {call : tkC} {K : tkK} {Q : tkQ} (hd : decode cc pc = .ok d) (hr : tkRel oc nL pc pcs rt sc d (.putfield n) = true) (hI : tkI sx call K Q (.putfield n) ls st h N) (hN : ∀ ls st h, N ls st h → tkGz nc ns p l e R s m args below meth c Qw D cy ads nL H0 (pc + d.2) ls st h) : tkGz nc ns p l e R s m args below meth c Qw D cy ads nL H0 pc ls st h := by
  obtain ⟨hx, hb, hml, hown, hts, hnw, hK, hinj⟩ := X
  unfold tkI at hI
  unfold tkRel at hr
  dsimp only at hI hr
  split at hI
  · rename_i v a r
    intro H locs lsA hP hS hL
    simp only [Bool.and_eq_true, decide_eq_true_eq] at hr
    obtain ⟨⟨hr, hkd⟩, hc12⟩ := hr
    obtain ⟨q, hq, hr⟩ := List.any_eq_true.mp hr
    simp only [Bool.and_eq_true, decide_eq_true_eq] at hr
    obtain ⟨⟨h1, h2⟩, rfl⟩ := hr
    obtain ⟨C, T, NN, e, hn, hw, hT⟩ := tkFl_use hq h1 h2 rfl
    obtain ⟨v1, ⟨ty0, v2⟩, v3, v4⟩ := tkVw e
    unfold tkPut at hkd
    rw [e] at hkd
    simp only [Bool.and_eq_true, decide_eq_true_eq, Bool.not_eq_true'] at hkd
    obtain ⟨⟨g1, g2⟩, g3⟩ := hkd
    have hk := tkSh_lt (a := a) (by rw [hI.1]; omega)
    have ha := tkWs_at (ads := ads) (cy := cy) (h := h) hk
    rw [tkWc_o hI.1 hc12] at ha
    refine va_put (v := .int v) (ty := .int) hx hb hts (tkIn_wd v1) ty0 v2 v3 hown hK hP (tkWs_D hinj cy h) hS a ha e (n % 64) hn (hts _ hw) (fun x hx => by rw [hT] at hx; exact hx) g2 g1 rfl rfl (by unfold tkFs; simp only [List.length_map, List.length_range]; rw [← v4]; exact hn) hd (fun H1 locs1 hP1 hD1 hS1 => ?_)
    rw [tkFs_set g3, tkWs_set (h' := (up2 h.1 a (n % 64) v, h.2)) hk (tkWc_o hI.1 hc12) (fun j hj => tkWc_ne (up2_ne _ _ _ hj) rfl)] at hP1
    exact hN _ _ _ hI.2 H1 locs1 lsA hP1 hS1 hL
  · exact hI.elim
theorem tkZ_putbool {nc ns : Nat} {p : Program} {l : Launch} {e : Env} {R : Room} {s : State} {m : MethodId} {args : Array Value} {below : List Frame} {meth : Method} {c : Code} {Qw : State → Prop} {D : va_G} {cy : Nat → ClassId} {ads : Nat → Nat} {nL : Nat} {H0 : Heap} {cc : ByteArray} {oc : Nat} (X : tkX p s m args c cc nL oc D cy ads) {pc : Nat} {ls st : List Value} {h : tkH} {n : Nat} {pcs : List Nat} {rt : Option FieldType} {sc : Bool} {d : Instr × Nat} {N : tkN} {sx : Nat × (Nat → Int32)} {call : tkC} {K : tkK} {Q : tkQ} (hd : decode cc pc = .ok d) (hr : tkRel oc nL pc pcs rt sc d (.putstatic n) = true) (hI : tkI sx call K Q (.putstatic n) ls st h N) (hN : ∀ ls st h, N ls st h → tkGz nc ns p l e R s m args below meth c Qw D cy ads nL H0 (pc + d.2) ls st h) : tkGz nc ns p l e R s m args below meth c Qw D cy ads nL H0 pc ls st h := by
  obtain ⟨hx, hb, hml, hown, hts, hnw, hK, hinj⟩ := X
  unfold tkI at hI
  unfold tkRel at hr
  dsimp only at hI hr
  split at hI
  · rename_i v a r
    intro H locs lsA hP hS hL
    simp only [Bool.and_eq_true, decide_eq_true_eq] at hr
    obtain ⟨⟨hr, hkd⟩, hc12⟩ := hr
    obtain ⟨q, hq, hr⟩ := List.any_eq_true.mp hr
    simp only [Bool.and_eq_true, decide_eq_true_eq] at hr
    obtain ⟨⟨h1, h2⟩, rfl⟩ := hr
    obtain ⟨C, T, NN, e, hn, hw, hT⟩ := tkFl_use hq h1 h2 rfl
    obtain ⟨v1, ⟨ty0, v2⟩, v3, v4⟩ := tkVw e
    unfold tkPut at hkd
    rw [e] at hkd
    simp only [Bool.and_eq_true, decide_eq_true_eq, Bool.not_eq_true'] at hkd
    obtain ⟨⟨g1, g2⟩, g3⟩ := hkd
    have hk := tkSh_lt (a := a) (by rw [hI.1]; omega)
    have ha := tkWs_at (ads := ads) (cy := cy) (h := h) hk
    rw [tkWc_o hI.1 hc12] at ha
    refine va_put (v := .int v) (ty := .boolean) hx hb hts (tkIn_wd v1) ty0 v2 v3 hown hK hP (tkWs_D hinj cy h) hS a ha e (n % 64) hn (hts _ hw) (fun x hx => by rw [hT] at hx; exact hx) g2 g1 (by rcases hI.2.1 with q | q <;> rw [q] <;> rfl) (by rcases hI.2.1 with q | q <;> rw [q] <;> rfl) (by unfold tkFs; simp only [List.length_map, List.length_range]; rw [← v4]; exact hn) hd (fun H1 locs1 hP1 hD1 hS1 => ?_)
    rw [tkFs_set g3, tkWs_set (h' := (up2 h.1 a (n % 64) v, h.2)) hk (tkWc_o hI.1 hc12) (fun j hj => tkWc_ne (up2_ne _ _ _ hj) rfl)] at hP1
    exact hN _ _ _ hI.2.2 H1 locs1 lsA hP1 hS1 hL
  · exact hI.elim
theorem tkZ_if_icmp {nc ns : Nat} {p : Program} {l : Launch} {e : Env} {R : Room} {s : State} {m : MethodId} {args : Array Value} {below : List Frame} {meth : Method} {c : Code} {Qw : State → Prop} {D : va_G} {cy : Nat → ClassId} {ads : Nat → Nat} {nL : Nat} {H0 : Heap} {cc : ByteArray} {oc : Nat} (X : tkX p s m args c cc nL oc D cy ads) {pc : Nat} {ls st : List Value} {h : tkH} {cd : Jvm.ClassFile.Cond} {t : Int} {pcs : List Nat} {rt : Option FieldType} {sc : Bool} {d : Instr × Nat} {N : tkN} {sx : Nat × (Nat → Int32)} {call : tkC} {K : tkK} {Q : tkQ} (hd : decode cc pc = .ok d) (hKg : ∀ b ls st h, K b ls st h → tkGz nc ns p l e R s m args below meth c Qw D cy ads nL H0 (pcs.getD b 0) ls st h) (hr : tkRel oc nL pc pcs rt sc d (.if_icmp cd t) = true) (hI : tkI sx call K Q (.if_icmp cd t) ls st h N) (hN : ∀ ls st h, N ls st h → tkGz nc ns p l e R s m args below meth c Qw D cy ads nL H0 (pc + d.2) ls st h) : tkGz nc ns p l e R s m args below meth c Qw D cy ads nL H0 pc ls st h := by
  obtain ⟨hx, hb, hml, hown, hts, hnw, hK, hinj⟩ := X
  unfold tkI at hI
  unfold tkRel at hr
  dsimp only at hI hr
  split at hI
  · rename_i y x r
    simp only [decide_eq_true_eq] at hr
    subst hr
    intro H locs lsA hP hS hL
    have ht : ∀ q, icc cd x y → W p l e R s m args below meth c H locs nc ns Qw (F0 m (pcs.getD t.toNat q) lsA (r.map (tk_cv ads))) ∨ q ≠ 0 := fun q hc => by
      by_cases h0 : q = 0
      · subst h0; exact Or.inl (hKg _ _ _ _ (hI.1 hc) H locs lsA hP hS hL)
      · exact Or.inr h0
    have ht : icc cd x y → W p l e R s m args below meth c H locs nc ns Qw (F0 m (pcs.getD t.toNat 0) lsA (r.map (tk_cv ads))) := fun hc => hKg _ _ _ _ (hI.1 hc) H locs lsA hP hS hL
    have hf : ¬ icc cd x y → W p l e R s m args below meth c H locs nc ns Qw (F0 m (pc + 3) lsA (r.map (tk_cv ads))) := fun hc => hN _ _ _ (hI.2 hc) H locs lsA hP hS hL
    have e1 : (pc : Int) + ((pcs.getD t.toNat 0 : Int) - pc) = ((pcs.getD t.toNat 0 : Nat) : Int) := by omega
    cases cd
    · exact lv_icmp_eq hx hb hd e1 ht hf
    · exact lv_icmp_ne hx hb hd e1 ht (fun q => hf (fun z => z q))
    · exact lv_icmp_lt hx hb hd e1 ht hf
    · exact lv_icmp_ge hx hb hd e1 ht hf
    · exact lv_icmp_gt hx hb hd e1 ht hf
    · exact lv_icmp_le hx hb hd e1 ht hf
  · exact hI.elim
theorem tkZ_ifCond {nc ns : Nat} {p : Program} {l : Launch} {e : Env} {R : Room} {s : State} {m : MethodId} {args : Array Value} {below : List Frame} {meth : Method} {c : Code} {Qw : State → Prop} {D : va_G} {cy : Nat → ClassId} {ads : Nat → Nat} {nL : Nat} {H0 : Heap} {cc : ByteArray} {oc : Nat} (X : tkX p s m args c cc nL oc D cy ads) {pc : Nat} {ls st : List Value} {h : tkH} {cd : Jvm.ClassFile.Cond} {t : Int} {pcs : List Nat} {rt : Option FieldType} {sc : Bool} {d : Instr × Nat} {N : tkN} {sx : Nat × (Nat → Int32)} {call : tkC} {K : tkK} {Q : tkQ} (hd : decode cc pc = .ok d) (hKg : ∀ b ls st h, K b ls st h → tkGz nc ns p l e R s m args below meth c Qw D cy ads nL H0 (pcs.getD b 0) ls st h) (hr : tkRel oc nL pc pcs rt sc d (.ifCond cd t) = true) (hI : tkI sx call K Q (.ifCond cd t) ls st h N) (hN : ∀ ls st h, N ls st h → tkGz nc ns p l e R s m args below meth c Qw D cy ads nL H0 (pc + d.2) ls st h) : tkGz nc ns p l e R s m args below meth c Qw D cy ads nL H0 pc ls st h := by
  obtain ⟨hx, hb, hml, hown, hts, hnw, hK, hinj⟩ := X
  unfold tkI at hI
  unfold tkRel at hr
  dsimp only at hI hr
  split at hI
  · rename_i x r
    simp only [decide_eq_true_eq] at hr
    subst hr
    intro H locs lsA hP hS hL
    have ht : icc cd x 0 → W p l e R s m args below meth c H locs nc ns Qw (F0 m (pcs.getD t.toNat 0) lsA (r.map (tk_cv ads))) := fun hc => hKg _ _ _ _ (hI.1 hc) H locs lsA hP hS hL
    have hf : ¬ icc cd x 0 → W p l e R s m args below meth c H locs nc ns Qw (F0 m (pc + 3) lsA (r.map (tk_cv ads))) := fun hc => hN _ _ _ (hI.2 hc) H locs lsA hP hS hL
    have e1 : (pc : Int) + ((pcs.getD t.toNat 0 : Int) - pc) = ((pcs.getD t.toNat 0 : Nat) : Int) := by omega
    cases cd
    · exact lv_if_eq hx hb hd e1 ht hf
    · exact lv_if_ne hx hb hd e1 ht (fun q => hf (fun z => z q))
    · exact lv_if_lt hx hb hd e1 ht hf
    · exact lv_if_ge hx hb hd e1 ht hf
    · exact lv_if_gt hx hb hd e1 ht hf
    · exact lv_if_le hx hb hd e1 ht hf
  · exact hI.elim
theorem tkZ_goto {nc ns : Nat} {p : Program} {l : Launch} {e : Env} {R : Room} {s : State} {m : MethodId} {args : Array Value} {below : List Frame} {meth : Method} {c : Code} {Qw : State → Prop} {D : va_G} {cy : Nat → ClassId} {ads : Nat → Nat} {nL : Nat} {H0 : Heap} {cc : ByteArray} {oc : Nat} (X : tkX p s m args c cc nL oc D cy ads) {pc : Nat} {ls st : List Value} {h : tkH} {t : Int} {pcs : List Nat} {rt : Option FieldType} {sc : Bool} {d : Instr × Nat} {N : tkN} {sx : Nat × (Nat → Int32)} {call : tkC} {K : tkK} {Q : tkQ} (hd : decode cc pc = .ok d) (hKg : ∀ b ls st h, K b ls st h → tkGz nc ns p l e R s m args below meth c Qw D cy ads nL H0 (pcs.getD b 0) ls st h) (hr : tkRel oc nL pc pcs rt sc d (.goto t) = true) (hI : tkI sx call K Q (.goto t) ls st h N) (hN : ∀ ls st h, N ls st h → tkGz nc ns p l e R s m args below meth c Qw D cy ads nL H0 (pc + d.2) ls st h) : tkGz nc ns p l e R s m args below meth c Qw D cy ads nL H0 pc ls st h := by
  obtain ⟨hx, hb, hml, hown, hts, hnw, hK, hinj⟩ := X
  unfold tkI at hI
  unfold tkRel at hr
  dsimp only at hI hr
  simp only [decide_eq_true_eq] at hr
  subst hr
  intro H locs lsA hP hS hL
  exact lv_goto (tgt := pcs.getD t.toNat 0) hx hb hd (by omega) (hKg _ _ _ _ hI H locs lsA hP hS hL)
theorem tkZ_tableswitch {nc ns : Nat} {p : Program} {l : Launch} {e : Env} {R : Room} {s : State} {m : MethodId} {args : Array Value} {below : List Frame} {meth : Method} {c : Code} {Qw : State → Prop} {D : va_G} {cy : Nat → ClassId} {ads : Nat → Nat} {nL : Nat} {H0 : Heap} {cc : ByteArray} {oc : Nat} (X : tkX p s m args c cc nL oc D cy ads) {pc : Nat} {ls st : List Value} {h : tkH} {dd lo hi : Int} {bs : Array Int} {pcs : List Nat} {rt : Option FieldType} {sc : Bool} {d : Instr × Nat} {N : tkN} {sx : Nat × (Nat → Int32)} {call : tkC} {K : tkK} {Q : tkQ} (hd : decode cc pc = .ok d) (hKg : ∀ b ls st h, K b ls st h → tkGz nc ns p l e R s m args below meth c Qw D cy ads nL H0 (pcs.getD b 0) ls st h) (hr : tkRel oc nL pc pcs rt sc d (.tableswitch dd lo hi bs) = true) (hI : tkI sx call K Q (.tableswitch dd lo hi bs) ls st h N) (hN : ∀ ls st h, N ls st h → tkGz nc ns p l e R s m args below meth c Qw D cy ads nL H0 (pc + d.2) ls st h) : tkGz nc ns p l e R s m args below meth c Qw D cy ads nL H0 pc ls st h := by
  obtain ⟨hx, hb, hml, hown, hts, hnw, hK, hinj⟩ := X
  unfold tkI at hI
  unfold tkRel at hr
  dsimp only at hI hr
  split at hI
  · rename_i x r
    simp only [Bool.and_eq_true, decide_eq_true_eq] at hr
    obtain ⟨hr, hsz⟩ := hr
    obtain ⟨d1, d2⟩ := d
    dsimp only at hr
    subst hr
    intro H locs lsA hP hS hL
    by_cases h1 : x.toInt < lo
    · exact lv_tableOut (tgt := pcs.getD dd.toNat 0) hx hb hd (Or.inl h1) (by omega) (hKg _ _ _ _ (hI.1 (Or.inl h1)) H locs lsA hP hS hL)
    · by_cases h2 : hi < x.toInt
      · exact lv_tableOut (tgt := pcs.getD dd.toNat 0) hx hb hd (Or.inr h2) (by omega) (hKg _ _ _ _ (hI.1 (Or.inr h2)) H locs lsA hP hS hL)
      · have hk := hKg _ _ _ _ (hI.2 h1 h2) H locs lsA hP hS hL
        have hlt : (x.toInt - lo).toNat < bs.size := by omega
        refine lv_tableIn (off := (pcs.getD (bs.getD (x.toInt - lo).toNat 0).toNat 0 : Int) - pc) (tgt := pcs.getD (bs.getD (x.toInt - lo).toNat 0).toNat 0) hx hb hd h1 h2 ?_ (by omega) hk
        rw [Array.getElem?_map, Array.getElem?_eq_getElem hlt]
        simp [Array.getD, hlt]
  · exact hI.elim
