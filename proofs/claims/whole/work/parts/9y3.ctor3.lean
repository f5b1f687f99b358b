/-! constructors: objects made within -/
abbrev ctPc (D : va_G) (cy : Nat → ClassId) (av : List Value) (q sz cj : Nat) (fs0 : List Value) (W1 : va_W) : Array Value → State → Prop := va_Pc (.ref q :: av) (fun U => U.heap.size = sz ∧ va_P D vwCl ((q, .inr (cj, fs0)) :: W1) U.heap ∧ va_K D vwCl (tkTy cy) U ∧ va_D (fun _ => True) ((q, .inr (cj, fs0)) :: W1) ∧ (∀ w ∈ tkNl, va_Nw w U) ∧ va_AO "TickerHouse$Machine" U)
abbrev ctQc (D : va_G) (q sz cj : Nat) (fs0 : List Value) (fsJ : (Nat → Nat) → List Value) (nwJ : (Nat → Nat) → va_W) (W1 : va_W) : Array Value → State → Outcome → State → Prop := va_Qv (fun _ : Nat → Nat => True) (fun u t => va_P D vwCl ((q, .inr (cj, fsJ u)) :: (W1 ++ nwJ u)) t.heap ∧ va_D (va_A ((q, .inr (cj, fs0)) :: W1) sz) ((q, .inr (cj, fsJ u)) :: (W1 ++ nwJ u))) (va_A ((q, .inr (cj, fs0)) :: W1) sz)
theorem ctPc_blind (D : va_G) (cy : Nat → ClassId) (av : List Value) (q sz cj : Nat) (fs0 : List Value) (W1 : va_W) : FrameBlind (ctPc D cy av q sz cj fs0 W1) := by
  rintro b U g mk ⟨q0, q1, qP, qK, qD, qN, qO⟩
  refine ⟨q0, q1, qP, va_K.moved (u := U) (U := U.calling g mk b) (Vm.Alike.refl U.vm) qK, qD, fun w hw => ?_, va_AO.moved (u := U) (U := U.calling g mk b) (Vm.Alike.refl U.vm) qO⟩
  obtain ⟨a1, k1, y1, b1, rfl⟩ := tkNl_is hw
  exact va_Nw.same (u := U) (U := U.calling g mk b) rfl rfl (qN _ hw)
section CG3
variable {p : Program} {l : Launch} {e : Env} {R : Room} {s : State} {m : MethodId} {args : Array Value} {below : List Frame} {meth : Method} {c : Code} {H H0 : Heap} {locs : List Loc} {cells slots : Nat} {Q : State → Prop} {cc : ByteArray} {nL ci : Nat} {D : va_G} {cy : Nat → ClassId} {A : Nat → Prop} {pc h0 : Nat} {ls : Array Slot} {fs : List Value} {W1 : va_W}
theorem cg_call {cj nLj idx mc ms : Nat} {nest : Option String} {y : MethodName} {bytes : ByteArray} {rm : Room} {As fs0 rest : List Value} {fsJ : (Nat → Nat) → List Value} {nwJ : (Nat → Nat) → va_W} {q : Nat} (Y : tkY p s m args meth c cc nL ci D cy) (hM : Met l y (.code y bytes nLj none :: tkWd) rm (ctPc D cy As q H.size cj fs0 W1) (ctQc D q H.size cj fs0 fsJ nwJ W1) mc ms (va_A ((q, .inr (cj, fs0)) :: W1) H.size))
    (hcode : Cond.code y bytes nLj none ∈ lw_tbl) (hrc : rm.cells = mc) (hrs : rm.slots = ms) (hini : Cond.initialized y.cls ∈ tkWd) (hlink : match nest with | none => Cond.methodLink (tkCn ci) idx y ∈ tkWd | some h => Cond.methodLinkNest (tkCn ci) idx y h ∈ tkNl) (hinst : Cond.instanceMethod y ∈ tkWd) (hy : y.name = "<init>") (hd9 : y.cls ≠ "java/lang/invoke/MethodHandle" ∧ y.cls ≠ "java/lang/invoke/VarHandle" ∧ (parseMethodDescriptor y.desc).map (fun d => d.parameters.length) = some As.length) (hR : rm.frames + 1 ≤ R.frames ∧ 8 + (nLj + 11) + rm.locals ≤ R.locals) (hls : ls.size = nL) (hW : 2 * (F0 m pc ls (As.reverse ++ .ref q :: rest)).monitorRoom + (rest.map fun v => v.category).sum ≤ 8) (hd : decode cc pc = .ok (.invokespecial idx, 3)) (hf : cells + mc ≤ R.cells ∧ slots + ms ≤ R.slots)
    (hP : va_P D vwCl ((q, .inr (cj, fs0)) :: W1) H) (hD : va_D A ((q, .inr (cj, fs0)) :: W1)) (hS : va_S A H0 H locs) (hA : ∀ q, H0.size ≤ q → A q)
    (kk : ∀ (u : Nat → Nat) (H1 : Heap) (locs1 : List Loc), va_P D vwCl ((q, .inr (cj, fsJ u)) :: (W1 ++ nwJ u)) H1 → va_D A ((q, .inr (cj, fsJ u)) :: (W1 ++ nwJ u)) → va_S A H0 H1 locs1 → W p l e R s m args below meth c H1 locs1 (cells + mc) (slots + ms) Q (F0 m (pc + 3) ls rest)) : W p l e R s m args below meth c H locs cells slots Q (F0 m pc ls (As.reverse ++ .ref q :: rest)) := by
  obtain ⟨hx, hb, hml, hown, hts, hK, hin, hnw⟩ := id Y
  have hts' : ∀ w ∈ (Cond.tt :: tkWd), w.before args s = true := fun w hw => by
    rcases List.mem_cons.mp hw with rfl | hw
    · rfl
    · exact hts w hw
  have hF := cg_free hD hS hA
  have hgood : GoodIn (Cond.tt :: tkWd) (Cond.code y bytes nLj none :: tkWd) := tkGood hcode rfl
  have hpre : ∀ U : State, U.heap = H → s.WarmedH U.vm → ctPc D cy As q H.size cj fs0 W1 (Value.ref q :: As).toArray U := fun U hU hW => ⟨rfl, by rw [hU], by rw [hU]; exact hP, va_K.moved hW.alike hK, hD.up (fun _ _ => trivial), fun w hw => by
    obtain ⟨a1, k1, y1, b1, rfl⟩ := tkNl_is hw
    exact va_Nw.warmM hW (hnw.1 _ hw), va_AO.moved hW.alike hnw.2⟩
  have go : va_Run p l e R s m args below meth c H locs cells slots mc ms (F0 m pc ls (As.reverse ++ .ref q :: rest)) rest (ctQc D q H.size cj fs0 fsJ nwJ W1 (Value.ref q :: As).toArray) (va_A ((q, .inr (cj, fs0)) :: W1) H.size) := by
    cases nest with
    | none => exact va_runI (As := As) (rest := rest) ⟨hx, hb, hml, hown, hts'⟩ hM (cwI As.length hts' hgood rfl hrc hrs (hts _ hini) (hts _ hlink) (hts _ hinst) hy hd9 hR) ⟨ctPc_blind D cy As q H.size cj fs0 W1, hpre⟩ rfl rfl hls rfl hW hd hf
    | some hh => exact va_runIN (As := As) (rest := rest) ⟨hx, hb, hml, hown, hts'⟩ hM ⟨va_cnB As.length hts' hgood rfl hrc hrs (hnw.1 _ hlink) (hts _ hini) hd9 hR, hy, hts _ hinst⟩ ⟨ctPc_blind D cy As q H.size cj fs0 W1, hpre⟩ rfl rfl hls rfl hW hd hf
  refine va_callv go hS (fun q _ h => hF q h) hF (fun u t H1 locs1 ht hvm hw hB hz1 hk1 hS1 => ?_)
  obtain ⟨b1, b2⟩ := hB
  rw [ht] at b1
  exact kk u H1 locs1 b1 (b2.up hF) hS1
/-- new, dup -/
theorem cg_new {cj N idx : Nat} {C : String} {T : u_T} {ty : Nat → FieldType} {fs0 rest : List Value} (Y : tkY p s m args meth c cc nL ci D cy) (hA : ∀ q, H0.size ≤ q → A q) (hc : vwCl[cj]? = some (C, T, N)) (hty : ∀ k, k < N → parseFieldDescriptor (T k).2.2.1 = some (ty k)) (hcl : Cond.classLink (tkCn ci) idx C ∈ tkWd) (hins : Cond.instantiable C N ∈ tkWd) (hini : Cond.initialized C ∈ tkWd) (hfs : ∀ j, j < N → defaultValue (ty j) = vp_V fs0 j) (hce : cells + 1 ≤ R.cells) (hsl : slots + N ≤ R.slots) (hd : decode cc pc = .ok (.new idx, 3)) (hd2 : decode cc (pc + 3) = .ok (.dup, 1)) (hP : va_P D vwCl W1 H) (hD : va_D A W1) (hS : va_S A H0 H locs)
    (kk : ∀ (q : Nat) (H1 : Heap), va_P D vwCl ((q, .inr (cj, fs0)) :: W1) H1 → va_D A ((q, .inr (cj, fs0)) :: W1) → va_S A H0 H1 locs → W p l e R s m args below meth c H1 locs (cells + 1) (slots + N) Q (F0 m (pc + 4) ls (.ref q :: .ref q :: rest))) : W p l e R s m args below meth c H locs cells slots Q (F0 m pc ls rest) := by
  obtain ⟨hx, hb, hml, hown, hts, hK, hin, hnw⟩ := id Y
  obtain ⟨v1, -, -, -⟩ := tkVw hc
  refine va_new hx hb hts (tkIn_wd v1) ty hty hown (hts _ hcl) (hts _ hins) (hts _ hini) hK hP hD hS hA hc hfs hce hsl hd (fun q H1 hP1 hD1 hS1 => ?_)
  refine lv_dup hx hb hd2 rfl ?_
  exact kk q H1 (hP1.perm (List.perm_append_singleton _ _).symm) (hD1.perm (List.perm_append_singleton _ _).symm) hS1
end CG3
