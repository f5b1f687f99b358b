/-! constructors that make rows alone -/
def fsX3 (q : Nat → Nat) : List Value := .int 0 :: .int 0 :: .int 0 :: .int 1 :: .int 0 :: .int 0 :: .int 0 :: .int 0 :: .int 0 :: .ref (q 0) :: .int 0 :: []
def nwX3 (cy : Nat → ClassId) (q : Nat → Nat) : va_W := ((q 0), .inl (cy 0, (300, .inl (fun _ => 0)))) :: []
def f0X3 : List Value := .int 0 :: .int 0 :: .int 0 :: .int 0 :: .int 0 :: .int 0 :: .int 0 :: .int 0 :: .int 0 :: .null :: .int 0 :: []
set_option maxHeartbeats 1000000 in
set_option maxRecDepth 100000 in
theorem ct_3 (l : Launch) (D : va_G) (cy : Nat → ClassId) (h0 sz : Nat) (ws : va_W) : Met l (⟨tkCn 3, "<init>", "()V"⟩ : MethodName) (.code (⟨tkCn 3, "<init>", "()V"⟩ : MethodName) prog_5_method_1_code 1 none :: tkWd) { frames := 1, cells := 1, slots := 300, locals := 20 } (va_Pc [.ref h0] (fun U => U.heap.size = sz ∧ va_P D vwCl ((h0, .inr (3, f0X3)) :: ws) U.heap ∧ va_K D vwCl (tkTy cy) U ∧ va_D (fun _ => True) ((h0, .inr (3, f0X3)) :: ws) ∧ (∀ w ∈ tkNl, va_Nw w U) ∧ va_AO "TickerHouse$Machine" U)) (va_Qv (fun _ : Nat → Nat => True) (fun q t => va_P D vwCl ((h0, .inr (3, fsX3 q)) :: (ws ++ nwX3 cy q)) t.heap ∧ va_D (va_A ((h0, .inr (3, f0X3)) :: ws) sz) ((h0, .inr (3, fsX3 q)) :: (ws ++ nwX3 cy q))) (va_A ((h0, .inr (3, f0X3)) :: ws) sz)) 1 300 (va_A ((h0, .inr (3, f0X3)) :: ws) sz) := by
  refine Met.ofW (cc := prog_5_method_1_code) (maxL := 1) (ret := none) (by decide) rfl ?_
  intro p e s m args below meth c s₁ B hml hv
  obtain ⟨rfl, hsz, hP, hK, hD0, hnw⟩ := hv
  have hx := B.exec
  have hb := B.bytes
  have hr := B.returns
  have hts := atoms_spec (ws := .code (⟨tkCn 3, "<init>", "()V"⟩ : MethodName) prog_5_method_1_code 1 none :: tkWd) B.pre
  have hown : s.vm.findClass (tkCn 3) = some m.cls := findClass_of_methodNamed B.named
  have hin : meth.name = "<init>" := (name_of_methodNamed B.named B.method).1
  subst hsz
  have hD := hD0.self (sz := s.heap.size)
  generalize hAe : va_A ((h0, .inr (3, f0X3)) :: ws) s.heap.size = A at hD ⊢
  have hA : ∀ q : Nat, s.heap.size ≤ q → A q := fun q h => by rw [← hAe]; exact Or.inr h
  have hS : va_S A s.heap s.heap [] := va_S.rf
  have hl := lv_entry ([.ref h0]) (n := 1) (Nat.le_of_ble_eq_true rfl)
  rw [lg_entry_eq]
  generalize (lg_sl ([.ref h0]) ++ List.replicate (1 - (lg_sl ([.ref h0])).length) Slot.unset).toArray = ls at hl ⊢
  have hl : lv_has ls 1 [(0, .ref h0)] := hl
  have Y : tkY p s m [.ref h0].toArray meth c prog_5_method_1_code 1 3 D cy := ⟨hx, hb, hml, hown, fun w hw => hts w (List.mem_cons_of_mem _ hw), hK, hin, hnw⟩
  refine cg_obj (idx := 3) Y hl (by decide +kernel) (by decide +kernel) (tkWd_in (i := 118) (by decide +kernel) rfl) (Nat.le_of_ble_eq_true rfl) (Nat.le_of_ble_eq_true rfl) ?_
  refine cg_int (fs := (.int 0 :: .int 0 :: .int 0 :: .int 0 :: .int 0 :: .int 0 :: .int 0 :: .int 0 :: .int 0 :: .null :: .int 0 :: [])) (n := 195) (idx := 9) (ty := .boolean) (v := 1) (d := (.iconst 1, 1)) Y hl (by decide +kernel) (by decide +kernel) (by decide +kernel) (by decide +kernel) (by decide +kernel) rfl (by decide) (by decide +kernel) rfl rfl (Nat.le_of_ble_eq_true rfl) hP hD hS (fun H locs hP hD hS => ?_)
  refine W.widen (k := 0) (n := 0) (Nat.le_of_ble_eq_true rfl) (Nat.le_of_ble_eq_true rfl) ?_
  refine W.eq (g2 := F0 m 9 ls []) rfl ?_
  refine cg_arr (fs := (.int 0 :: .int 0 :: .int 0 :: .int 1 :: .int 0 :: .int 0 :: .int 0 :: .int 0 :: .int 0 :: .null :: .int 0 :: [])) (n := 201) (idx := 15) (ti := 0) (N := 300) (ty := .int) (fty := (.array .int)) (v := 300) (d := (.sipush 300, 3)) (atype := .int) (a0 := (300, .inl (fun _ => 0))) Y hl hA (by decide +kernel) (by decide +kernel) (by decide +kernel) (by decide +kernel) rfl (Or.inl rfl) rfl (tkWd_in (i := 165) (by decide +kernel) rfl) (fun _ => rfl) (by decide) (by decide) (by decide) (Nat.le_of_ble_eq_true rfl) (Nat.le_of_ble_eq_true rfl) (by decide +kernel) (by decide +kernel) rfl (by decide) (by decide +kernel) (fun _ => rfl) (fun _ => rfl) (Nat.le_of_ble_eq_true rfl) hP hD hS (fun q0 H locs hP hD hS => ?_)
  refine W.widen (k := 1) (n := 300) (Nat.le_of_ble_eq_true rfl) (Nat.le_of_ble_eq_true rfl) ?_
  refine W.eq (g2 := F0 m 18 ls []) rfl ?_
  try simp only [List.append_assoc, List.cons_append, List.nil_append] at hP hD
  have hP : va_P D vwCl ((h0, .inr (3, fsX3 (fun k => [q0].getD k 0))) :: (ws ++ nwX3 cy (fun k => [q0].getD k 0))) H := hP
  have hD : va_D A ((h0, .inr (3, fsX3 (fun k => [q0].getD k 0))) :: (ws ++ nwX3 cy (fun k => [q0].getD k 0))) := hD
  refine W.widen (k := 1) (n := 300) (Nat.le_of_ble_eq_true rfl) (Nat.le_of_ble_eq_true rfl) ?_
  exact W.vret hx hb hr (fun t ht hW => ⟨⟨fun k => [q0].getD k 0, rfl, trivial, by rw [ht]; exact hP, hD⟩, hS.F ht⟩) hS.2.2 (by decide +kernel)
def fsX1 (q : Nat → Nat) : List Value := .ref (q 0) :: .ref (q 1) :: .int (-1) :: .int 0 :: []
def nwX1 (cy : Nat → ClassId) (q : Nat → Nat) : va_W := ((q 0), .inl (cy 0, (3245, .inl (fun _ => 0)))) :: ((q 1), .inl (cy 2, (59, .inr (.inl (fun _ => 0))))) :: []
def f0X1 : List Value := .null :: .null :: .int 0 :: .int 0 :: []
set_option maxHeartbeats 1000000 in
set_option maxRecDepth 100000 in
theorem ct_1 (l : Launch) (D : va_G) (cy : Nat → ClassId) (h0 sz : Nat) (ws : va_W) : Met l (⟨tkCn 1, "<init>", "()V"⟩ : MethodName) (.code (⟨tkCn 1, "<init>", "()V"⟩ : MethodName) prog_3_method_1_code 1 none :: tkWd) { frames := 1, cells := 2, slots := 3304, locals := 20 } (va_Pc [.ref h0] (fun U => U.heap.size = sz ∧ va_P D vwCl ((h0, .inr (1, f0X1)) :: ws) U.heap ∧ va_K D vwCl (tkTy cy) U ∧ va_D (fun _ => True) ((h0, .inr (1, f0X1)) :: ws) ∧ (∀ w ∈ tkNl, va_Nw w U) ∧ va_AO "TickerHouse$Machine" U)) (va_Qv (fun _ : Nat → Nat => True) (fun q t => va_P D vwCl ((h0, .inr (1, fsX1 q)) :: (ws ++ nwX1 cy q)) t.heap ∧ va_D (va_A ((h0, .inr (1, f0X1)) :: ws) sz) ((h0, .inr (1, fsX1 q)) :: (ws ++ nwX1 cy q))) (va_A ((h0, .inr (1, f0X1)) :: ws) sz)) 2 3304 (va_A ((h0, .inr (1, f0X1)) :: ws) sz) := by
  refine Met.ofW (cc := prog_3_method_1_code) (maxL := 1) (ret := none) (by decide) rfl ?_
  intro p e s m args below meth c s₁ B hml hv
  obtain ⟨rfl, hsz, hP, hK, hD0, hnw⟩ := hv
  have hx := B.exec
  have hb := B.bytes
  have hr := B.returns
  have hts := atoms_spec (ws := .code (⟨tkCn 1, "<init>", "()V"⟩ : MethodName) prog_3_method_1_code 1 none :: tkWd) B.pre
  have hown : s.vm.findClass (tkCn 1) = some m.cls := findClass_of_methodNamed B.named
  have hin : meth.name = "<init>" := (name_of_methodNamed B.named B.method).1
  subst hsz
  have hD := hD0.self (sz := s.heap.size)
  generalize hAe : va_A ((h0, .inr (1, f0X1)) :: ws) s.heap.size = A at hD ⊢
  have hA : ∀ q : Nat, s.heap.size ≤ q → A q := fun q h => by rw [← hAe]; exact Or.inr h
  have hS : va_S A s.heap s.heap [] := va_S.rf
  have hl := lv_entry ([.ref h0]) (n := 1) (Nat.le_of_ble_eq_true rfl)
  rw [lg_entry_eq]
  generalize (lg_sl ([.ref h0]) ++ List.replicate (1 - (lg_sl ([.ref h0])).length) Slot.unset).toArray = ls at hl ⊢
  have hl : lv_has ls 1 [(0, .ref h0)] := hl
  have Y : tkY p s m [.ref h0].toArray meth c prog_3_method_1_code 1 1 D cy := ⟨hx, hb, hml, hown, fun w hw => hts w (List.mem_cons_of_mem _ hw), hK, hin, hnw⟩
  refine cg_obj (idx := 5) Y hl (by decide +kernel) (by decide +kernel) (tkWd_in (i := 410) (by decide +kernel) rfl) (Nat.le_of_ble_eq_true rfl) (Nat.le_of_ble_eq_true rfl) ?_
  refine cg_arr (fs := (.null :: .null :: .int 0 :: .int 0 :: [])) (n := 64) (idx := 11) (ti := 0) (N := 3245) (ty := .int) (fty := (.array .int)) (v := 3245) (d := (.sipush 3245, 3)) (atype := .int) (a0 := (3245, .inl (fun _ => 0))) Y hl hA (by decide +kernel) (by decide +kernel) (by decide +kernel) (by decide +kernel) rfl (Or.inl rfl) rfl (tkWd_in (i := 165) (by decide +kernel) rfl) (fun _ => rfl) (by decide) (by decide) (by decide) (Nat.le_of_ble_eq_true rfl) (Nat.le_of_ble_eq_true rfl) (by decide +kernel) (by decide +kernel) rfl (by decide) (by decide +kernel) (fun _ => rfl) (fun _ => rfl) (Nat.le_of_ble_eq_true rfl) hP hD hS (fun q0 H locs hP hD hS => ?_)
  refine W.widen (k := 1) (n := 3245) (Nat.le_of_ble_eq_true rfl) (Nat.le_of_ble_eq_true rfl) ?_
  refine W.eq (g2 := F0 m 13 ls []) rfl ?_
  refine cg_arr (fs := (.ref q0 :: .null :: .int 0 :: .int 0 :: [])) (n := 65) (idx := 15) (ti := 2) (N := 59) (ty := .long) (fty := (.array .long)) (v := 59) (d := (.bipush 59, 2)) (atype := .long) (a0 := (59, .inr (.inl (fun _ => 0)))) Y hl hA (by decide +kernel) (by decide +kernel) (by decide +kernel) (by decide +kernel) rfl (Or.inr (Or.inr rfl)) rfl (tkWd_in (i := 424) (by decide +kernel) rfl) (fun _ => rfl) (by decide) (by decide) (by decide) (Nat.le_of_ble_eq_true rfl) (Nat.le_of_ble_eq_true rfl) (by decide +kernel) (by decide +kernel) rfl (by decide) (by decide +kernel) (fun _ => rfl) (fun _ => rfl) (Nat.le_of_ble_eq_true rfl) hP hD hS (fun q1 H locs hP hD hS => ?_)
  refine W.widen (k := 2) (n := 3304) (Nat.le_of_ble_eq_true rfl) (Nat.le_of_ble_eq_true rfl) ?_
  refine W.eq (g2 := F0 m 21 ls []) rfl ?_
  refine cg_int (fs := (.ref q0 :: .ref q1 :: .int 0 :: .int 0 :: [])) (n := 66) (idx := 19) (ty := .int) (v := (-1)) (d := (.iconst (-1), 1)) Y hl (by decide +kernel) (by decide +kernel) (by decide +kernel) (by decide +kernel) (by decide +kernel) rfl (by decide) (by decide +kernel) rfl rfl (Nat.le_of_ble_eq_true rfl) hP hD hS (fun H locs hP hD hS => ?_)
  refine W.widen (k := 2) (n := 3304) (Nat.le_of_ble_eq_true rfl) (Nat.le_of_ble_eq_true rfl) ?_
  refine W.eq (g2 := F0 m 26 ls []) rfl ?_
  try simp only [List.append_assoc, List.cons_append, List.nil_append] at hP hD
  have hP : va_P D vwCl ((h0, .inr (1, fsX1 (fun k => [q0, q1].getD k 0))) :: (ws ++ nwX1 cy (fun k => [q0, q1].getD k 0))) H := hP
  have hD : va_D A ((h0, .inr (1, fsX1 (fun k => [q0, q1].getD k 0))) :: (ws ++ nwX1 cy (fun k => [q0, q1].getD k 0))) := hD
  refine W.widen (k := 2) (n := 3304) (Nat.le_of_ble_eq_true rfl) (Nat.le_of_ble_eq_true rfl) ?_
  exact W.vret hx hb hr (fun t ht hW => ⟨⟨fun k => [q0, q1].getD k 0, rfl, trivial, by rw [ht]; exact hP, hD⟩, hS.F ht⟩) hS.2.2 (by decide +kernel)
def fsX4 (q : Nat → Nat) : List Value := .ref (q 0) :: .ref (q 1) :: .ref (q 2) :: .ref (q 3) :: .int 0 :: .int 0 :: .int 0 :: .int (-1) :: .int 0 :: .int 0 :: []
def nwX4 (cy : Nat → ClassId) (q : Nat → Nat) : va_W := ((q 0), .inl (cy 0, (4096, .inl (fun _ => 0)))) :: ((q 1), .inl (cy 0, (4096, .inl (fun _ => 0)))) :: ((q 2), .inl (cy 0, (12, .inl (fun _ => 0)))) :: ((q 3), .inl (cy 0, (12, .inl (fun _ => 0)))) :: []
def f0X4 : List Value := .null :: .null :: .null :: .null :: .int 0 :: .int 0 :: .int 0 :: .int 0 :: .int 0 :: .int 0 :: []
set_option maxHeartbeats 1000000 in
set_option maxRecDepth 100000 in
theorem ct_4 (l : Launch) (D : va_G) (cy : Nat → ClassId) (h0 sz : Nat) (ws : va_W) : Met l (⟨tkCn 4, "<init>", "()V"⟩ : MethodName) (.code (⟨tkCn 4, "<init>", "()V"⟩ : MethodName) prog_6_method_1_code 1 none :: tkWd) { frames := 1, cells := 4, slots := 8216, locals := 20 } (va_Pc [.ref h0] (fun U => U.heap.size = sz ∧ va_P D vwCl ((h0, .inr (4, f0X4)) :: ws) U.heap ∧ va_K D vwCl (tkTy cy) U ∧ va_D (fun _ => True) ((h0, .inr (4, f0X4)) :: ws) ∧ (∀ w ∈ tkNl, va_Nw w U) ∧ va_AO "TickerHouse$Machine" U)) (va_Qv (fun _ : Nat → Nat => True) (fun q t => va_P D vwCl ((h0, .inr (4, fsX4 q)) :: (ws ++ nwX4 cy q)) t.heap ∧ va_D (va_A ((h0, .inr (4, f0X4)) :: ws) sz) ((h0, .inr (4, fsX4 q)) :: (ws ++ nwX4 cy q))) (va_A ((h0, .inr (4, f0X4)) :: ws) sz)) 4 8216 (va_A ((h0, .inr (4, f0X4)) :: ws) sz) := by
  refine Met.ofW (cc := prog_6_method_1_code) (maxL := 1) (ret := none) (by decide) rfl ?_
  intro p e s m args below meth c s₁ B hml hv
  obtain ⟨rfl, hsz, hP, hK, hD0, hnw⟩ := hv
  have hx := B.exec
  have hb := B.bytes
  have hr := B.returns
  have hts := atoms_spec (ws := .code (⟨tkCn 4, "<init>", "()V"⟩ : MethodName) prog_6_method_1_code 1 none :: tkWd) B.pre
  have hown : s.vm.findClass (tkCn 4) = some m.cls := findClass_of_methodNamed B.named
  have hin : meth.name = "<init>" := (name_of_methodNamed B.named B.method).1
  subst hsz
  have hD := hD0.self (sz := s.heap.size)
  generalize hAe : va_A ((h0, .inr (4, f0X4)) :: ws) s.heap.size = A at hD ⊢
  have hA : ∀ q : Nat, s.heap.size ≤ q → A q := fun q h => by rw [← hAe]; exact Or.inr h
  have hS : va_S A s.heap s.heap [] := va_S.rf
  have hl := lv_entry ([.ref h0]) (n := 1) (Nat.le_of_ble_eq_true rfl)
  rw [lg_entry_eq]
  generalize (lg_sl ([.ref h0]) ++ List.replicate (1 - (lg_sl ([.ref h0])).length) Slot.unset).toArray = ls at hl ⊢
  have hl : lv_has ls 1 [(0, .ref h0)] := hl
  have Y : tkY p s m [.ref h0].toArray meth c prog_6_method_1_code 1 4 D cy := ⟨hx, hb, hml, hown, fun w hw => hts w (List.mem_cons_of_mem _ hw), hK, hin, hnw⟩
  refine cg_obj (idx := 3) Y hl (by decide +kernel) (by decide +kernel) (tkWd_in (i := 344) (by decide +kernel) rfl) (Nat.le_of_ble_eq_true rfl) (Nat.le_of_ble_eq_true rfl) ?_
  refine cg_arr (fs := (.null :: .null :: .null :: .null :: .int 0 :: .int 0 :: .int 0 :: .int 0 :: .int 0 :: .int 0 :: [])) (n := 256) (idx := 9) (ti := 0) (N := 4096) (ty := .int) (fty := (.array .int)) (v := 4096) (d := (.sipush 4096, 3)) (atype := .int) (a0 := (4096, .inl (fun _ => 0))) Y hl hA (by decide +kernel) (by decide +kernel) (by decide +kernel) (by decide +kernel) rfl (Or.inl rfl) rfl (tkWd_in (i := 165) (by decide +kernel) rfl) (fun _ => rfl) (by decide) (by decide) (by decide) (Nat.le_of_ble_eq_true rfl) (Nat.le_of_ble_eq_true rfl) (by decide +kernel) (by decide +kernel) rfl (by decide) (by decide +kernel) (fun _ => rfl) (fun _ => rfl) (Nat.le_of_ble_eq_true rfl) hP hD hS (fun q0 H locs hP hD hS => ?_)
  refine W.widen (k := 1) (n := 4096) (Nat.le_of_ble_eq_true rfl) (Nat.le_of_ble_eq_true rfl) ?_
  refine W.eq (g2 := F0 m 13 ls []) rfl ?_
  refine cg_arr (fs := (.ref q0 :: .null :: .null :: .null :: .int 0 :: .int 0 :: .int 0 :: .int 0 :: .int 0 :: .int 0 :: [])) (n := 257) (idx := 15) (ti := 0) (N := 4096) (ty := .int) (fty := (.array .int)) (v := 4096) (d := (.sipush 4096, 3)) (atype := .int) (a0 := (4096, .inl (fun _ => 0))) Y hl hA (by decide +kernel) (by decide +kernel) (by decide +kernel) (by decide +kernel) rfl (Or.inl rfl) rfl (tkWd_in (i := 165) (by decide +kernel) rfl) (fun _ => rfl) (by decide) (by decide) (by decide) (Nat.le_of_ble_eq_true rfl) (Nat.le_of_ble_eq_true rfl) (by decide +kernel) (by decide +kernel) rfl (by decide) (by decide +kernel) (fun _ => rfl) (fun _ => rfl) (Nat.le_of_ble_eq_true rfl) hP hD hS (fun q1 H locs hP hD hS => ?_)
  refine W.widen (k := 2) (n := 8192) (Nat.le_of_ble_eq_true rfl) (Nat.le_of_ble_eq_true rfl) ?_
  refine W.eq (g2 := F0 m 22 ls []) rfl ?_
  refine cg_arr (fs := (.ref q0 :: .ref q1 :: .null :: .null :: .int 0 :: .int 0 :: .int 0 :: .int 0 :: .int 0 :: .int 0 :: [])) (n := 258) (idx := 18) (ti := 0) (N := 12) (ty := .int) (fty := (.array .int)) (v := 12) (d := (.bipush 12, 2)) (atype := .int) (a0 := (12, .inl (fun _ => 0))) Y hl hA (by decide +kernel) (by decide +kernel) (by decide +kernel) (by decide +kernel) rfl (Or.inl rfl) rfl (tkWd_in (i := 165) (by decide +kernel) rfl) (fun _ => rfl) (by decide) (by decide) (by decide) (Nat.le_of_ble_eq_true rfl) (Nat.le_of_ble_eq_true rfl) (by decide +kernel) (by decide +kernel) rfl (by decide) (by decide +kernel) (fun _ => rfl) (fun _ => rfl) (Nat.le_of_ble_eq_true rfl) hP hD hS (fun q2 H locs hP hD hS => ?_)
  refine W.widen (k := 3) (n := 8204) (Nat.le_of_ble_eq_true rfl) (Nat.le_of_ble_eq_true rfl) ?_
  refine W.eq (g2 := F0 m 30 ls []) rfl ?_
  refine cg_arr (fs := (.ref q0 :: .ref q1 :: .ref q2 :: .null :: .int 0 :: .int 0 :: .int 0 :: .int 0 :: .int 0 :: .int 0 :: [])) (n := 259) (idx := 21) (ti := 0) (N := 12) (ty := .int) (fty := (.array .int)) (v := 12) (d := (.bipush 12, 2)) (atype := .int) (a0 := (12, .inl (fun _ => 0))) Y hl hA (by decide +kernel) (by decide +kernel) (by decide +kernel) (by decide +kernel) rfl (Or.inl rfl) rfl (tkWd_in (i := 165) (by decide +kernel) rfl) (fun _ => rfl) (by decide) (by decide) (by decide) (Nat.le_of_ble_eq_true rfl) (Nat.le_of_ble_eq_true rfl) (by decide +kernel) (by decide +kernel) rfl (by decide) (by decide +kernel) (fun _ => rfl) (fun _ => rfl) (Nat.le_of_ble_eq_true rfl) hP hD hS (fun q3 H locs hP hD hS => ?_)
  refine W.widen (k := 4) (n := 8216) (Nat.le_of_ble_eq_true rfl) (Nat.le_of_ble_eq_true rfl) ?_
  refine W.eq (g2 := F0 m 38 ls []) rfl ?_
  refine cg_int (fs := (.ref q0 :: .ref q1 :: .ref q2 :: .ref q3 :: .int 0 :: .int 0 :: .int 0 :: .int 0 :: .int 0 :: .int 0 :: [])) (n := 263) (idx := 24) (ty := .int) (v := (-1)) (d := (.iconst (-1), 1)) Y hl (by decide +kernel) (by decide +kernel) (by decide +kernel) (by decide +kernel) (by decide +kernel) rfl (by decide) (by decide +kernel) rfl rfl (Nat.le_of_ble_eq_true rfl) hP hD hS (fun H locs hP hD hS => ?_)
  refine W.widen (k := 4) (n := 8216) (Nat.le_of_ble_eq_true rfl) (Nat.le_of_ble_eq_true rfl) ?_
  refine W.eq (g2 := F0 m 43 ls []) rfl ?_
  try simp only [List.append_assoc, List.cons_append, List.nil_append] at hP hD
  have hP : va_P D vwCl ((h0, .inr (4, fsX4 (fun k => [q0, q1, q2, q3].getD k 0))) :: (ws ++ nwX4 cy (fun k => [q0, q1, q2, q3].getD k 0))) H := hP
  have hD : va_D A ((h0, .inr (4, fsX4 (fun k => [q0, q1, q2, q3].getD k 0))) :: (ws ++ nwX4 cy (fun k => [q0, q1, q2, q3].getD k 0))) := hD
  refine W.widen (k := 4) (n := 8216) (Nat.le_of_ble_eq_true rfl) (Nat.le_of_ble_eq_true rfl) ?_
  exact W.vret hx hb hr (fun t ht hW => ⟨⟨fun k => [q0, q1, q2, q3].getD k 0, rfl, trivial, by rw [ht]; exact hP, hD⟩, hS.F ht⟩) hS.2.2 (by decide +kernel)
def fsX5 (q : Nat → Nat) : List Value := .ref (q 0) :: .ref (q 1) :: .ref (q 2) :: .ref (q 3) :: .ref (q 4) :: .ref (q 5) :: .int 0 :: .int 0 :: []
def nwX5 (cy : Nat → ClassId) (q : Nat → Nat) : va_W := ((q 0), .inl (cy 0, (12, .inl (fun _ => 0)))) :: ((q 1), .inl (cy 0, (12, .inl (fun _ => 0)))) :: ((q 2), .inl (cy 0, (12, .inl (fun _ => 0)))) :: ((q 3), .inl (cy 0, (12, .inl (fun _ => 0)))) :: ((q 4), .inl (cy 0, (12, .inl (fun _ => 0)))) :: ((q 5), .inl (cy 0, (12, .inl (fun _ => 0)))) :: []
def f0X5 : List Value := .null :: .null :: .null :: .null :: .null :: .null :: .int 0 :: .int 0 :: []
set_option maxHeartbeats 1000000 in
set_option maxRecDepth 100000 in
theorem ct_5 (l : Launch) (D : va_G) (cy : Nat → ClassId) (h0 sz : Nat) (ws : va_W) : Met l (⟨tkCn 5, "<init>", "()V"⟩ : MethodName) (.code (⟨tkCn 5, "<init>", "()V"⟩ : MethodName) prog_7_method_1_code 1 none :: tkWd) { frames := 1, cells := 6, slots := 72, locals := 20 } (va_Pc [.ref h0] (fun U => U.heap.size = sz ∧ va_P D vwCl ((h0, .inr (5, f0X5)) :: ws) U.heap ∧ va_K D vwCl (tkTy cy) U ∧ va_D (fun _ => True) ((h0, .inr (5, f0X5)) :: ws) ∧ (∀ w ∈ tkNl, va_Nw w U) ∧ va_AO "TickerHouse$Machine" U)) (va_Qv (fun _ : Nat → Nat => True) (fun q t => va_P D vwCl ((h0, .inr (5, fsX5 q)) :: (ws ++ nwX5 cy q)) t.heap ∧ va_D (va_A ((h0, .inr (5, f0X5)) :: ws) sz) ((h0, .inr (5, fsX5 q)) :: (ws ++ nwX5 cy q))) (va_A ((h0, .inr (5, f0X5)) :: ws) sz)) 6 72 (va_A ((h0, .inr (5, f0X5)) :: ws) sz) := by
  refine Met.ofW (cc := prog_7_method_1_code) (maxL := 1) (ret := none) (by decide) rfl ?_
  intro p e s m args below meth c s₁ B hml hv
  obtain ⟨rfl, hsz, hP, hK, hD0, hnw⟩ := hv
  have hx := B.exec
  have hb := B.bytes
  have hr := B.returns
  have hts := atoms_spec (ws := .code (⟨tkCn 5, "<init>", "()V"⟩ : MethodName) prog_7_method_1_code 1 none :: tkWd) B.pre
  have hown : s.vm.findClass (tkCn 5) = some m.cls := findClass_of_methodNamed B.named
  have hin : meth.name = "<init>" := (name_of_methodNamed B.named B.method).1
  subst hsz
  have hD := hD0.self (sz := s.heap.size)
  generalize hAe : va_A ((h0, .inr (5, f0X5)) :: ws) s.heap.size = A at hD ⊢
  have hA : ∀ q : Nat, s.heap.size ≤ q → A q := fun q h => by rw [← hAe]; exact Or.inr h
  have hS : va_S A s.heap s.heap [] := va_S.rf
  have hl := lv_entry ([.ref h0]) (n := 1) (Nat.le_of_ble_eq_true rfl)
  rw [lg_entry_eq]
  generalize (lg_sl ([.ref h0]) ++ List.replicate (1 - (lg_sl ([.ref h0])).length) Slot.unset).toArray = ls at hl ⊢
  have hl : lv_has ls 1 [(0, .ref h0)] := hl
  have Y : tkY p s m [.ref h0].toArray meth c prog_7_method_1_code 1 5 D cy := ⟨hx, hb, hml, hown, fun w hw => hts w (List.mem_cons_of_mem _ hw), hK, hin, hnw⟩
  refine cg_obj (idx := 3) Y hl (by decide +kernel) (by decide +kernel) (tkWd_in (i := 303) (by decide +kernel) rfl) (Nat.le_of_ble_eq_true rfl) (Nat.le_of_ble_eq_true rfl) ?_
  refine cg_arr (fs := (.null :: .null :: .null :: .null :: .null :: .null :: .int 0 :: .int 0 :: [])) (n := 320) (idx := 9) (ti := 0) (N := 12) (ty := .int) (fty := (.array .int)) (v := 12) (d := (.bipush 12, 2)) (atype := .int) (a0 := (12, .inl (fun _ => 0))) Y hl hA (by decide +kernel) (by decide +kernel) (by decide +kernel) (by decide +kernel) rfl (Or.inl rfl) rfl (tkWd_in (i := 165) (by decide +kernel) rfl) (fun _ => rfl) (by decide) (by decide) (by decide) (Nat.le_of_ble_eq_true rfl) (Nat.le_of_ble_eq_true rfl) (by decide +kernel) (by decide +kernel) rfl (by decide) (by decide +kernel) (fun _ => rfl) (fun _ => rfl) (Nat.le_of_ble_eq_true rfl) hP hD hS (fun q0 H locs hP hD hS => ?_)
  refine W.widen (k := 1) (n := 12) (Nat.le_of_ble_eq_true rfl) (Nat.le_of_ble_eq_true rfl) ?_
  refine W.eq (g2 := F0 m 12 ls []) rfl ?_
  refine cg_arr (fs := (.ref q0 :: .null :: .null :: .null :: .null :: .null :: .int 0 :: .int 0 :: [])) (n := 321) (idx := 15) (ti := 0) (N := 12) (ty := .int) (fty := (.array .int)) (v := 12) (d := (.bipush 12, 2)) (atype := .int) (a0 := (12, .inl (fun _ => 0))) Y hl hA (by decide +kernel) (by decide +kernel) (by decide +kernel) (by decide +kernel) rfl (Or.inl rfl) rfl (tkWd_in (i := 165) (by decide +kernel) rfl) (fun _ => rfl) (by decide) (by decide) (by decide) (Nat.le_of_ble_eq_true rfl) (Nat.le_of_ble_eq_true rfl) (by decide +kernel) (by decide +kernel) rfl (by decide) (by decide +kernel) (fun _ => rfl) (fun _ => rfl) (Nat.le_of_ble_eq_true rfl) hP hD hS (fun q1 H locs hP hD hS => ?_)
  refine W.widen (k := 2) (n := 24) (Nat.le_of_ble_eq_true rfl) (Nat.le_of_ble_eq_true rfl) ?_
  refine W.eq (g2 := F0 m 20 ls []) rfl ?_
  refine cg_arr (fs := (.ref q0 :: .ref q1 :: .null :: .null :: .null :: .null :: .int 0 :: .int 0 :: [])) (n := 322) (idx := 18) (ti := 0) (N := 12) (ty := .int) (fty := (.array .int)) (v := 12) (d := (.bipush 12, 2)) (atype := .int) (a0 := (12, .inl (fun _ => 0))) Y hl hA (by decide +kernel) (by decide +kernel) (by decide +kernel) (by decide +kernel) rfl (Or.inl rfl) rfl (tkWd_in (i := 165) (by decide +kernel) rfl) (fun _ => rfl) (by decide) (by decide) (by decide) (Nat.le_of_ble_eq_true rfl) (Nat.le_of_ble_eq_true rfl) (by decide +kernel) (by decide +kernel) rfl (by decide) (by decide +kernel) (fun _ => rfl) (fun _ => rfl) (Nat.le_of_ble_eq_true rfl) hP hD hS (fun q2 H locs hP hD hS => ?_)
  refine W.widen (k := 3) (n := 36) (Nat.le_of_ble_eq_true rfl) (Nat.le_of_ble_eq_true rfl) ?_
  refine W.eq (g2 := F0 m 28 ls []) rfl ?_
  refine cg_arr (fs := (.ref q0 :: .ref q1 :: .ref q2 :: .null :: .null :: .null :: .int 0 :: .int 0 :: [])) (n := 323) (idx := 21) (ti := 0) (N := 12) (ty := .int) (fty := (.array .int)) (v := 12) (d := (.bipush 12, 2)) (atype := .int) (a0 := (12, .inl (fun _ => 0))) Y hl hA (by decide +kernel) (by decide +kernel) (by decide +kernel) (by decide +kernel) rfl (Or.inl rfl) rfl (tkWd_in (i := 165) (by decide +kernel) rfl) (fun _ => rfl) (by decide) (by decide) (by decide) (Nat.le_of_ble_eq_true rfl) (Nat.le_of_ble_eq_true rfl) (by decide +kernel) (by decide +kernel) rfl (by decide) (by decide +kernel) (fun _ => rfl) (fun _ => rfl) (Nat.le_of_ble_eq_true rfl) hP hD hS (fun q3 H locs hP hD hS => ?_)
  refine W.widen (k := 4) (n := 48) (Nat.le_of_ble_eq_true rfl) (Nat.le_of_ble_eq_true rfl) ?_
  refine W.eq (g2 := F0 m 36 ls []) rfl ?_
  refine cg_arr (fs := (.ref q0 :: .ref q1 :: .ref q2 :: .ref q3 :: .null :: .null :: .int 0 :: .int 0 :: [])) (n := 324) (idx := 24) (ti := 0) (N := 12) (ty := .int) (fty := (.array .int)) (v := 12) (d := (.bipush 12, 2)) (atype := .int) (a0 := (12, .inl (fun _ => 0))) Y hl hA (by decide +kernel) (by decide +kernel) (by decide +kernel) (by decide +kernel) rfl (Or.inl rfl) rfl (tkWd_in (i := 165) (by decide +kernel) rfl) (fun _ => rfl) (by decide) (by decide) (by decide) (Nat.le_of_ble_eq_true rfl) (Nat.le_of_ble_eq_true rfl) (by decide +kernel) (by decide +kernel) rfl (by decide) (by decide +kernel) (fun _ => rfl) (fun _ => rfl) (Nat.le_of_ble_eq_true rfl) hP hD hS (fun q4 H locs hP hD hS => ?_)
  refine W.widen (k := 5) (n := 60) (Nat.le_of_ble_eq_true rfl) (Nat.le_of_ble_eq_true rfl) ?_
  refine W.eq (g2 := F0 m 44 ls []) rfl ?_
  refine cg_arr (fs := (.ref q0 :: .ref q1 :: .ref q2 :: .ref q3 :: .ref q4 :: .null :: .int 0 :: .int 0 :: [])) (n := 325) (idx := 27) (ti := 0) (N := 12) (ty := .int) (fty := (.array .int)) (v := 12) (d := (.bipush 12, 2)) (atype := .int) (a0 := (12, .inl (fun _ => 0))) Y hl hA (by decide +kernel) (by decide +kernel) (by decide +kernel) (by decide +kernel) rfl (Or.inl rfl) rfl (tkWd_in (i := 165) (by decide +kernel) rfl) (fun _ => rfl) (by decide) (by decide) (by decide) (Nat.le_of_ble_eq_true rfl) (Nat.le_of_ble_eq_true rfl) (by decide +kernel) (by decide +kernel) rfl (by decide) (by decide +kernel) (fun _ => rfl) (fun _ => rfl) (Nat.le_of_ble_eq_true rfl) hP hD hS (fun q5 H locs hP hD hS => ?_)
  refine W.widen (k := 6) (n := 72) (Nat.le_of_ble_eq_true rfl) (Nat.le_of_ble_eq_true rfl) ?_
  refine W.eq (g2 := F0 m 52 ls []) rfl ?_
  try simp only [List.append_assoc, List.cons_append, List.nil_append] at hP hD
  have hP : va_P D vwCl ((h0, .inr (5, fsX5 (fun k => [q0, q1, q2, q3, q4, q5].getD k 0))) :: (ws ++ nwX5 cy (fun k => [q0, q1, q2, q3, q4, q5].getD k 0))) H := hP
  have hD : va_D A ((h0, .inr (5, fsX5 (fun k => [q0, q1, q2, q3, q4, q5].getD k 0))) :: (ws ++ nwX5 cy (fun k => [q0, q1, q2, q3, q4, q5].getD k 0))) := hD
  refine W.widen (k := 6) (n := 72) (Nat.le_of_ble_eq_true rfl) (Nat.le_of_ble_eq_true rfl) ?_
  exact W.vret hx hb hr (fun t ht hW => ⟨⟨fun k => [q0, q1, q2, q3, q4, q5].getD k 0, rfl, trivial, by rw [ht]; exact hP, hD⟩, hS.F ht⟩) hS.2.2 (by decide +kernel)
def fsX6 (q : Nat → Nat) : List Value := .ref (q 0) :: .ref (q 1) :: .ref (q 2) :: .ref (q 3) :: .int 0 :: .int 0 :: .int 0 :: .int 0 :: []
def nwX6 (cy : Nat → ClassId) (q : Nat → Nat) : va_W := ((q 0), .inl (cy 0, (40, .inl (fun _ => 0)))) :: ((q 1), .inl (cy 0, (40, .inl (fun _ => 0)))) :: ((q 2), .inl (cy 0, (40, .inl (fun _ => 0)))) :: ((q 3), .inl (cy 0, (12, .inl (fun _ => 0)))) :: []
def f0X6 : List Value := .null :: .null :: .null :: .null :: .int 0 :: .int 0 :: .int 0 :: .int 0 :: []
set_option maxHeartbeats 1000000 in
set_option maxRecDepth 100000 in
theorem ct_6 (l : Launch) (D : va_G) (cy : Nat → ClassId) (h0 sz : Nat) (ws : va_W) : Met l (⟨tkCn 6, "<init>", "()V"⟩ : MethodName) (.code (⟨tkCn 6, "<init>", "()V"⟩ : MethodName) prog_8_method_1_code 1 none :: tkWd) { frames := 1, cells := 4, slots := 132, locals := 20 } (va_Pc [.ref h0] (fun U => U.heap.size = sz ∧ va_P D vwCl ((h0, .inr (6, f0X6)) :: ws) U.heap ∧ va_K D vwCl (tkTy cy) U ∧ va_D (fun _ => True) ((h0, .inr (6, f0X6)) :: ws) ∧ (∀ w ∈ tkNl, va_Nw w U) ∧ va_AO "TickerHouse$Machine" U)) (va_Qv (fun _ : Nat → Nat => True) (fun q t => va_P D vwCl ((h0, .inr (6, fsX6 q)) :: (ws ++ nwX6 cy q)) t.heap ∧ va_D (va_A ((h0, .inr (6, f0X6)) :: ws) sz) ((h0, .inr (6, fsX6 q)) :: (ws ++ nwX6 cy q))) (va_A ((h0, .inr (6, f0X6)) :: ws) sz)) 4 132 (va_A ((h0, .inr (6, f0X6)) :: ws) sz) := by
  refine Met.ofW (cc := prog_8_method_1_code) (maxL := 1) (ret := none) (by decide) rfl ?_
  intro p e s m args below meth c s₁ B hml hv
  obtain ⟨rfl, hsz, hP, hK, hD0, hnw⟩ := hv
  have hx := B.exec
  have hb := B.bytes
  have hr := B.returns
  have hts := atoms_spec (ws := .code (⟨tkCn 6, "<init>", "()V"⟩ : MethodName) prog_8_method_1_code 1 none :: tkWd) B.pre
  have hown : s.vm.findClass (tkCn 6) = some m.cls := findClass_of_methodNamed B.named
  have hin : meth.name = "<init>" := (name_of_methodNamed B.named B.method).1
  subst hsz
  have hD := hD0.self (sz := s.heap.size)
  generalize hAe : va_A ((h0, .inr (6, f0X6)) :: ws) s.heap.size = A at hD ⊢
  have hA : ∀ q : Nat, s.heap.size ≤ q → A q := fun q h => by rw [← hAe]; exact Or.inr h
  have hS : va_S A s.heap s.heap [] := va_S.rf
  have hl := lv_entry ([.ref h0]) (n := 1) (Nat.le_of_ble_eq_true rfl)
  rw [lg_entry_eq]
  generalize (lg_sl ([.ref h0]) ++ List.replicate (1 - (lg_sl ([.ref h0])).length) Slot.unset).toArray = ls at hl ⊢
  have hl : lv_has ls 1 [(0, .ref h0)] := hl
  have Y : tkY p s m [.ref h0].toArray meth c prog_8_method_1_code 1 6 D cy := ⟨hx, hb, hml, hown, fun w hw => hts w (List.mem_cons_of_mem _ hw), hK, hin, hnw⟩
  refine cg_obj (idx := 3) Y hl (by decide +kernel) (by decide +kernel) (tkWd_in (i := 265) (by decide +kernel) rfl) (Nat.le_of_ble_eq_true rfl) (Nat.le_of_ble_eq_true rfl) ?_
  refine cg_arr (fs := (.null :: .null :: .null :: .null :: .int 0 :: .int 0 :: .int 0 :: .int 0 :: [])) (n := 384) (idx := 9) (ti := 0) (N := 40) (ty := .int) (fty := (.array .int)) (v := 40) (d := (.bipush 40, 2)) (atype := .int) (a0 := (40, .inl (fun _ => 0))) Y hl hA (by decide +kernel) (by decide +kernel) (by decide +kernel) (by decide +kernel) rfl (Or.inl rfl) rfl (tkWd_in (i := 165) (by decide +kernel) rfl) (fun _ => rfl) (by decide) (by decide) (by decide) (Nat.le_of_ble_eq_true rfl) (Nat.le_of_ble_eq_true rfl) (by decide +kernel) (by decide +kernel) rfl (by decide) (by decide +kernel) (fun _ => rfl) (fun _ => rfl) (Nat.le_of_ble_eq_true rfl) hP hD hS (fun q0 H locs hP hD hS => ?_)
  refine W.widen (k := 1) (n := 40) (Nat.le_of_ble_eq_true rfl) (Nat.le_of_ble_eq_true rfl) ?_
  refine W.eq (g2 := F0 m 12 ls []) rfl ?_
  refine cg_arr (fs := (.ref q0 :: .null :: .null :: .null :: .int 0 :: .int 0 :: .int 0 :: .int 0 :: [])) (n := 385) (idx := 15) (ti := 0) (N := 40) (ty := .int) (fty := (.array .int)) (v := 40) (d := (.bipush 40, 2)) (atype := .int) (a0 := (40, .inl (fun _ => 0))) Y hl hA (by decide +kernel) (by decide +kernel) (by decide +kernel) (by decide +kernel) rfl (Or.inl rfl) rfl (tkWd_in (i := 165) (by decide +kernel) rfl) (fun _ => rfl) (by decide) (by decide) (by decide) (Nat.le_of_ble_eq_true rfl) (Nat.le_of_ble_eq_true rfl) (by decide +kernel) (by decide +kernel) rfl (by decide) (by decide +kernel) (fun _ => rfl) (fun _ => rfl) (Nat.le_of_ble_eq_true rfl) hP hD hS (fun q1 H locs hP hD hS => ?_)
  refine W.widen (k := 2) (n := 80) (Nat.le_of_ble_eq_true rfl) (Nat.le_of_ble_eq_true rfl) ?_
  refine W.eq (g2 := F0 m 20 ls []) rfl ?_
  refine cg_arr (fs := (.ref q0 :: .ref q1 :: .null :: .null :: .int 0 :: .int 0 :: .int 0 :: .int 0 :: [])) (n := 386) (idx := 18) (ti := 0) (N := 40) (ty := .int) (fty := (.array .int)) (v := 40) (d := (.bipush 40, 2)) (atype := .int) (a0 := (40, .inl (fun _ => 0))) Y hl hA (by decide +kernel) (by decide +kernel) (by decide +kernel) (by decide +kernel) rfl (Or.inl rfl) rfl (tkWd_in (i := 165) (by decide +kernel) rfl) (fun _ => rfl) (by decide) (by decide) (by decide) (Nat.le_of_ble_eq_true rfl) (Nat.le_of_ble_eq_true rfl) (by decide +kernel) (by decide +kernel) rfl (by decide) (by decide +kernel) (fun _ => rfl) (fun _ => rfl) (Nat.le_of_ble_eq_true rfl) hP hD hS (fun q2 H locs hP hD hS => ?_)
  refine W.widen (k := 3) (n := 120) (Nat.le_of_ble_eq_true rfl) (Nat.le_of_ble_eq_true rfl) ?_
  refine W.eq (g2 := F0 m 28 ls []) rfl ?_
  refine cg_arr (fs := (.ref q0 :: .ref q1 :: .ref q2 :: .null :: .int 0 :: .int 0 :: .int 0 :: .int 0 :: [])) (n := 387) (idx := 21) (ti := 0) (N := 12) (ty := .int) (fty := (.array .int)) (v := 12) (d := (.bipush 12, 2)) (atype := .int) (a0 := (12, .inl (fun _ => 0))) Y hl hA (by decide +kernel) (by decide +kernel) (by decide +kernel) (by decide +kernel) rfl (Or.inl rfl) rfl (tkWd_in (i := 165) (by decide +kernel) rfl) (fun _ => rfl) (by decide) (by decide) (by decide) (Nat.le_of_ble_eq_true rfl) (Nat.le_of_ble_eq_true rfl) (by decide +kernel) (by decide +kernel) rfl (by decide) (by decide +kernel) (fun _ => rfl) (fun _ => rfl) (Nat.le_of_ble_eq_true rfl) hP hD hS (fun q3 H locs hP hD hS => ?_)
  refine W.widen (k := 4) (n := 132) (Nat.le_of_ble_eq_true rfl) (Nat.le_of_ble_eq_true rfl) ?_
  refine W.eq (g2 := F0 m 36 ls []) rfl ?_
  try simp only [List.append_assoc, List.cons_append, List.nil_append] at hP hD
  have hP : va_P D vwCl ((h0, .inr (6, fsX6 (fun k => [q0, q1, q2, q3].getD k 0))) :: (ws ++ nwX6 cy (fun k => [q0, q1, q2, q3].getD k 0))) H := hP
  have hD : va_D A ((h0, .inr (6, fsX6 (fun k => [q0, q1, q2, q3].getD k 0))) :: (ws ++ nwX6 cy (fun k => [q0, q1, q2, q3].getD k 0))) := hD
  refine W.widen (k := 4) (n := 132) (Nat.le_of_ble_eq_true rfl) (Nat.le_of_ble_eq_true rfl) ?_
  exact W.vret hx hb hr (fun t ht hW => ⟨⟨fun k => [q0, q1, q2, q3].getD k 0, rfl, trivial, by rw [ht]; exact hP, hD⟩, hS.F ht⟩) hS.2.2 (by decide +kernel)
def fsX9 (q : Nat → Nat) : List Value := .ref (q 0) :: .ref (q 1) :: .ref (q 2) :: []
def nwX9 (cy : Nat → ClassId) (q : Nat → Nat) : va_W := ((q 0), .inl (cy 0, (12, .inl (fun _ => 0)))) :: ((q 1), .inl (cy 0, (12, .inl (fun _ => 0)))) :: ((q 2), .inl (cy 0, (12, .inl (fun _ => 0)))) :: []
def f0X9 : List Value := .null :: .null :: .null :: []
set_option maxHeartbeats 1000000 in
set_option maxRecDepth 100000 in
theorem ct_9 (l : Launch) (D : va_G) (cy : Nat → ClassId) (h0 sz : Nat) (ws : va_W) : Met l (⟨tkCn 9, "<init>", "()V"⟩ : MethodName) (.code (⟨tkCn 9, "<init>", "()V"⟩ : MethodName) prog_11_method_1_code 1 none :: tkWd) { frames := 1, cells := 3, slots := 36, locals := 20 } (va_Pc [.ref h0] (fun U => U.heap.size = sz ∧ va_P D vwCl ((h0, .inr (9, f0X9)) :: ws) U.heap ∧ va_K D vwCl (tkTy cy) U ∧ va_D (fun _ => True) ((h0, .inr (9, f0X9)) :: ws) ∧ (∀ w ∈ tkNl, va_Nw w U) ∧ va_AO "TickerHouse$Machine" U)) (va_Qv (fun _ : Nat → Nat => True) (fun q t => va_P D vwCl ((h0, .inr (9, fsX9 q)) :: (ws ++ nwX9 cy q)) t.heap ∧ va_D (va_A ((h0, .inr (9, f0X9)) :: ws) sz) ((h0, .inr (9, fsX9 q)) :: (ws ++ nwX9 cy q))) (va_A ((h0, .inr (9, f0X9)) :: ws) sz)) 3 36 (va_A ((h0, .inr (9, f0X9)) :: ws) sz) := by
  refine Met.ofW (cc := prog_11_method_1_code) (maxL := 1) (ret := none) (by decide) rfl ?_
  intro p e s m args below meth c s₁ B hml hv
  obtain ⟨rfl, hsz, hP, hK, hD0, hnw⟩ := hv
  have hx := B.exec
  have hb := B.bytes
  have hr := B.returns
  have hts := atoms_spec (ws := .code (⟨tkCn 9, "<init>", "()V"⟩ : MethodName) prog_11_method_1_code 1 none :: tkWd) B.pre
  have hown : s.vm.findClass (tkCn 9) = some m.cls := findClass_of_methodNamed B.named
  have hin : meth.name = "<init>" := (name_of_methodNamed B.named B.method).1
  subst hsz
  have hD := hD0.self (sz := s.heap.size)
  generalize hAe : va_A ((h0, .inr (9, f0X9)) :: ws) s.heap.size = A at hD ⊢
  have hA : ∀ q : Nat, s.heap.size ≤ q → A q := fun q h => by rw [← hAe]; exact Or.inr h
  have hS : va_S A s.heap s.heap [] := va_S.rf
  have hl := lv_entry ([.ref h0]) (n := 1) (Nat.le_of_ble_eq_true rfl)
  rw [lg_entry_eq]
  generalize (lg_sl ([.ref h0]) ++ List.replicate (1 - (lg_sl ([.ref h0])).length) Slot.unset).toArray = ls at hl ⊢
  have hl : lv_has ls 1 [(0, .ref h0)] := hl
  have Y : tkY p s m [.ref h0].toArray meth c prog_11_method_1_code 1 9 D cy := ⟨hx, hb, hml, hown, fun w hw => hts w (List.mem_cons_of_mem _ hw), hK, hin, hnw⟩
  refine cg_obj (idx := 3) Y hl (by decide +kernel) (by decide +kernel) (tkWd_in (i := 385) (by decide +kernel) rfl) (Nat.le_of_ble_eq_true rfl) (Nat.le_of_ble_eq_true rfl) ?_
  refine cg_arr (fs := (.null :: .null :: .null :: [])) (n := 576) (idx := 9) (ti := 0) (N := 12) (ty := .int) (fty := (.array .int)) (v := 12) (d := (.bipush 12, 2)) (atype := .int) (a0 := (12, .inl (fun _ => 0))) Y hl hA (by decide +kernel) (by decide +kernel) (by decide +kernel) (by decide +kernel) rfl (Or.inl rfl) rfl (tkWd_in (i := 165) (by decide +kernel) rfl) (fun _ => rfl) (by decide) (by decide) (by decide) (Nat.le_of_ble_eq_true rfl) (Nat.le_of_ble_eq_true rfl) (by decide +kernel) (by decide +kernel) rfl (by decide) (by decide +kernel) (fun _ => rfl) (fun _ => rfl) (Nat.le_of_ble_eq_true rfl) hP hD hS (fun q0 H locs hP hD hS => ?_)
  refine W.widen (k := 1) (n := 12) (Nat.le_of_ble_eq_true rfl) (Nat.le_of_ble_eq_true rfl) ?_
  refine W.eq (g2 := F0 m 12 ls []) rfl ?_
  refine cg_arr (fs := (.ref q0 :: .null :: .null :: [])) (n := 577) (idx := 15) (ti := 0) (N := 12) (ty := .int) (fty := (.array .int)) (v := 12) (d := (.bipush 12, 2)) (atype := .int) (a0 := (12, .inl (fun _ => 0))) Y hl hA (by decide +kernel) (by decide +kernel) (by decide +kernel) (by decide +kernel) rfl (Or.inl rfl) rfl (tkWd_in (i := 165) (by decide +kernel) rfl) (fun _ => rfl) (by decide) (by decide) (by decide) (Nat.le_of_ble_eq_true rfl) (Nat.le_of_ble_eq_true rfl) (by decide +kernel) (by decide +kernel) rfl (by decide) (by decide +kernel) (fun _ => rfl) (fun _ => rfl) (Nat.le_of_ble_eq_true rfl) hP hD hS (fun q1 H locs hP hD hS => ?_)
  refine W.widen (k := 2) (n := 24) (Nat.le_of_ble_eq_true rfl) (Nat.le_of_ble_eq_true rfl) ?_
  refine W.eq (g2 := F0 m 20 ls []) rfl ?_
  refine cg_arr (fs := (.ref q0 :: .ref q1 :: .null :: [])) (n := 578) (idx := 18) (ti := 0) (N := 12) (ty := .int) (fty := (.array .int)) (v := 12) (d := (.bipush 12, 2)) (atype := .int) (a0 := (12, .inl (fun _ => 0))) Y hl hA (by decide +kernel) (by decide +kernel) (by decide +kernel) (by decide +kernel) rfl (Or.inl rfl) rfl (tkWd_in (i := 165) (by decide +kernel) rfl) (fun _ => rfl) (by decide) (by decide) (by decide) (Nat.le_of_ble_eq_true rfl) (Nat.le_of_ble_eq_true rfl) (by decide +kernel) (by decide +kernel) rfl (by decide) (by decide +kernel) (fun _ => rfl) (fun _ => rfl) (Nat.le_of_ble_eq_true rfl) hP hD hS (fun q2 H locs hP hD hS => ?_)
  refine W.widen (k := 3) (n := 36) (Nat.le_of_ble_eq_true rfl) (Nat.le_of_ble_eq_true rfl) ?_
  refine W.eq (g2 := F0 m 28 ls []) rfl ?_
  try simp only [List.append_assoc, List.cons_append, List.nil_append] at hP hD
  have hP : va_P D vwCl ((h0, .inr (9, fsX9 (fun k => [q0, q1, q2].getD k 0))) :: (ws ++ nwX9 cy (fun k => [q0, q1, q2].getD k 0))) H := hP
  have hD : va_D A ((h0, .inr (9, fsX9 (fun k => [q0, q1, q2].getD k 0))) :: (ws ++ nwX9 cy (fun k => [q0, q1, q2].getD k 0))) := hD
  refine W.widen (k := 3) (n := 36) (Nat.le_of_ble_eq_true rfl) (Nat.le_of_ble_eq_true rfl) ?_
  exact W.vret hx hb hr (fun t ht hW => ⟨⟨fun k => [q0, q1, q2].getD k 0, rfl, trivial, by rw [ht]; exact hP, hD⟩, hS.F ht⟩) hS.2.2 (by decide +kernel)
