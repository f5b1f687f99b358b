/-! the law, from its entry -/
set_option maxHeartbeats 4000000 in
set_option maxRecDepth 100000 in
/-- THE LAW, from its entry: the constructors, then the loop -/
theorem whole_start {p : Program} {e : Env} {s : State} {m : MethodId} {below : List Frame} {meth : Method} {c : Code} (l : Launch) {b L : Nat} {xs : Nat → Int32} (hL : L ≤ 3072) (C0 : lw_At p s m meth c b L xs) : W p l e room_1 s m #[Value.ref b] below meth c s.heap [] 0 0 (lw_Z below #[Value.ref b] s) (entryFrame m ([Value.ref b] : List Value).toArray 4) := by
  obtain ⟨hx, hb, hr, hml, hown, hts, hX, hbl, hlocks, hgv⟩ := id C0
  have hA : ∀ q : Nat, s.heap.size ≤ q → (fun q : Nat => s.heap.size ≤ q) q := fun _ h => h
  obtain ⟨D, cy, hK⟩ := lw_K hts
  have htw : ∀ w ∈ tkWd, w.before #[Value.ref b] s = true := fun w hw => hts w (List.mem_filter.mp hw).1
  have hts' : ∀ w ∈ (Cond.tt :: tkWd), w.before #[Value.ref b] s = true := fun w hw => by
    rcases List.mem_cons.mp hw with rfl | hw
    · rfl
    · exact htw w hw
  have hnw : ∀ w ∈ tkNl, va_Nw w s := fun w hw => by
    obtain ⟨a1, k1, y1, b1, rfl⟩ := tkNl_is hw
    exact va_Nw.of rfl (hts _ (List.mem_filter.mp hw).1)
  have hao : va_AO "TickerHouse$Machine" s := hts (.arrayOver (.object "TickerHouse$Machine")) (List.mem_of_getElem? (i := 166) (by decide +kernel))
  have hpre : ∀ (U : State) (q cj : Nat) (fs0 : List Value) (W1 : va_W) (H : Heap), va_P D vwCl ((q, .inr (cj, fs0)) :: W1) H → va_D (fun q : Nat => s.heap.size ≤ q) ((q, .inr (cj, fs0)) :: W1) → U.heap = H → s.WarmedH U.vm → ctPc D cy [] q H.size cj fs0 W1 ([Value.ref q] : List Value).toArray U := fun U q cj fs0 W1 H hP hD hU hW => ⟨rfl, by rw [hU], by rw [hU]; exact hP, va_K.moved hW.alike hK, hD.up (fun _ _ => trivial), fun w hw => by
    obtain ⟨a1, k1, y1, b1, rfl⟩ := tkNl_is hw
    exact va_Nw.warmM hW (hnw _ hw), va_AO.moved hW.alike hao⟩
  have hS : va_S (fun q : Nat => s.heap.size ≤ q) s.heap s.heap [] := va_S.rf
  have hP : va_P D vwCl [] s.heap := fun k q h => by simp at h
  have hD : va_D (fun q : Nat => s.heap.size ≤ q) [] := ⟨fun i j p q h => by simp at h, fun k q h => by simp at h⟩
  have hl := lv_entry ([.ref b]) (n := 4) (Nat.le_of_ble_eq_true rfl)
  rw [lg_entry_eq]
  generalize (lg_sl ([.ref b]) ++ List.replicate (4 - (lg_sl ([.ref b])).length) Slot.unset).toArray = ls at hl ⊢
  have hl : lv_has ls 4 [(0, .ref b)] := hl
  refine va_new (ci := 10) (fs := f0X10) (C := RX10) (T := TX10) (N := 11) hx hb hts tkIn10 tyX10 tyX10_ok hown (hts (.classLink R_law 7 RX10) (List.mem_of_getElem? (i := 99) (by decide +kernel))) (hts (.instantiable RX10 11) (List.mem_of_getElem? (i := 100) (by decide +kernel))) (hts (.initialized RX10) (List.mem_of_getElem? (i := 83) (by decide +kernel))) hK hP hD hS hA rfl (by decide +kernel) (Nat.le_of_ble_eq_true rfl) (Nat.le_of_ble_eq_true rfl) (show decode code 0 = .ok (.new 7, 3) by decide +kernel) (fun h0 H hP hD hS => ?_)
  have hP : va_P D vwCl ((h0, .inr (10, f0X10)) :: []) H := hP
  have hD : va_D (fun q : Nat => s.heap.size ≤ q) ((h0, .inr (10, f0X10)) :: []) := hD
  refine W.widen (k := 1) (n := 11) (by omega) (by omega) ?_
  refine lv_dup hx hb (show decode code 3 = .ok (.dup, 1) by decide +kernel) rfl ?_
  have hF := cg_free hD hS hA
  refine va_callv (va_runI (As := []) (rest := [.ref h0]) ⟨hx, hb, hml, hown, hts'⟩ (ct_10 l D cy h0 H.size []) (cwI (index := 9) 0 hts' (tkGood (List.mem_of_getElem? (i := 103) (by decide +kernel)) rfl) rfl rfl rfl (htw _ (tkWd_in (i := 83) (by decide +kernel) rfl)) (htw _ (tkWd_in (i := 101) (by decide +kernel) rfl)) (htw _ (tkWd_in (i := 102) (by decide +kernel) rfl)) rfl (by decide +kernel) ⟨Nat.le_of_ble_eq_true rfl, Nat.le_of_ble_eq_true rfl⟩) ⟨ctPc_blind D cy [] h0 H.size 10 f0X10 [], fun U hU hW => hpre U h0 10 f0X10 [] H hP hD hU hW⟩ rfl rfl hl.1 rfl (Nat.le_of_ble_eq_true rfl) (show decode code 4 = .ok (.invokespecial 9, 3) by decide +kernel) ⟨Nat.le_of_ble_eq_true rfl, Nat.le_of_ble_eq_true rfl⟩) hS (fun q _ h => hF q h) hF (fun q t H1 locs ht hvm hw hB hz1 hk1 hS => ?_)
  obtain ⟨b1, b2⟩ := hB
  rw [ht] at b1
  have hD := b2.up hF
  have hP := b1
  generalize H1 = H at hP hS ⊢
  refine W.widen (k := 86) (n := 24115) (Nat.le_of_ble_eq_true rfl) (Nat.le_of_ble_eq_true rfl) ?_
  refine lv_astore_n (lv' := [(1, .ref h0), (0, .ref b)]) hx hb (show decode code 7 = .ok (.astore_n 1, 1) by decide +kernel) rfl hl (by decide) rfl (fun ls hl => ?_)
  refine va_new (ci := 11) (fs := f0X11) (C := RX11) (T := TX11) (N := 61) hx hb hts tkIn11 tyX11 tyX11_ok hown (hts (.classLink R_law 10 RX11) (List.mem_of_getElem? (i := 1144) (by decide +kernel))) (hts (.instantiable RX11 61) (List.mem_of_getElem? (i := 1145) (by decide +kernel))) (hts (.initialized RX11) (List.mem_of_getElem? (i := 96) (by decide +kernel))) hK hP hD hS hA rfl (by decide +kernel) (Nat.le_of_ble_eq_true rfl) (Nat.le_of_ble_eq_true rfl) (show decode code 8 = .ok (.new 10, 3) by decide +kernel) (fun h1 H hP hD hS => ?_)
  have hP := hP.perm (List.perm_append_singleton _ _).symm
  have hD := hD.perm (List.perm_append_singleton _ _).symm
  refine W.widen (k := 87) (n := 24176) (Nat.le_of_ble_eq_true rfl) (Nat.le_of_ble_eq_true rfl) ?_
  refine lv_dup hx hb (show decode code 11 = .ok (.dup, 1) by decide +kernel) rfl ?_
  have hF := cg_free hD hS hA
  refine va_callv (va_runI (As := []) (rest := [.ref h1]) ⟨hx, hb, hml, hown, hts'⟩ (ct_11 l D cy h1 H.size ((h0, .inr (10, fsX10 q)) :: ([] ++ nwX10 cy q))) (cwI (index := 12) 0 hts' (tkGood (List.mem_of_getElem? (i := 1148) (by decide +kernel)) rfl) rfl rfl rfl (htw _ (tkWd_in (i := 96) (by decide +kernel) rfl)) (htw _ (tkWd_in (i := 1146) (by decide +kernel) rfl)) (htw _ (tkWd_in (i := 1147) (by decide +kernel) rfl)) rfl (by decide +kernel) ⟨Nat.le_of_ble_eq_true rfl, Nat.le_of_ble_eq_true rfl⟩) ⟨ctPc_blind D cy [] h1 H.size 11 f0X11 ((h0, .inr (10, fsX10 q)) :: ([] ++ nwX10 cy q)), fun U hU hW => hpre U h1 11 f0X11 ((h0, .inr (10, fsX10 q)) :: ([] ++ nwX10 cy q)) H hP hD hU hW⟩ rfl rfl hl.1 rfl (Nat.le_of_ble_eq_true rfl) (show decode code 12 = .ok (.invokespecial 12, 3) by decide +kernel) ⟨Nat.le_of_ble_eq_true rfl, Nat.le_of_ble_eq_true rfl⟩) hS (fun q _ h => hF q h) hF (fun r t H1 locs ht hvm hw hB hz1 hk1 hS => ?_)
  obtain ⟨b1, b2⟩ := hB
  rw [ht] at b1
  have hD : va_D (fun q : Nat => s.heap.size ≤ q) (wtL cy h0 h1 q r) := b2.up hF
  have hP : va_P D vwCl (wtL cy h0 h1 q r) H1 := b1
  generalize H1 = H at hP hS ⊢
  refine W.widen (k := 128) (n := 725067) (Nat.le_of_ble_eq_true rfl) (Nat.le_of_ble_eq_true rfl) ?_
  refine lv_astore_n (lv' := [(2, .ref h1), (1, .ref h0), (0, .ref b)]) hx hb (show decode code 15 = .ok (.astore_n 2, 1) by decide +kernel) rfl hl (by decide) rfl (fun ls hl => ?_)
  obtain ⟨j1, j2⟩ := wt_inj (b := b) hD
  have a1000 : ads0 b h0 h1 q r 1000 = b := rfl
  have a0 : ads0 b h0 h1 q r 0 = h0 := rfl
  have a13 : ads0 b h0 h1 q r 13 = h1 := rfl
  refine law_16 (D := D) (cy := cy) (ads := ads0 b h0 h1 q r) (h := (I0, J0)) hL C0 hK j1 a1000 j2 (wt_P hP) hS init_Inv (Nat.le_of_ble_eq_true rfl) (Nat.le_of_ble_eq_true rfl) ⟨hl.1, hl.2.1, rfl, fun i hi => ?_⟩
  match i with
  | 0 => exact lv_at hl 2 rfl
  | 1 => exact lv_at hl 1 rfl
  | 2 => exact lv_at hl 0 rfl
  | 3 => exact absurd rfl hi
  | i + 4 => exact absurd rfl hi
