/-! the classes, as the tables have them -/
theorem lw_K {s : State} {args : Array Value} (hts : ∀ w ∈ lw_tbl, w.before args s = true) : ∃ (D : va_G) (cy : Nat → ClassId), va_K D vwCl (tkTy cy) s := by
  have ex : ∀ (k : Nat) (q : vw_C), vwCl[k]? = some q → ∃ (cC : ClassId) (iS : Nat → Nat), u_Kn s q.1 q.2.1 q.2.2 cC iS := by
    intro k q hq
    match k, hq with
    | 0, hq => cases hq; exact u_known (n := 3) hts tkIn0 (hts (.instantiable RX0 3) (List.mem_of_getElem? (i := 237) (by decide +kernel)))
    | 1, hq => cases hq; exact u_known (n := 4) hts tkIn1 (hts (.instantiable RX1 4) (List.mem_of_getElem? (i := 406) (by decide +kernel)))
    | 2, hq => cases hq; exact u_known (n := 12) hts tkIn2 (hts (.instantiable RX2 12) (List.mem_of_getElem? (i := 108) (by decide +kernel)))
    | 3, hq => cases hq; exact u_known (n := 11) hts tkIn3 (hts (.instantiable RX3 11) (List.mem_of_getElem? (i := 114) (by decide +kernel)))
    | 4, hq => cases hq; exact u_known (n := 10) hts tkIn4 (hts (.instantiable RX4 10) (List.mem_of_getElem? (i := 340) (by decide +kernel)))
    | 5, hq => cases hq; exact u_known (n := 8) hts tkIn5 (hts (.instantiable RX5 8) (List.mem_of_getElem? (i := 299) (by decide +kernel)))
    | 6, hq => cases hq; exact u_known (n := 8) hts tkIn6 (hts (.instantiable RX6 8) (List.mem_of_getElem? (i := 261) (by decide +kernel)))
    | 7, hq => cases hq; exact u_known (n := 11) hts tkIn7 (hts (.instantiable RX7 11) (List.mem_of_getElem? (i := 398) (by decide +kernel)))
    | 8, hq => cases hq; exact u_known (n := 3) hts tkIn8 (hts (.instantiable RX8 3) (List.mem_of_getElem? (i := 213) (by decide +kernel)))
    | 9, hq => cases hq; exact u_known (n := 3) hts tkIn9 (hts (.instantiable RX9 3) (List.mem_of_getElem? (i := 381) (by decide +kernel)))
    | 10, hq => cases hq; exact u_known (n := 11) hts tkIn10 (hts (.instantiable RX10 11) (List.mem_of_getElem? (i := 100) (by decide +kernel)))
    | 11, hq => cases hq; exact u_known (n := 61) hts tkIn11 (hts (.instantiable RX11 61) (List.mem_of_getElem? (i := 1145) (by decide +kernel)))
    | k + 12, hq => exact absurd (List.getElem?_eq_some_iff.mp hq).1 (by simp)
  obtain ⟨c0, k0, p0, a1, a2, a3⟩ := Cond.arrayClass_spec (hts (.arrayClass .int) (List.mem_of_getElem? (i := 165) (by decide +kernel)))
  obtain ⟨c1, k1, p1, b1, b2, b3⟩ := Cond.arrayClass_spec (hts (.arrayClass .boolean) (List.mem_of_getElem? (i := 1335) (by decide +kernel)))
  obtain ⟨c2, k2, p2, d1, d2, d3⟩ := Cond.arrayClass_spec (hts (.arrayClass .long) (List.mem_of_getElem? (i := 424) (by decide +kernel)))
  obtain ⟨p3, c3, k3, e1, e2, e3, e4, e5⟩ := Cond.arrayOver_spec (hts (.arrayOver (.object "TickerHouse$Machine")) (List.mem_of_getElem? (i := 166) (by decide +kernel)))
  have ex2 : ∀ k : Nat, ∃ x : ClassId × (Nat → Nat), ∀ q : vw_C, vwCl[k]? = some q → u_Kn s q.1 q.2.1 q.2.2 x.1 x.2 := by
    intro k
    cases hq : vwCl[k]? with
    | none => exact ⟨(0, fun _ => 0), fun q h => by cases h⟩
    | some q =>
      obtain ⟨cC, iS, h⟩ := ex k q hq
      exact ⟨(cC, iS), fun q' h' => by cases h'; exact h⟩
  obtain ⟨F, hF⟩ := Classical.axiomOfChoice ex2
  refine ⟨(fun k => (F k).1, fun k => (F k).2), fun k => if k = 0 then c0 else if k = 1 then c1 else if k = 2 then c2 else c3, fun k q hq => hF k q hq, fun k q hk => ?_⟩
  match k, hk with
  | 0, hk => cases hk; exact ⟨fun n z => ⟨fun k h => (by cases h), k0, a2, p0, a3⟩, a1⟩
  | 1, hk => cases hk; exact ⟨fun n z => ⟨fun k h => (by cases h), k1, b2, p1, b3⟩, b1⟩
  | 2, hk => cases hk; exact ⟨fun n z => ⟨fun k h => (by cases h), k2, d2, p2, d3⟩, d1⟩
  | 3, hk => cases hk; exact ⟨fun n z => ⟨fun k h => (by cases h), k3, e3, p3, e4⟩, k3, p3, e3, e4, e1, e5⟩
  | k + 4, hk => exact absurd (List.getElem?_eq_some_iff.mp hk).1 (by simp [tkTy])
