/-! all that holds between calls -/
def Inv (K : Nat) (I : Nat → Nat → Int32) (J : Nat → Nat → Int64) : Prop := InvL I ∧ InvR I ∧ InvS I ∧ InvF I ∧ InvQ I ∧ InvP K I ∧ InvX (41 * K) I J
theorem opOK.imp {cm mm : Nat} {a : List Value} {h : tkH} {R R' : tkH → Prop} (H : opOK cm mm a h R) (hR : ∀ h', R h' → R' h') : opOK cm mm a h R' := by
  unfold opOK at *
  refine tkM_mono tkT 9 _ _ _ _ _ (fun v h' => ?_) H
  rintro ⟨x, e, H⟩
  refine ⟨x, e, tkM_mono tkT 9 _ _ _ _ _ (fun v' h'' => ?_) H⟩
  rintro ⟨e', r⟩
  exact ⟨e', hR _ r⟩
theorem InvS.kept {I I' : Nat → Nat → Int32} (h : InvS I) (h0 : I' 0 10 = I 0 10) (h25 : I' 13 25 = I 13 25) : InvS I' := by
  obtain ⟨b, h1, h2, h3⟩ := h
  exact ⟨b, h1, by rw [h0]; exact h2, by rw [h25]; exact h3⟩
theorem Inv.mono {K : Nat} {I : Nat → Nat → Int32} {J : Nat → Nat → Int64} (h : Inv K I J) : Inv (K + 1) I J := by
  obtain ⟨a, b, c, d, e, f, g⟩ := h
  exact ⟨a, b, c, d, e, f.mono (by omega), g.mono (by omega)⟩
theorem kM_of {I I' : Nat → Nat → Int32} (h1 : ∀ c, 87 ≤ c → c ≤ 100 → I' c = I c) (h2 : ∀ j, j < 19 → I' 13 j = I 13 j) : kM I I' := ⟨⟨h2 0 (by decide), h2 6 (by decide), h2 7 (by decide), h2 8 (by decide), h2 9 (by decide)⟩, fun c a b => h1 c a (by omega), by rw [h1 94 (by decide) (by decide)], fun c a b j _ => by rw [h1 c (by omega) (by omega)], fun j _ => by rw [h1 100 (by decide) (by decide)]⟩
theorem InvX.row {K : Nat} {I I' : Nat → Nat → Int32} {J : Nat → Nat → Int64} (h : InvX K I J) (hK : K < 2 ^ 28) (hc : chR I I') (h5 : I' 5 2 = I 5 2) (h17 : I' 17 = I 17) (h10 : I' 10 = I 10) (h11 : I' 11 = I 11) (h12 : I' 12 = I 12) (h16 : I' 16 = I 16) (h86 : I' 86 = I 86) (h60 : I' 13 60 = I 13 60) (h58 : I' 13 58 = I 13 58) (h127 : I' 127 = I 127) (h123 : I' 123 = I 123) (h124 : I' 124 = I 124) : InvX (K + 41) I' J := by
  have e1 : nF I' = nF I := by unfold nF; rw [h5]
  have e2 : FX I' = FX I := by funext j; unfold FX; rw [e1, h17]
  obtain ⟨⟨ch, a1, b1, c1⟩, a2, a3, a4, a5, a6, a7⟩ := h
  obtain ⟨⟨t, t1, t2, t3⟩, alt⟩ := hc
  have t2' : I' 3 2 = nI (ch + t) := by rw [t2, b1]; simp (disch := omega) only [false_implies, Nat.reduceLT, Nat.lt_irrefl, nI_eq', nI_le', nI_lt', nI_add, nI_sub, nI_clamp, vp_in_eq, nI_mI, mI_nI, mI_eq, nI_lt_mI, mI_lt_nI, pk_mul, pk_div, ire_n, nI_m1, b_0, b_1, up2_app, na1, na2, Nat.reduceAdd, Nat.reduceSub, Nat.reduceMul, Nat.reduceDiv, Nat.reduceMod, Nat.reduceLeDiff, Nat.reduceEqDiff, not_true_eq_false, not_false_eq_true, true_and, and_true, false_and, and_false, or_true, true_or, or_false, false_or, if_true, if_false, ite_true, ite_false, reduceIte]
  have g5 : I 11 2 = nI (nF I) → ∃ q N, gOK (nF I) (FX I) q N I' J := fun z => by
    obtain ⟨q, N, g⟩ := a5 z
    exact ⟨q, N, g.kept h86 (by rw [h11]) rfl⟩
  have g7 : flg I' := fun x hx => by rw [h123, h124]; exact a7 x hx
  have g9 : I 10 9 = mI 1 ∨ ∃ a, a ≤ ch + t ∧ I 10 9 = nI a := c1.imp id (fun ⟨a, x1, x2⟩ => ⟨a, by omega, x2⟩)
  unfold InvX
  rw [e1, e2, h10, h11, t2']
  refine ⟨⟨ch + t, by omega, rfl, g9⟩, a2, fun z1 z2 => ?_, a4, g5, ?_, g7⟩
  · by_cases t0 : t = 0
    · obtain ⟨y1, y2⟩ := t3 t0
      have e3 : mR I' = mR I := by unfold mR; rw [y1]
      have e4 : sI I' = sI I := by funext j; unfold sI; rw [e3, y2]
      rw [e3, e4]
      refine (a3 (by rw [b1, ← z1, t0]; rfl) z2).kept (by rw [h10]) (by rw [h12]) h16
    · exfalso
      rcases c1 with c1 | ⟨a, x1, x2⟩
      · rw [c1, nI_mI (by omega) (by omega) (by omega)] at z1
        exact z1
      · rw [x2, nI_eq' (by omega) (by omega)] at z1
        omega
  · rcases alt with ⟨y1, _, _, y4, y5⟩ | y
    · have e3 : mR I' = mR I := by unfold mR; rw [y4]
      have e4 : sI I' = sI I := by funext j; unfold sI; rw [e3, y5]
      rw [e3, e4, y1]
      exact a6.imp id (fun ⟨w1, w2⟩ => ⟨w1, w2.kept h60 h58 h127⟩)
    · exact Or.inl y
theorem InvX.firm {K : Nat} {I I' : Nat → Nat → Int32} {J : Nat → Nat → Int64} (h : InvX K I J) (hF : onlyF I I') : InvX K I' J := by
  rcases hF with rfl | ⟨o1, o2, o3, o4, n, n1, n2, n3, n4⟩
  · exact h
  · obtain ⟨⟨ch, a1, b1, c1⟩, a2, a3, a4, a5, a6, a7⟩ := h
    have e0 : nF I = n := by unfold nF; rw [n2, nI_clamp (by omega)]
    have e1 : nF I' = n + 1 := by unfold nF; rw [n3, nI_clamp (by omega)]
    have y3 : I' 3 = I 3 := by apply o1 <;> decide
    have y10 : I' 10 = I 10 := by apply o1 <;> decide
    have y11 : I' 11 = I 11 := by apply o1 <;> decide
    rw [e0] at a2 a4
    have no : ∀ x : Int32, (x = mI 1 ∨ ∃ a, a ≤ n ∧ x = nI a) → ¬ x = nI (n + 1) := fun x hx z => by
      rcases hx with hx | ⟨a, h1, h2⟩
      · rw [hx, mI_nI (by omega) (by omega) (by omega)] at z; exact z
      · rw [h2, nI_eq' (by omega) (by omega)] at z; omega
    unfold InvX
    rw [e1, y3, y10, y11]
    exact ⟨⟨ch, a1, b1, c1⟩, a2.imp id (fun ⟨a, x1, x2⟩ => ⟨a, by omega, x2⟩), fun _ z => absurd z.symm (no _ a2), a4.imp id (fun ⟨a, x1, x2⟩ => ⟨a, by omega, x2⟩), fun z => absurd z (no _ a4), Or.inl o4, fun x hx => by
      have y123 : I' 123 = I 123 := by apply o1 <;> decide
      have y124 : I' 124 = I 124 := by apply o1 <;> decide
      rw [y123, y124]; exact a7 x hx⟩
theorem Inv.L {K : Nat} {I I' : Nat → Nat → Int32} {J : Nat → Nat → Int64} (h : Inv K I J) (hK : K < 2 ^ 19) (o : onlyL I I') (hL : InvL I') : Inv (K + 1) I' J := by
  obtain ⟨a, b, c, d, e, f, g⟩ := h.mono
  exact ⟨hL,
    b.kept (by rw [show I' 3 = I 3 by apply o.1 <;> decide]) (by apply o.1 <;> decide) (by apply o.2 <;> decide) (by apply o.1 <;> decide),
    c.kept (by rw [show I' 0 = I 0 by apply o.1 <;> decide]) (by apply o.2 <;> decide),
    d.kept (by apply o.1 <;> decide) (by apply o.1 <;> decide) (by apply o.1 <;> decide) (by apply o.2 <;> decide) (by apply o.1 <;> decide) (by apply o.1 <;> decide) (by apply o.1 <;> decide),
    e.kept (by rw [show I' 5 = I 5 by apply o.1 <;> decide]) (by apply o.1 <;> decide) (by rw [show I' 7 = I 7 by apply o.1 <;> decide]) (fun c h1 h2 => by apply o.1 <;> omega) (by apply o.2 <;> decide) (fun c h1 h2 => by apply o.1 <;> omega),
    f.kept (by apply o.1 <;> decide) (by apply o.1 <;> decide) (by apply o.1 <;> decide) (fun c h1 h2 => by apply o.1 <;> omega),
    g.kept (by apply o.1 <;> decide) (by apply o.1 <;> decide) (by rw [show I' 5 = I 5 by apply o.1 <;> decide]) (by apply o.1 <;> decide) (by apply o.1 <;> decide) (by apply o.1 <;> decide) (by apply o.1 <;> decide) (by apply o.1 <;> decide) (by apply o.1 <;> decide) (by apply o.2 <;> decide) (by apply o.2 <;> decide) (by apply o.2 <;> decide) (by apply o.1 <;> decide) (by apply o.1 <;> decide) (by apply o.1 <;> decide) rfl⟩
theorem Inv.R {K : Nat} {I I' : Nat → Nat → Int32} {J : Nat → Nat → Int64} (h : Inv K I J) (hK : K < 2 ^ 19) (o : onlyR I I') (hR : InvR I') : Inv (K + 1) I' J := by
  obtain ⟨a, b, c, d, e, f, g⟩ := h
  exact ⟨a.kept (fun c h1 => by apply o.1 <;> omega) (kM_of (fun c h1 h2 => by apply o.1 <;> omega) (fun j h1 => by apply o.2.1 <;> omega)),
    hR,
    c.kept (by rw [show I' 0 = I 0 by apply o.1 <;> decide]) (by apply o.2.1 <;> decide),
    d.kept (by apply o.1 <;> decide) (by apply o.1 <;> decide) (by apply o.1 <;> decide) (by apply o.2.1 <;> decide) (by apply o.1 <;> decide) (by apply o.1 <;> decide) (by apply o.1 <;> decide),
    e.kept (by rw [show I' 5 = I 5 by apply o.1 <;> decide]) (by apply o.1 <;> decide) (by rw [show I' 7 = I 7 by apply o.1 <;> decide]) (fun c h1 h2 => by apply o.1 <;> omega) (by apply o.2.1 <;> decide) (fun c h1 h2 => by apply o.1 <;> omega),
    (f.kept (by apply o.1 <;> decide) (by apply o.1 <;> decide) (by apply o.1 <;> decide) (fun c h1 h2 => by apply o.1 <;> omega)).mono (by omega),
    (g.row (by omega) o.2.2 (by rw [show I' 5 = I 5 by apply o.1 <;> decide]) (by apply o.1 <;> decide) (by apply o.1 <;> decide) (by apply o.1 <;> decide) (by apply o.1 <;> decide) (by apply o.1 <;> decide) (by apply o.1 <;> decide) (by apply o.2.1 <;> decide) (by apply o.2.1 <;> decide) (by apply o.1 <;> decide) (by apply o.1 <;> decide) (by apply o.1 <;> decide)).mono (by omega)⟩
theorem Inv.S {K : Nat} {I I' : Nat → Nat → Int32} {J : Nat → Nat → Int64} (h : Inv K I J) (hK : K < 2 ^ 19) (o : onlyS I I') (hS : InvS I') : Inv (K + 1) I' J := by
  obtain ⟨a, b, c, d, e, f, g⟩ := h.mono
  exact ⟨a.kept (fun c h1 => by apply o.1 <;> omega) (kM_of (fun c h1 h2 => by apply o.1 <;> omega) (fun j h1 => by apply o.2.2 <;> omega)),
    b.kept (by rw [show I' 3 = I 3 by apply o.1 <;> decide]) (by apply o.1 <;> decide) (by apply o.2.2 <;> decide) (by apply o.1 <;> decide),
    hS,
    d.kept (by apply o.1 <;> decide) (by apply o.1 <;> decide) (by apply o.1 <;> decide) (by apply o.2.2 <;> decide) (by apply o.1 <;> decide) (by apply o.1 <;> decide) (by apply o.1 <;> decide),
    e.kept (by rw [show I' 5 = I 5 by apply o.1 <;> decide]) (by apply o.1 <;> decide) (by rw [show I' 7 = I 7 by apply o.1 <;> decide]) (fun c h1 h2 => by apply o.1 <;> omega) (by apply o.2.2 <;> decide) (fun c h1 h2 => by apply o.1 <;> omega),
    f.kept (by apply o.1 <;> decide) (by apply o.1 <;> decide) (by apply o.1 <;> decide) (fun c h1 h2 => by apply o.1 <;> omega),
    g.kept (by apply o.1 <;> decide) (by apply o.1 <;> decide) (by rw [show I' 5 = I 5 by apply o.1 <;> decide]) (by apply o.1 <;> decide) (by apply o.1 <;> decide) (by apply o.1 <;> decide) (by apply o.1 <;> decide) (by apply o.1 <;> decide) (by apply o.1 <;> decide) (by apply o.2.2 <;> decide) (by apply o.2.2 <;> decide) (by apply o.2.2 <;> decide) (by apply o.1 <;> decide) (by apply o.1 <;> decide) (by apply o.1 <;> decide) rfl⟩
theorem Inv.W {K : Nat} {I I' : Nat → Nat → Int32} {J : Nat → Nat → Int64} (h : Inv K I J) (hK : K < 2 ^ 19) (o : onlyW I I') (hF : InvF I') (hR : InvR I') : Inv (K + 1) I' J := by
  obtain ⟨a, b, c, d, e, f, g⟩ := h
  exact ⟨a.kept (fun c h1 => by apply o.1 <;> omega) (kM_of (fun c h1 h2 => by apply o.1 <;> omega) (fun j h1 => by apply o.2.1 <;> omega)),
    hR,
    c.kept (by rw [show I' 0 = I 0 by apply o.1 <;> decide]) (by apply o.2.1 <;> decide),
    hF,
    e.kept (by rw [show I' 5 = I 5 by apply o.1 <;> decide]) (by apply o.1 <;> decide) (by rw [show I' 7 = I 7 by apply o.1 <;> decide]) (fun c h1 h2 => by apply o.1 <;> omega) (by apply o.2.1 <;> decide) (fun c h1 h2 => by apply o.1 <;> omega),
    (f.kept (by apply o.1 <;> decide) (by apply o.1 <;> decide) (by apply o.1 <;> decide) (fun c h1 h2 => by apply o.1 <;> omega)).mono (by omega),
    (g.row (by omega) o.2.2 (by rw [show I' 5 = I 5 by apply o.1 <;> decide]) (by apply o.1 <;> decide) (by apply o.1 <;> decide) (by apply o.1 <;> decide) (by apply o.1 <;> decide) (by apply o.1 <;> decide) (by apply o.1 <;> decide) (by apply o.2.1 <;> decide) (by apply o.2.1 <;> decide) (by apply o.1 <;> decide) (by apply o.1 <;> decide) (by apply o.1 <;> decide)).mono (by omega)⟩
theorem Inv.Rd {K : Nat} {I I' : Nat → Nat → Int32} {J : Nat → Nat → Int64} (h : Inv K I J) (hK : K < 2 ^ 19) (o : onlyRd I I') : Inv (K + 1) I' J := by
  obtain ⟨a, b, c, d, e, f, g⟩ := h.mono
  exact ⟨a.kept (fun c h1 => by apply o.1 <;> omega) (kM_of (fun c h1 h2 => by apply o.1 <;> omega) (fun j h1 => by apply o.2 <;> omega)),
    b.kept (by rw [show I' 3 = I 3 by apply o.1 <;> decide]) (by apply o.1 <;> decide) (by apply o.2 <;> decide) (by apply o.1 <;> decide),
    c.kept (by rw [show I' 0 = I 0 by apply o.1 <;> decide]) (by apply o.2 <;> decide),
    d.kept (by apply o.1 <;> decide) (by apply o.1 <;> decide) (by apply o.1 <;> decide) (by apply o.2 <;> decide) (by apply o.1 <;> decide) (by apply o.1 <;> decide) (by apply o.1 <;> decide),
    e.kept (by rw [show I' 5 = I 5 by apply o.1 <;> decide]) (by apply o.1 <;> decide) (by rw [show I' 7 = I 7 by apply o.1 <;> decide]) (fun c h1 h2 => by apply o.1 <;> omega) (by apply o.2 <;> decide) (fun c h1 h2 => by apply o.1 <;> omega),
    f.kept (by apply o.1 <;> decide) (by apply o.1 <;> decide) (by apply o.1 <;> decide) (fun c h1 h2 => by apply o.1 <;> omega),
    g.kept (by apply o.1 <;> decide) (by apply o.1 <;> decide) (by rw [show I' 5 = I 5 by apply o.1 <;> decide]) (by apply o.1 <;> decide) (by apply o.1 <;> decide) (by apply o.1 <;> decide) (by apply o.1 <;> decide) (by apply o.1 <;> decide) (by apply o.1 <;> decide) (by apply o.2 <;> decide) (by apply o.2 <;> decide) (by apply o.2 <;> decide) (by apply o.1 <;> decide) (by apply o.1 <;> decide) (by apply o.1 <;> decide) rfl⟩
theorem Inv.Tk {K : Nat} {I I' : Nat → Nat → Int32} {J : Nat → Nat → Int64} (h : Inv K I J) (hK : K < 2 ^ 19) (o : onlyTk I I') (hF : InvF I') : Inv (K + 1) I' J := by
  obtain ⟨a, b, c, d, e, f, g⟩ := h.mono
  exact ⟨a.kept (fun c h1 => by apply o.1 <;> omega) (kM_of (fun c h1 h2 => by apply o.1 <;> omega) (fun j h1 => by apply o.2 <;> omega)),
    b.kept (by rw [show I' 3 = I 3 by apply o.1 <;> decide]) (by apply o.1 <;> decide) (by apply o.2 <;> decide) (by apply o.1 <;> decide),
    c.kept (by rw [show I' 0 = I 0 by apply o.1 <;> decide]) (by apply o.2 <;> decide),
    hF,
    e.kept (by rw [show I' 5 = I 5 by apply o.1 <;> decide]) (by apply o.1 <;> decide) (by rw [show I' 7 = I 7 by apply o.1 <;> decide]) (fun c h1 h2 => by apply o.1 <;> omega) (by apply o.2 <;> decide) (fun c h1 h2 => by apply o.1 <;> omega),
    f.kept (by apply o.1 <;> decide) (by apply o.1 <;> decide) (by apply o.1 <;> decide) (fun c h1 h2 => by apply o.1 <;> omega),
    g.kept (by apply o.1 <;> decide) (by apply o.1 <;> decide) (by rw [show I' 5 = I 5 by apply o.1 <;> decide]) (by apply o.1 <;> decide) (by apply o.1 <;> decide) (by apply o.1 <;> decide) (by apply o.1 <;> decide) (by apply o.1 <;> decide) (by apply o.1 <;> decide) (by apply o.2 <;> decide) (by apply o.2 <;> decide) (by apply o.2 <;> decide) (by apply o.1 <;> decide) (by apply o.1 <;> decide) (by apply o.1 <;> decide) rfl⟩
theorem Inv.Q {K : Nat} {I I' : Nat → Nat → Int32} {J : Nat → Nat → Int64} (h : Inv K I J) (hK : K < 2 ^ 19) (o : onlyQ I I') (hQ : InvQ I') : Inv (K + 1) I' J := by
  obtain ⟨a, b, c, d, e, f, g⟩ := h
  exact ⟨a.kept (fun c h1 => by apply o.1 <;> omega) (kM_of (fun c h1 h2 => by apply o.1 <;> omega) (fun j h1 => by apply o.2.1 <;> omega)),
    b.kept (by rw [show I' 3 = I 3 by apply o.1 <;> decide]) (by apply o.1 <;> decide) (by apply o.2.1 <;> decide) (by apply o.1 <;> decide),
    c.kept (by rw [show I' 0 = I 0 by apply o.1 <;> decide]) (by apply o.2.1 <;> decide),
    d.kept (by apply o.1 <;> decide) (by apply o.1 <;> decide) (by apply o.1 <;> decide) (by apply o.2.1 <;> decide) (by apply o.1 <;> decide) (by apply o.1 <;> decide) (by apply o.1 <;> decide),
    hQ,
    f.queue o,
    (g.kept (by apply o.1 <;> decide) (by apply o.1 <;> decide) (by rw [show I' 5 = I 5 by apply o.1 <;> decide]) (by apply o.1 <;> decide) (by apply o.1 <;> decide) (by apply o.1 <;> decide) (by apply o.1 <;> decide) (by apply o.1 <;> decide) (by apply o.1 <;> decide) (by apply o.2.1 <;> decide) (by apply o.2.1 <;> decide) (by apply o.2.1 <;> decide) (by apply o.1 <;> decide) (by apply o.1 <;> decide) (by apply o.1 <;> decide) rfl).mono (by omega)⟩
theorem Inv.Mi {K : Nat} {I I' : Nat → Nat → Int32} {J : Nat → Nat → Int64} (h : Inv K I J) (hK : K < 2 ^ 19) (o1 : ∀ c, c ≠ 13 → c ≠ 105 → I' c = I c) (o2 : ∀ j, j ≠ 27 → I' 13 j = I 13 j) : Inv (K + 1) I' J := by
  obtain ⟨a, b, c, d, e, f, g⟩ := h.mono
  exact ⟨a.kept (fun c h1 => by apply o1 <;> omega) (kM_of (fun c h1 h2 => by apply o1 <;> omega) (fun j h1 => by apply o2 <;> omega)),
    b.kept (by rw [show I' 3 = I 3 by apply o1 <;> decide]) (by apply o1 <;> decide) (by apply o2 <;> decide) (by apply o1 <;> decide),
    c.kept (by rw [show I' 0 = I 0 by apply o1 <;> decide]) (by apply o2 <;> decide),
    d.kept (by apply o1 <;> decide) (by apply o1 <;> decide) (by apply o1 <;> decide) (by apply o2 <;> decide) (by apply o1 <;> decide) (by apply o1 <;> decide) (by apply o1 <;> decide),
    e.kept (by rw [show I' 5 = I 5 by apply o1 <;> decide]) (by apply o1 <;> decide) (by rw [show I' 7 = I 7 by apply o1 <;> decide]) (fun c h1 h2 => by apply o1 <;> omega) (by apply o2 <;> decide) (fun c h1 h2 => by apply o1 <;> omega),
    f.kept (by apply o1 <;> decide) (by apply o1 <;> decide) (by apply o1 <;> decide) (fun c h1 h2 => by apply o1 <;> omega),
    g.kept (by apply o1 <;> decide) (by apply o1 <;> decide) (by rw [show I' 5 = I 5 by apply o1 <;> decide]) (by apply o1 <;> decide) (by apply o1 <;> decide) (by apply o1 <;> decide) (by apply o1 <;> decide) (by apply o1 <;> decide) (by apply o1 <;> decide) (by apply o2 <;> decide) (by apply o2 <;> decide) (by apply o2 <;> decide) (by apply o1 <;> decide) (by apply o1 <;> decide) (by apply o1 <;> decide) rfl⟩
theorem Inv.Tp {K : Nat} {I I' : Nat → Nat → Int32} {J : Nat → Nat → Int64} (h : Inv K I J) (hK : K < 2 ^ 19) (o : onlyTp I I') : Inv (K + 1) I' J := by
  obtain ⟨a, b, c, d, e, f, g⟩ := h.mono
  exact ⟨a.kept (fun c h1 => by apply o.1 <;> omega) (kM_of (fun c h1 h2 => by apply o.1 <;> omega) (fun j h1 => by apply o.2 <;> omega)),
    b.kept (by rw [show I' 3 = I 3 by apply o.1 <;> decide]) (by apply o.1 <;> decide) (by apply o.2 <;> decide) (by apply o.1 <;> decide),
    c.kept (by rw [show I' 0 = I 0 by apply o.1 <;> decide]) (by apply o.2 <;> decide),
    d.kept (by apply o.1 <;> decide) (by apply o.1 <;> decide) (by apply o.1 <;> decide) (by apply o.2 <;> decide) (by apply o.1 <;> decide) (by apply o.1 <;> decide) (by apply o.1 <;> decide),
    e.kept (by rw [show I' 5 = I 5 by apply o.1 <;> decide]) (by apply o.1 <;> decide) (by rw [show I' 7 = I 7 by apply o.1 <;> decide]) (fun c h1 h2 => by apply o.1 <;> omega) (by apply o.2 <;> decide) (fun c h1 h2 => by apply o.1 <;> omega),
    f.kept (by apply o.1 <;> decide) (by apply o.1 <;> decide) (by apply o.1 <;> decide) (fun c h1 h2 => by apply o.1 <;> omega),
    g.kept (by apply o.1 <;> decide) (by apply o.1 <;> decide) (by rw [show I' 5 = I 5 by apply o.1 <;> decide]) (by apply o.1 <;> decide) (by apply o.1 <;> decide) (by apply o.1 <;> decide) (by apply o.1 <;> decide) (by apply o.1 <;> decide) (by apply o.1 <;> decide) (by apply o.2 <;> decide) (by apply o.2 <;> decide) (by apply o.2 <;> decide) (by apply o.1 <;> decide) (by apply o.1 <;> decide) (by apply o.1 <;> decide) rfl⟩
theorem Inv.Pl {K : Nat} {I I' : Nat → Nat → Int32} {J : Nat → Nat → Int64} (h : Inv K I J) (hK : K < 2 ^ 19) (o : onlyPl I I') (hP : InvP K I') : Inv (K + 1) I' J := by
  obtain ⟨a, b, c, d, e, f, g⟩ := h.mono
  exact ⟨a.kept (fun c h1 => by apply o.1 <;> omega) (kM_of (fun c h1 h2 => by apply o.1 <;> omega) (fun j h1 => by apply o.2 <;> omega)),
    b.kept (by rw [show I' 3 = I 3 by apply o.1 <;> decide]) (by apply o.1 <;> decide) (by apply o.2 <;> decide) (by apply o.1 <;> decide),
    c.kept (by rw [show I' 0 = I 0 by apply o.1 <;> decide]) (by apply o.2 <;> decide),
    d.kept (by apply o.1 <;> decide) (by apply o.1 <;> decide) (by apply o.1 <;> decide) (by apply o.2 <;> decide) (by apply o.1 <;> decide) (by apply o.1 <;> decide) (by apply o.1 <;> decide),
    e.kept (by rw [show I' 5 = I 5 by apply o.1 <;> decide]) (by apply o.1 <;> decide) (by rw [show I' 7 = I 7 by apply o.1 <;> decide]) (fun c h1 h2 => by apply o.1 <;> omega) (by apply o.2 <;> decide) (fun c h1 h2 => by apply o.1 <;> omega),
    hP.mono (by omega),
    g.kept (by apply o.1 <;> decide) (by apply o.1 <;> decide) (by rw [show I' 5 = I 5 by apply o.1 <;> decide]) (by apply o.1 <;> decide) (by apply o.1 <;> decide) (by apply o.1 <;> decide) (by apply o.1 <;> decide) (by apply o.1 <;> decide) (by apply o.1 <;> decide) (by apply o.2 <;> decide) (by apply o.2 <;> decide) (by apply o.2 <;> decide) (by apply o.1 <;> decide) (by apply o.1 <;> decide) (by apply o.1 <;> decide) rfl⟩
theorem Inv.X {K : Nat} {I I' : Nat → Nat → Int32} {J J' : Nat → Nat → Int64} (h : Inv K I J) (hK : K < 2 ^ 19) (o : onlyX I I' J J') (hX : InvX (41 * K) I' J') : Inv (K + 1) I' J' := by
  obtain ⟨a, b, c, d, e, f, g⟩ := h.mono
  exact ⟨a.kept (fun c h1 => by apply o.1 <;> omega) (kM_of (fun c h1 h2 => by apply o.1 <;> omega) (fun j h1 => by apply o.2.1 <;> omega)),
    b.kept (by rw [show I' 3 = I 3 by apply o.1 <;> decide]) (by apply o.1 <;> decide) (by apply o.2.1 <;> decide) (by apply o.1 <;> decide),
    c.kept (by rw [show I' 0 = I 0 by apply o.1 <;> decide]) (by apply o.2.1 <;> decide),
    d.kept (by apply o.1 <;> decide) (by apply o.1 <;> decide) (by apply o.1 <;> decide) (by apply o.2.1 <;> decide) (by apply o.1 <;> decide) (by apply o.1 <;> decide) (by apply o.1 <;> decide),
    e.kept (by rw [show I' 5 = I 5 by apply o.1 <;> decide]) (by apply o.1 <;> decide) (by rw [show I' 7 = I 7 by apply o.1 <;> decide]) (fun c h1 h2 => by apply o.1 <;> omega) (by apply o.2.1 <;> decide) (fun c h1 h2 => by apply o.1 <;> omega),
    f.kept (by apply o.1 <;> decide) (by apply o.1 <;> decide) (by apply o.1 <;> decide) (fun c h1 h2 => by apply o.1 <;> omega),
    hX.mono (by omega)⟩
theorem Inv.M {K : Nat} {I I' : Nat → Nat → Int32} {J J' : Nat → Nat → Int64} (h : Inv K I J) (hK : K < 2 ^ 19) (o : onlyM I I' J J') (hR : InvR I') (hX : InvX (41 * K + 41) I' J') : Inv (K + 1) I' J' := by
  obtain ⟨a, b, c, d, e, f, g⟩ := h
  exact ⟨a.kept (fun c h1 => by apply o.1 <;> omega) (kM_of (fun c h1 h2 => by apply o.1 <;> omega) (fun j h1 => by apply o.2.1 <;> omega)),
    hR,
    c.kept (by rw [show I' 0 = I 0 by apply o.1 <;> decide]) (by apply o.2.1 <;> decide),
    d.kept (by apply o.1 <;> decide) (by apply o.1 <;> decide) (by apply o.1 <;> decide) (by apply o.2.1 <;> decide) (by apply o.1 <;> decide) (by apply o.1 <;> decide) (by apply o.1 <;> decide),
    e.kept (by rw [show I' 5 = I 5 by apply o.1 <;> decide]) (by apply o.1 <;> decide) (by rw [show I' 7 = I 7 by apply o.1 <;> decide]) (fun c h1 h2 => by apply o.1 <;> omega) (by apply o.2.1 <;> decide) (fun c h1 h2 => by apply o.1 <;> omega),
    (f.kept (by apply o.1 <;> decide) (by apply o.1 <;> decide) (by apply o.1 <;> decide) (fun c h1 h2 => by apply o.1 <;> omega)).mono (by omega),
    hX.mono (by omega)⟩
theorem Inv.F {K : Nat} {I I' : Nat → Nat → Int32} {J : Nat → Nat → Int64} (h : Inv K I J) (hK : K < 2 ^ 19) (o' : onlyF I I') (hF : InvF I') : Inv (K + 1) I' J := by
  obtain ⟨a, b, c, d, e, f, g⟩ := h.mono
  by_cases hq : I' = I
  · subst hq
    exact ⟨a, b, c, hF, e, f, g⟩
  have o : (∀ c, c ≠ 5 → c ≠ 17 → c ≠ 13 → c ≠ 102 → c ≠ 103 → c ≠ 104 → I' c = I c) ∧ (∀ j, j ≠ 21 → j ≠ 59 → I' 13 j = I 13 j) := ⟨(o'.resolve_left hq).1, (o'.resolve_left hq).2.1⟩
  exact ⟨a.kept (fun c h1 => by apply o.1 <;> omega) (kM_of (fun c h1 h2 => by apply o.1 <;> omega) (fun j h1 => by apply o.2 <;> omega)),
    b.kept (by rw [show I' 3 = I 3 by apply o.1 <;> decide]) (by apply o.1 <;> decide) (by apply o.2 <;> decide) (by apply o.1 <;> decide),
    c.kept (by rw [show I' 0 = I 0 by apply o.1 <;> decide]) (by apply o.2 <;> decide),
    hF,
    e.firm o',
    f.kept (by apply o.1 <;> decide) (by apply o.1 <;> decide) (by apply o.1 <;> decide) (fun c h1 h2 => by apply o.1 <;> omega),
    g.firm o'⟩
