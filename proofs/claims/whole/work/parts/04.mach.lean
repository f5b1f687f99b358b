/-! The small machine: states of the system as two maps of whole numbers; blocks of instructions with their pool's entries resolved; no cell is made. -/
abbrev tkH : Type := (Nat → Nat → Int32) × (Nat → Nat → Int64)
abbrev tkQ : Type := Option Value → tkH → Prop
abbrev tkC : Type := Nat → List Value → tkH → tkQ → Prop
abbrev tkK : Type := Nat → List Value → List Value → tkH → Prop
abbrev tkN : Type := List Value → List Value → tkH → Prop
def up2 (f : Nat → Nat → Int32) (a j : Nat) (v : Int32) : Nat → Nat → Int32 := fun b k => if b = a ∧ k = j then v else f b k
def up2L (f : Nat → Nat → Int64) (a j : Nat) (v : Int64) : Nat → Nat → Int64 := fun b k => if b = a ∧ k = j then v else f b k
def cp2 (f : Nat → Nat → Int32) (a0 sp a1 dp n : Nat) : Nat → Nat → Int32 := fun b k => if b = a1 ∧ dp ≤ k ∧ k < dp + n then f a0 (sp + (k - dp)) else f b k
def tk_kl : Value → Value
  | .long _ => .null
  | .double _ => .null
  | v => v
def lset1 : List Value → Nat → Value → List Value
  | [], _, _ => []
  | _ :: l, 0, v => v :: l
  | a :: l, 1, v => tk_kl a :: lset1 l 0 v
  | a :: l, i + 2, v => a :: lset1 l (i + 1) v
def lset2 : List Value → Nat → Value → List Value
  | [], _, _ => []
  | [_], 0, v => [v]
  | _ :: _ :: l, 0, v => v :: .null :: l
  | a :: l, 1, v => tk_kl a :: lset2 l 0 v
  | a :: l, i + 2, v => a :: lset2 l (i + 1) v
def lget : List Value → Nat → Value
  | [], _ => .null
  | a :: _, 0 => a
  | _ :: l, i + 1 => lget l i
def stW : List Value → Nat
  | [] => 0
  | v :: l => v.category + stW l
def icc : Jvm.ClassFile.Cond → Int32 → Int32 → Prop
  | .eq, x, y => x = y
  | .ne, x, y => ¬ x = y
  | .lt, x, y => x < y
  | .ge, x, y => y ≤ x
  | .gt, x, y => y < x
  | .le, x, y => x ≤ y
def tkI (sx : Nat × (Nat → Int32)) (call : tkC) (K : tkK) (Q : tkQ) (i : Instr) (ls st : List Value) (h : tkH) (N : tkN) : Prop :=
  match i with
  | .iconst n => N ls (.int (Int32.ofInt n) :: st) h
  | .ldc2_w n => N ls (.long (Int64.ofNat n) :: st) h
  | .iload k => match lget ls k with | .int x => N ls (.int x :: st) h | _ => False
  | .lload k => match lget ls k with | .long x => N ls (.long x :: st) h | _ => False
  | .aload k => match lget ls k with | .ref x => N ls (.ref x :: st) h | _ => False
  | .istore k => match st with | .int x :: r => N (lset1 ls k (.int x)) r h | _ => False
  | .astore k => match st with | .ref x :: r => N (lset1 ls k (.ref x)) r h | _ => False
  | .lstore k => match st with | .long x :: r => N (lset2 ls k (.long x)) r h | _ => False
  | .iinc k n => match lget ls k with | .int x => N (lset1 ls k (.int (x + Int32.ofInt n))) st h | _ => False
  | .iadd => match st with | .int y :: .int x :: r => N ls (.int (x + y) :: r) h | _ => False
  | .isub => match st with | .int y :: .int x :: r => N ls (.int (x - y) :: r) h | _ => False
  | .imul => match st with | .int y :: .int x :: r => N ls (.int (x * y) :: r) h | _ => False
  | .iand => match st with | .int y :: .int x :: r => N ls (.int (x &&& y) :: r) h | _ => False
  | .ior => match st with | .int y :: .int x :: r => N ls (.int (x ||| y) :: r) h | _ => False
  | .ixor => match st with | .int y :: .int x :: r => N ls (.int (x ^^^ y) :: r) h | _ => False
  | .ishl => match st with | .int y :: .int x :: r => N ls (.int (x <<< (y &&& 31)) :: r) h | _ => False
  | .ishr => match st with | .int y :: .int x :: r => N ls (.int (x >>> (y &&& 31)) :: r) h | _ => False
  | .iushr => match st with | .int y :: .int x :: r => N ls (.int (x.toUInt32 >>> (y.toUInt32 &&& Int32.toUInt32 31)).toInt32 :: r) h | _ => False
  | .idiv => match st with | .int y :: .int x :: r => ¬ y = 0 ∧ N ls (.int (x / y) :: r) h | _ => False
  | .irem => match st with | .int y :: .int x :: r => ¬ y = 0 ∧ N ls (.int (x - x / y * y) :: r) h | _ => False
  | .ladd => match st with | .long y :: .long x :: r => N ls (.long (x + y) :: r) h | _ => False
  | .lmul => match st with | .long y :: .long x :: r => N ls (.long (x * y) :: r) h | _ => False
  | .land => match st with | .long y :: .long x :: r => N ls (.long (x &&& y) :: r) h | _ => False
  | .lor => match st with | .long y :: .long x :: r => N ls (.long (x ||| y) :: r) h | _ => False
  | .lshl => match st with | .int y :: .long x :: r => N ls (.long (x <<< (y.toInt64 &&& 63)) :: r) h | _ => False
  | .lushr => match st with | .int y :: .long x :: r => N ls (.long (x.toUInt64 >>> (y.toInt64.toUInt64 &&& Int64.toUInt64 63)).toInt64 :: r) h | _ => False
  | .lcmp => match st with | .long y :: .long x :: r => N ls (.int (lg_cmp x y) :: r) h | _ => False
  | .i2l => match st with | .int x :: r => N ls (.long x.toInt64 :: r) h | _ => False
  | .getfield n => match st with | .ref a :: r => (tkSh a).1 = n / 64 ∧ N ls (.int (h.1 a (n % 64)) :: r) h | _ => False
  | .getstatic n => match st with | .ref a :: r => (tkSh a).1 = n / 64 ∧ N ls (.ref (tkRf a (n % 64)) :: r) h | _ => False
  | .putfield n => match st with | .int v :: .ref a :: r => (tkSh a).1 = n / 64 ∧ N ls r (up2 h.1 a (n % 64) v, h.2) | _ => False
  | .putstatic n => match st with | .int v :: .ref a :: r => (tkSh a).1 = n / 64 ∧ (v = 0 ∨ v = 1) ∧ N ls r (up2 h.1 a (n % 64) v, h.2) | _ => False
  | .iaload => match st with | .int j :: .ref a :: r => (tkSh a).1 = 64 ∧ vp_in j (tkSh a).2 ∧ N ls (.int (h.1 a j.toNatClampNeg) :: r) h | _ => False
  | .baload => match st with | .int j :: .ref a :: r => (tkSh a).1 = 65 ∧ vp_in j (tkSh a).2 ∧ N ls (.int (h.1 a j.toNatClampNeg) :: r) h | _ => False
  | .laload => match st with | .int j :: .ref a :: r => (tkSh a).1 = 66 ∧ vp_in j (tkSh a).2 ∧ N ls (.long (h.2 a j.toNatClampNeg) :: r) h | _ => False
  | .aaload => match st with | .int j :: .ref a :: r => (tkSh a).1 = 67 ∧ vp_in j (tkSh a).2 ∧ N ls (.ref (tkRf a j.toNatClampNeg) :: r) h | _ => False
  | .caload => match st with | .int j :: .ref a :: r => a = 1000 ∧ vp_in j sx.1 ∧ N ls (.int (sx.2 j.toNatClampNeg) :: r) h | _ => False
  | .iastore => match st with | .int v :: .int j :: .ref a :: r => (tkSh a).1 = 64 ∧ vp_in j (tkSh a).2 ∧ N ls r (up2 h.1 a j.toNatClampNeg v, h.2) | _ => False
  | .bastore => match st with | .int v :: .int j :: .ref a :: r => (tkSh a).1 = 65 ∧ vp_in j (tkSh a).2 ∧ (v = 0 ∨ v = 1) ∧ N ls r (up2 h.1 a j.toNatClampNeg v, h.2) | _ => False
  | .lastore => match st with | .long v :: .int j :: .ref a :: r => (tkSh a).1 = 66 ∧ vp_in j (tkSh a).2 ∧ N ls r (h.1, up2L h.2 a j.toNatClampNeg v) | _ => False
  | .arraylength => match st with | .ref a :: r => ((tkSh a).1 = 64 ∨ (tkSh a).1 = 66) ∧ N ls (.int (Int32.ofNat (tkSh a).2) :: r) h | _ => False
  | .castore => match st with | .ref a :: r => a = 1000 ∧ N ls (.int (Int32.ofNat sx.1) :: r) h | _ => False
  | .if_icmp c t => match st with | .int y :: .int x :: r => (icc c x y → K t.toNat ls r h) ∧ (¬ icc c x y → N ls r h) | _ => False
  | .ifCond c t => match st with | .int x :: r => (icc c x 0 → K t.toNat ls r h) ∧ (¬ icc c x 0 → N ls r h) | _ => False
  | .goto t => K t.toNat ls st h
  | .tableswitch d lo hi bs => match st with | .int x :: r => ((x.toInt < lo ∨ hi < x.toInt) → K d.toNat ls r h) ∧ (¬ x.toInt < lo → ¬ hi < x.toInt → K (bs.getD (x.toInt - lo).toNat 0).toNat ls r h) | _ => False
  | .invokeinterface mi n => n ≤ st.length ∧ stW (st.drop n) ≤ 8 ∧ call mi (st.take n).reverse h (fun v h' => N ls (v.toList ++ st.drop n) h')
  | .ireturn => match st with | [.int v] => Q (some (.int v)) h | _ => False
  | .dreturn => match st with | [.int v] => (v = 0 ∨ v = 1) ∧ Q (some (.int v)) h | _ => False
  | .lreturn => match st with | [.long v] => Q (some (.long v)) h | _ => False
  | .areturn => match st with | [.ref v] => Q (some (.ref v)) h | _ => False
  | .return_ => match st with | [] => Q none h | _ => False
  | .dup => match st with | v :: r => v.category = 1 ∧ N ls (v :: v :: r) h | _ => False
  | .dup2 => match st with | v :: u :: r => v.category = 1 ∧ u.category = 1 ∧ N ls (v :: u :: v :: u :: r) h | _ => False
  | .pop => match st with | v :: r => v.category = 1 ∧ N ls r h | _ => False
  | _ => False
def tkE (sx : Nat × (Nat → Int32)) (call : tkC) (K : tkK) (Q : tkQ) (nb : Nat) : List Instr → List Value → List Value → tkH → Prop
  | [], ls, st, h => K nb ls st h
  | i :: is, ls, st, h => tkI sx call K Q i ls st h (fun ls st h => tkE sx call K Q nb is ls st h)
def tkB (sx : Nat × (Nat → Int32)) (call : tkC) (M : List (List Instr)) (K : tkK) (Q : tkQ) (b : Nat) (ls st : List Value) (h : tkH) : Prop :=
  match M[b]? with
  | some is => tkE sx call K Q (b + 1) is ls st h
  | none => False
/-- from block b the method comes to an end with Q: the least such -/
def tkR (sx : Nat × (Nat → Int32)) (call : tkC) (M : List (List Instr)) (Q : tkQ) (b : Nat) (ls st : List Value) (h : tkH) : Prop :=
  ∀ P : tkK, (∀ b ls st h, tkB sx call M P Q b ls st h → P b ls st h) → P b ls st h
def tk_mono (call : tkC) : Prop := ∀ mi a h (Q Q' : tkQ), (∀ v h', Q v h' → Q' v h') → call mi a h Q → call mi a h Q'
set_option maxHeartbeats 4000000 in
theorem tkI_mono {sx : Nat × (Nat → Int32)} {call : tkC} (hc : tk_mono call) {K K' : tkK} {Q Q' : tkQ} {N N' : tkN} (hK : ∀ b ls st h, K b ls st h → K' b ls st h) (hQ : ∀ v h, Q v h → Q' v h) (hN : ∀ ls st h, N ls st h → N' ls st h)
    {i : Instr} {ls st : List Value} {h : tkH} (H : tkI sx call K Q i ls st h N) : tkI sx call K' Q' i ls st h N' := by
  unfold tkI at H ⊢
  split at H
  case h_47 =>
    obtain ⟨h1, h2, h3⟩ := H
    exact ⟨h1, h2, hc _ _ _ _ _ (fun v h' q => hN _ _ _ q) h3⟩
  all_goals first
    | exact hN _ _ _ H
    | exact hK _ _ _ _ H
    | exact H.elim
    | (split at H
       · first
         | exact hN _ _ _ H
         | exact hQ _ _ H
         | exact ⟨H.1, hN _ _ _ H.2⟩
         | exact ⟨H.1, hQ _ _ H.2⟩
         | exact ⟨H.1, H.2.1, hN _ _ _ H.2.2⟩
         | exact ⟨H.1, H.2.1, H.2.2.1, hN _ _ _ H.2.2.2⟩
         | exact ⟨fun q => hK _ _ _ _ (H.1 q), fun q => hN _ _ _ (H.2 q)⟩
         | exact ⟨fun q => hK _ _ _ _ (H.1 q), fun q r => hK _ _ _ _ (H.2 q r)⟩
       · exact H.elim)
theorem tkE_mono {sx : Nat × (Nat → Int32)} {call : tkC} (hc : tk_mono call) {K K' : tkK} {Q Q' : tkQ} (hK : ∀ b ls st h, K b ls st h → K' b ls st h) (hQ : ∀ v h, Q v h → Q' v h) (nb : Nat) :
    ∀ (is : List Instr) (ls st : List Value) (h : tkH), tkE sx call K Q nb is ls st h → tkE sx call K' Q' nb is ls st h := by
  intro is
  induction is with
  | nil => intro ls st h H; exact hK _ _ _ _ H
  | cons i is ih => intro ls st h H; exact tkI_mono hc hK hQ (fun ls st h => ih ls st h) H
theorem tkB_mono {sx : Nat × (Nat → Int32)} {call : tkC} (hc : tk_mono call) {M : List (List Instr)} {K K' : tkK} {Q Q' : tkQ} (hK : ∀ b ls st h, K b ls st h → K' b ls st h) (hQ : ∀ v h, Q v h → Q' v h) {b : Nat} {ls st : List Value} {h : tkH} (H : tkB sx call M K Q b ls st h) : tkB sx call M K' Q' b ls st h := by
  unfold tkB at H ⊢
  split at H
  · exact tkE_mono hc hK hQ _ _ _ _ _ H
  · exact H.elim
/-- one block -/
theorem tkR.go {sx : Nat × (Nat → Int32)} {call : tkC} (hc : tk_mono call) {M : List (List Instr)} {Q : tkQ} {b : Nat} {is : List Instr} {ls st : List Value} {h : tkH} (hb : M[b]? = some is)
    (H : tkE sx call (tkR sx call M Q) Q (b + 1) is ls st h) : tkR sx call M Q b ls st h := by
  intro P hP
  refine hP _ _ _ _ ?_
  unfold tkB
  rw [hb]
  exact tkE_mono hc (fun b ls st h q => q P hP) (fun _ _ q => q) _ _ _ _ _ H
theorem tkR.mono {sx : Nat × (Nat → Int32)} {call : tkC} (hc : tk_mono call) {M : List (List Instr)} {Q Q' : tkQ} (hQ : ∀ v h, Q v h → Q' v h) {b : Nat} {ls st : List Value} {h : tkH} (H : tkR sx call M Q b ls st h) : tkR sx call M Q' b ls st h := by
  refine H (tkR sx call M Q') ?_
  intro b ls st h q P hP
  exact hP _ _ _ _ (tkB_mono hc (fun b ls st h r => r P hP) (fun _ _ r => r) (tkB_mono hc (fun _ _ _ _ r => r) hQ q))
/-- a method's locals out of its arguments -/
def tk_args : List Value → List Value
  | [] => []
  | v :: l => if v.category = 2 then v :: .null :: tk_args l else v :: tk_args l
def tk_lcl (n : Nat) (a : List Value) : List Value := tk_args a ++ List.replicate (n - (tk_args a).length) .null
/-- the copying of a row of ints (System.arraycopy) -/
def tk_copy (a : List Value) (h : tkH) (Q : tkQ) : Prop :=
  match a with
  | [.ref a0, .int sp, .ref a1, .int dp, .int n] => (tkSh a0).1 = 64 ∧ (tkSh a1).1 = 64 ∧ ¬ sp < 0 ∧ ¬ dp < 0 ∧ ¬ n < 0 ∧ sp.toNatClampNeg + n.toNatClampNeg ≤ (tkSh a0).2 ∧ dp.toNatClampNeg + n.toNatClampNeg ≤ (tkSh a1).2 ∧ Q none (cp2 h.1 a0 sp.toNatClampNeg a1 dp.toNatClampNeg n.toNatClampNeg, h.2)
  | _ => False
/-- a method's receiver is of its class (99: a static method) -/
def tkRcv (o : Nat) (a : List Value) : Prop := o = 99 ∨ ∃ k r, a = .ref k :: r ∧ (tkSh k).1 = o
/-- a method by its number, with calls d deep; a row: its locals, its class (99: static), its blocks -/
def tkM (T : List (Nat × Nat × List (List Instr))) : Nat → tkC
  | 0 => fun _ _ _ _ => False
  | d + 1 => fun mi a h Q => if mi = 999 then tk_copy a h Q else match T[mi]? with
    | some x => tkRcv x.2.1 a ∧ (tk_args a).length ≤ x.1 ∧ tkR (0, fun _ => 0) (tkM T d) x.2.2 Q 0 (tk_lcl x.1 a) [] h
    | none => False
theorem tk_copy_mono {a : List Value} {h : tkH} {Q Q' : tkQ} (hQ : ∀ v h, Q v h → Q' v h) (H : tk_copy a h Q) : tk_copy a h Q' := by
  unfold tk_copy at H ⊢
  split at H
  · obtain ⟨h1, h2, h3, h4, h5, h6, h7, h8⟩ := H
    exact ⟨h1, h2, h3, h4, h5, h6, h7, hQ _ _ h8⟩
  · exact H.elim
theorem tkM_mono (T : List (Nat × Nat × List (List Instr))) : ∀ d, tk_mono (tkM T d) := by
  intro d
  induction d with
  | zero => intro mi a h Q Q' _ H; exact H.elim
  | succ d ih =>
    intro mi a h Q Q' hQ H
    show if mi = 999 then tk_copy a h Q' else _
    have H : if mi = 999 then tk_copy a h Q else match T[mi]? with
      | some x => tkRcv x.2.1 a ∧ (tk_args a).length ≤ x.1 ∧ tkR (0, fun _ => 0) (tkM T d) x.2.2 Q 0 (tk_lcl x.1 a) [] h
      | none => False := H
    by_cases h9 : mi = 999
    · rw [if_pos h9] at H ⊢; exact tk_copy_mono hQ H
    · rw [if_neg h9] at H ⊢
      split at H
      · exact ⟨H.1, H.2.1, tkR.mono ih hQ H.2.2⟩
      · exact H.elim
