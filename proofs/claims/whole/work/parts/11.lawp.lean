theorem tkChk_app {cc : ByteArray} {oc nL : Nat} {pcs : List Nat} {rt : Option FieldType} {sc : Bool} : ∀ (l1 l2 : List (List Instr)) (b : Nat), tkChk cc oc nL pcs rt sc b l1 = true → tkChk cc oc nL pcs rt sc (b + l1.length) l2 = true → tkChk cc oc nL pcs rt sc b (l1 ++ l2) = true := by
  intro l1
  induction l1 with
  | nil => intro l2 b _ h; exact h
  | cons x l1 ih =>
    intro l2 b h1 h2
    unfold tkChk at h1
    rw [Bool.and_eq_true] at h1
    show (_ && tkChk _ _ _ _ _ _ (b + 1) (l1 ++ l2)) = true
    rw [Bool.and_eq_true]
    refine ⟨h1.1, ih l2 (b + 1) h1.2 ?_⟩
    rw [show b + 1 + l1.length = b + (x :: l1).length by simp; omega]
    exact h2
def tkP_law : List Nat := [16, 18, 200, 243, 261, 262, 283, 284, 292, 335, 368, 391, 414, 437, 450, 483, 516, 539, 552, 575, 618, 631, 654, 667, 720, 733, 734, 750, 751, 759, 782, 825, 848, 881, 894, 957, 970, 993, 1026, 1059, 1092, 1135, 1148, 1171, 1184, 1217, 1240, 1263, 1277, 1283]
def tkm_law_0 : List (List Instr) := [
  [.iconst 0, .istore 3],
  [.iload 3, .aload 0, .castore, .iconst 6, .isub, .if_icmp .gt 49, .aload 0, .iload 3, .caload, .iconst 63, .iand, .tableswitch 48 0 37 #[2, 3, 8, 9, 10, 11, 12, 13, 14, 15, 16, 17, 18, 19, 20, 21, 22, 23, 24, 29, 30, 31, 32, 33, 34, 35, 36, 37, 38, 39, 40, 41, 42, 43, 44, 45, 46, 47]],
  [.aload 1, .aload 0, .iload 3, .iconst 1, .iadd, .caload, .aload 0, .iload 3, .iconst 2, .iadd, .caload, .aload 0, .iload 3, .iconst 3, .iadd, .caload, .invokeinterface 95 4, .aload 2, .aload 0, .iload 3, .iconst 1, .iadd, .caload, .aload 0, .iload 3, .iconst 2, .iadd, .caload, .aload 0, .iload 3, .iconst 3, .iadd, .caload, .invokeinterface 149 4, .if_icmp .eq 48, .iconst 0, .dreturn],
  [.aload 1, .aload 0, .iload 3, .iconst 1, .iadd, .caload, .aload 0, .iload 3, .iconst 2, .iadd, .caload, .ifCond .eq 4, .iconst 1, .goto 5],
  [.iconst 0],
  [.invokeinterface 96 3, .aload 2, .aload 0, .iload 3, .iconst 1, .iadd, .caload, .aload 0, .iload 3, .iconst 2, .iadd, .caload, .ifCond .eq 6, .iconst 1, .goto 7]]
theorem tkc_law_0 : tkChk code 12 4 tkP_law (some .boolean) true 0 tkm_law_0 = true := by decide +kernel
def tkm_law_1 : List (List Instr) := [
  [.iconst 0],
  [.invokeinterface 151 3, .if_icmp .eq 48, .iconst 0, .dreturn],
  [.aload 1, .aload 0, .iload 3, .iconst 1, .iadd, .caload, .aload 0, .iload 3, .iconst 2, .iadd, .caload, .aload 0, .iload 3, .iconst 3, .iadd, .caload, .invokeinterface 97 4, .aload 2, .aload 0, .iload 3, .iconst 1, .iadd, .caload, .aload 0, .iload 3, .iconst 2, .iadd, .caload, .aload 0, .iload 3, .iconst 3, .iadd, .caload, .invokeinterface 152 4, .if_icmp .eq 48, .iconst 0, .dreturn],
  [.aload 1, .aload 0, .iload 3, .iconst 1, .iadd, .caload, .aload 0, .iload 3, .iconst 2, .iadd, .caload, .invokeinterface 98 3, .aload 2, .aload 0, .iload 3, .iconst 1, .iadd, .caload, .aload 0, .iload 3, .iconst 2, .iadd, .caload, .invokeinterface 153 3, .if_icmp .eq 48, .iconst 0, .dreturn],
  [.aload 1, .aload 0, .iload 3, .iconst 1, .iadd, .caload, .invokeinterface 99 2, .aload 2, .aload 0, .iload 3, .iconst 1, .iadd, .caload, .invokeinterface 155 2, .if_icmp .eq 48, .iconst 0, .dreturn],
  [.aload 1, .aload 0, .iload 3, .iconst 1, .iadd, .caload, .invokeinterface 100 2, .aload 2, .aload 0, .iload 3, .iconst 1, .iadd, .caload, .invokeinterface 160 2, .if_icmp .eq 48, .iconst 0, .dreturn]]
theorem tkc_law_1 : tkChk code 12 4 tkP_law (some .boolean) true 6 tkm_law_1 = true := by decide +kernel
def tkm_law_2 : List (List Instr) := [
  [.aload 1, .aload 0, .iload 3, .iconst 1, .iadd, .caload, .invokeinterface 101 2, .aload 2, .aload 0, .iload 3, .iconst 1, .iadd, .caload, .invokeinterface 164 2, .if_icmp .eq 48, .iconst 0, .dreturn],
  [.aload 1, .invokeinterface 102 1, .aload 2, .invokeinterface 165 1, .if_icmp .eq 48, .iconst 0, .dreturn],
  [.aload 1, .aload 0, .iload 3, .iconst 1, .iadd, .caload, .aload 0, .iload 3, .iconst 2, .iadd, .caload, .invokeinterface 103 3, .aload 2, .aload 0, .iload 3, .iconst 1, .iadd, .caload, .aload 0, .iload 3, .iconst 2, .iadd, .caload, .invokeinterface 168 3, .if_icmp .eq 48, .iconst 0, .dreturn],
  [.aload 1, .aload 0, .iload 3, .iconst 1, .iadd, .caload, .aload 0, .iload 3, .iconst 2, .iadd, .caload, .invokeinterface 104 3, .aload 2, .aload 0, .iload 3, .iconst 1, .iadd, .caload, .aload 0, .iload 3, .iconst 2, .iadd, .caload, .invokeinterface 169 3, .if_icmp .eq 48, .iconst 0, .dreturn],
  [.aload 1, .aload 0, .iload 3, .iconst 1, .iadd, .caload, .invokeinterface 105 2, .aload 2, .aload 0, .iload 3, .iconst 1, .iadd, .caload, .invokeinterface 171 2, .if_icmp .eq 48, .iconst 0, .dreturn],
  [.aload 1, .invokeinterface 106 1, .aload 2, .invokeinterface 172 1, .if_icmp .eq 48, .iconst 0, .dreturn]]
theorem tkc_law_2 : tkChk code 12 4 tkP_law (some .boolean) true 12 tkm_law_2 = true := by decide +kernel
def tkm_law_3 : List (List Instr) := [
  [.aload 1, .aload 0, .iload 3, .iconst 1, .iadd, .caload, .invokeinterface 107 2, .aload 2, .aload 0, .iload 3, .iconst 1, .iadd, .caload, .invokeinterface 173 2, .if_icmp .eq 48, .iconst 0, .dreturn],
  [.aload 1, .aload 0, .iload 3, .iconst 1, .iadd, .caload, .aload 0, .iload 3, .iconst 2, .iadd, .caload, .aload 0, .iload 3, .iconst 3, .iadd, .caload, .invokeinterface 108 4, .aload 2, .aload 0, .iload 3, .iconst 1, .iadd, .caload, .aload 0, .iload 3, .iconst 2, .iadd, .caload, .aload 0, .iload 3, .iconst 3, .iadd, .caload, .invokeinterface 174 4, .if_icmp .eq 48, .iconst 0, .dreturn],
  [.aload 1, .invokeinterface 109 1, .aload 2, .invokeinterface 175 1, .if_icmp .eq 48, .iconst 0, .dreturn],
  [.aload 1, .aload 0, .iload 3, .iconst 1, .iadd, .caload, .invokeinterface 110 2, .aload 2, .aload 0, .iload 3, .iconst 1, .iadd, .caload, .invokeinterface 176 2, .if_icmp .eq 48, .iconst 0, .dreturn],
  [.aload 1, .invokeinterface 111 1, .aload 2, .invokeinterface 177 1, .if_icmp .eq 48, .iconst 0, .dreturn],
  [.aload 1, .aload 0, .iload 3, .iconst 1, .iadd, .caload, .aload 0, .iload 3, .iconst 2, .iadd, .caload, .aload 0, .iload 3, .iconst 3, .iadd, .caload, .aload 0, .iload 3, .iconst 4, .iadd, .caload, .invokeinterface 112 5, .aload 2, .aload 0, .iload 3, .iconst 1, .iadd, .caload, .aload 0, .iload 3, .iconst 2, .iadd, .caload, .aload 0, .iload 3, .iconst 3, .iadd, .caload, .aload 0, .iload 3, .iconst 4, .iadd, .caload, .invokeinterface 178 5, .if_icmp .eq 48, .iconst 0, .dreturn]]
theorem tkc_law_3 : tkChk code 12 4 tkP_law (some .boolean) true 18 tkm_law_3 = true := by decide +kernel
def tkm_law_4 : List (List Instr) := [
  [.aload 1, .aload 0, .iload 3, .iconst 1, .iadd, .caload, .ifCond .eq 25, .iconst 1, .goto 26],
  [.iconst 0],
  [.invokeinterface 113 2, .aload 2, .aload 0, .iload 3, .iconst 1, .iadd, .caload, .ifCond .eq 27, .iconst 1, .goto 28],
  [.iconst 0],
  [.invokeinterface 179 2, .if_icmp .eq 48, .iconst 0, .dreturn],
  [.aload 1, .aload 0, .iload 3, .iconst 1, .iadd, .caload, .invokeinterface 114 2, .aload 2, .aload 0, .iload 3, .iconst 1, .iadd, .caload, .invokeinterface 181 2, .if_icmp .eq 48, .iconst 0, .dreturn]]
theorem tkc_law_4 : tkChk code 12 4 tkP_law (some .boolean) true 24 tkm_law_4 = true := by decide +kernel
def tkm_law_5 : List (List Instr) := [
  [.aload 1, .aload 0, .iload 3, .iconst 1, .iadd, .caload, .aload 0, .iload 3, .iconst 2, .iadd, .caload, .aload 0, .iload 3, .iconst 3, .iadd, .caload, .invokeinterface 115 4, .aload 2, .aload 0, .iload 3, .iconst 1, .iadd, .caload, .aload 0, .iload 3, .iconst 2, .iadd, .caload, .aload 0, .iload 3, .iconst 3, .iadd, .caload, .invokeinterface 186 4, .if_icmp .eq 48, .iconst 0, .dreturn],
  [.aload 1, .aload 0, .iload 3, .iconst 1, .iadd, .caload, .invokeinterface 116 2, .aload 2, .aload 0, .iload 3, .iconst 1, .iadd, .caload, .invokeinterface 192 2, .if_icmp .eq 48, .iconst 0, .dreturn],
  [.aload 1, .aload 0, .iload 3, .iconst 1, .iadd, .caload, .aload 0, .iload 3, .iconst 2, .iadd, .caload, .invokeinterface 117 3, .aload 2, .aload 0, .iload 3, .iconst 1, .iadd, .caload, .aload 0, .iload 3, .iconst 2, .iadd, .caload, .invokeinterface 193 3, .if_icmp .eq 48, .iconst 0, .dreturn],
  [.aload 1, .invokeinterface 118 1, .aload 2, .invokeinterface 194 1, .if_icmp .eq 48, .iconst 0, .dreturn],
  [.aload 1, .aload 0, .iload 3, .iconst 1, .iadd, .caload, .aload 0, .iload 3, .iconst 2, .iadd, .caload, .aload 0, .iload 3, .iconst 3, .iadd, .caload, .aload 0, .iload 3, .iconst 4, .iadd, .caload, .aload 0, .iload 3, .iconst 5, .iadd, .caload, .invokeinterface 119 6, .aload 2, .aload 0, .iload 3, .iconst 1, .iadd, .caload, .aload 0, .iload 3, .iconst 2, .iadd, .caload, .aload 0, .iload 3, .iconst 3, .iadd, .caload, .aload 0, .iload 3, .iconst 4, .iadd, .caload, .aload 0, .iload 3, .iconst 5, .iadd, .caload, .invokeinterface 195 6, .if_icmp .eq 48, .iconst 0, .dreturn],
  [.aload 1, .invokeinterface 120 1, .aload 2, .invokeinterface 196 1, .if_icmp .eq 48, .iconst 0, .dreturn]]
theorem tkc_law_5 : tkChk code 12 4 tkP_law (some .boolean) true 30 tkm_law_5 = true := by decide +kernel
def tkm_law_6 : List (List Instr) := [
  [.aload 1, .aload 0, .iload 3, .iconst 1, .iadd, .caload, .invokeinterface 121 2, .aload 2, .aload 0, .iload 3, .iconst 1, .iadd, .caload, .invokeinterface 198 2, .if_icmp .eq 48, .iconst 0, .dreturn],
  [.aload 1, .aload 0, .iload 3, .iconst 1, .iadd, .caload, .aload 0, .iload 3, .iconst 2, .iadd, .caload, .invokeinterface 122 3, .aload 2, .aload 0, .iload 3, .iconst 1, .iadd, .caload, .aload 0, .iload 3, .iconst 2, .iadd, .caload, .invokeinterface 203 3, .if_icmp .eq 48, .iconst 0, .dreturn],
  [.aload 1, .aload 0, .iload 3, .iconst 1, .iadd, .caload, .aload 0, .iload 3, .iconst 2, .iadd, .caload, .invokeinterface 123 3, .aload 2, .aload 0, .iload 3, .iconst 1, .iadd, .caload, .aload 0, .iload 3, .iconst 2, .iadd, .caload, .invokeinterface 204 3, .if_icmp .eq 48, .iconst 0, .dreturn],
  [.aload 1, .aload 0, .iload 3, .iconst 1, .iadd, .caload, .aload 0, .iload 3, .iconst 2, .iadd, .caload, .invokeinterface 124 3, .aload 2, .aload 0, .iload 3, .iconst 1, .iadd, .caload, .aload 0, .iload 3, .iconst 2, .iadd, .caload, .invokeinterface 206 3, .if_icmp .eq 48, .iconst 0, .dreturn],
  [.aload 1, .aload 0, .iload 3, .iconst 1, .iadd, .caload, .aload 0, .iload 3, .iconst 2, .iadd, .caload, .aload 0, .iload 3, .iconst 3, .iadd, .caload, .invokeinterface 125 4, .aload 2, .aload 0, .iload 3, .iconst 1, .iadd, .caload, .aload 0, .iload 3, .iconst 2, .iadd, .caload, .aload 0, .iload 3, .iconst 3, .iadd, .caload, .invokeinterface 207 4, .if_icmp .eq 48, .iconst 0, .dreturn],
  [.aload 1, .invokeinterface 126 1, .aload 2, .invokeinterface 219 1, .if_icmp .eq 48, .iconst 0, .dreturn]]
theorem tkc_law_6 : tkChk code 12 4 tkP_law (some .boolean) true 36 tkm_law_6 = true := by decide +kernel
def tkm_law_7 : List (List Instr) := [
  [.aload 1, .aload 0, .iload 3, .iconst 1, .iadd, .caload, .invokeinterface 127 2, .aload 2, .aload 0, .iload 3, .iconst 1, .iadd, .caload, .invokeinterface 220 2, .if_icmp .eq 48, .iconst 0, .dreturn],
  [.aload 1, .invokeinterface 128 1, .aload 2, .invokeinterface 221 1, .if_icmp .eq 48, .iconst 0, .dreturn],
  [.aload 1, .aload 0, .iload 3, .iconst 1, .iadd, .caload, .aload 0, .iload 3, .iconst 2, .iadd, .caload, .invokeinterface 129 3, .aload 2, .aload 0, .iload 3, .iconst 1, .iadd, .caload, .aload 0, .iload 3, .iconst 2, .iadd, .caload, .invokeinterface 223 3, .if_icmp .eq 48, .iconst 0, .dreturn],
  [.aload 1, .aload 0, .iload 3, .iconst 1, .iadd, .caload, .invokeinterface 130 2, .aload 2, .aload 0, .iload 3, .iconst 1, .iadd, .caload, .invokeinterface 224 2, .if_icmp .eq 48, .iconst 0, .dreturn],
  [.aload 1, .aload 0, .iload 3, .iconst 1, .iadd, .caload, .invokeinterface 131 2, .aload 2, .aload 0, .iload 3, .iconst 1, .iadd, .caload, .invokeinterface 225 2, .if_icmp .eq 48, .iconst 0, .dreturn],
  [.aload 1, .invokeinterface 132 1, .aload 2, .invokeinterface 228 1, .lcmp, .ifCond .eq 48, .iconst 0, .dreturn]]
theorem tkc_law_7 : tkChk code 12 4 tkP_law (some .boolean) true 42 tkm_law_7 = true := by decide +kernel
def tkm_law_8 : List (List Instr) := [
  [.iinc 3 6, .goto 1],
  [.iconst 1, .dreturn]]
theorem tkc_law_8 : tkChk code 12 4 tkP_law (some .boolean) true 48 tkm_law_8 = true := by decide +kernel
def tkm_law : List (List Instr) := tkm_law_0 ++ (tkm_law_1 ++ (tkm_law_2 ++ (tkm_law_3 ++ (tkm_law_4 ++ (tkm_law_5 ++ (tkm_law_6 ++ (tkm_law_7 ++ (tkm_law_8))))))))
theorem tkc_law : tkChk code 12 4 tkP_law (some .boolean) true 0 tkm_law = true := tkChk_app _ _ _ tkc_law_0 (tkChk_app _ _ _ tkc_law_1 (tkChk_app _ _ _ tkc_law_2 (tkChk_app _ _ _ tkc_law_3 (tkChk_app _ _ _ tkc_law_4 (tkChk_app _ _ _ tkc_law_5 (tkChk_app _ _ _ tkc_law_6 (tkChk_app _ _ _ tkc_law_7 (tkc_law_8))))))))
