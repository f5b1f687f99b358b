/-- TickerHouse$Firms.has(I)Z -/
def tkm_0 : List (List Instr) := [
  [.iload 1, .ifCond .lt 1, .iload 1, .aload 0, .getfield 2, .if_icmp .ge 1, .iconst 1, .goto 2],
  [.iconst 0],
  [.dreturn]]
/-- TickerHouse$Firms.letter(II)I -/
def tkm_1 : List (List Instr) := [
  [.aload 0, .iload 1, .invokeinterface 0 2, .ifCond .eq 1, .iload 2, .ifCond .lt 1, .iload 2, .iconst 4, .if_icmp .ge 1, .aload 0, .getstatic 0, .iload 1, .iconst 4, .imul, .iload 2, .iadd, .iaload, .goto 2],
  [.iconst 0],
  [.ireturn]]
/-- TickerHouse$Firms.found(IIII)I -/
def tkm_2 : List (List Instr) := [
  [.aload 0, .getfield 2, .iconst 4, .imul, .istore 5, .aload 0, .getstatic 0, .iload 5, .iload 1, .iastore, .aload 0, .getstatic 0, .iload 5, .iconst 1, .iadd, .iload 2, .iastore, .aload 0, .getstatic 0, .iload 5, .iconst 2, .iadd, .iload 3, .iastore, .aload 0, .getstatic 0, .iload 5, .iconst 3, .iadd, .iload 4, .iastore, .aload 0, .dup, .getfield 2, .iconst 1, .iadd, .putfield 2, .aload 0, .getfield 2, .iconst 1, .isub, .ireturn]]
/-- TickerHouse$Firms.numberOf(IIII)I -/
def tkm_3 : List (List Instr) := [
  [.iconst 0, .istore 5],
  [.iload 5, .aload 0, .getfield 2, .if_icmp .ge 3, .iload 5, .iconst 4, .imul, .istore 6, .aload 0, .getstatic 0, .iload 6, .iaload, .iload 1, .if_icmp .ne 2, .aload 0, .getstatic 0, .iload 6, .iconst 1, .iadd, .iaload, .iload 2, .if_icmp .ne 2, .aload 0, .getstatic 0, .iload 6, .iconst 2, .iadd, .iaload, .iload 3, .if_icmp .ne 2, .aload 0, .getstatic 0, .iload 6, .iconst 3, .iadd, .iaload, .iload 4, .if_icmp .ne 2, .iload 5, .ireturn],
  [.iinc 5 1, .goto 1],
  [.iconst (-1), .ireturn]]
/-- TickerHouse$Firms.spelled(LTickerHouse$Row;II)I -/
def tkm_4 : List (List Instr) := [
  [.iload 3, .iload 2, .isub, .istore 4, .iload 4, .iconst 1, .if_icmp .lt 1, .iload 4, .iconst 4, .if_icmp .le 2],
  [.iconst (-1), .ireturn],
  [.aload 0, .aload 1, .iload 2, .invokeinterface 85 2, .iload 4, .iconst 1, .if_icmp .le 3, .aload 1, .iload 2, .iconst 1, .iadd, .invokeinterface 85 2, .goto 4],
  [.iconst 0],
  [.iload 4, .iconst 2, .if_icmp .le 5, .aload 1, .iload 2, .iconst 2, .iadd, .invokeinterface 85 2, .goto 6],
  [.iconst 0],
  [.iload 4, .iconst 3, .if_icmp .le 7, .aload 1, .iload 2, .iconst 3, .iadd, .invokeinterface 85 2, .goto 8],
  [.iconst 0],
  [.invokeinterface 3 5, .ireturn]]
/-- TickerHouse$Firms.putCode(ILTickerHouse$Row;)V -/
def tkm_5 : List (List Instr) := [
  [.iconst 0, .istore 3],
  [.iload 3, .iconst 4, .if_icmp .ge 3, .aload 0, .iload 1, .iload 3, .invokeinterface 1 3, .ifCond .eq 2, .aload 2, .aload 0, .iload 1, .iload 3, .invokeinterface 1 3, .invokeinterface 82 2],
  [.iinc 3 1, .goto 1],
  [.return_]]
/-- TickerHouse$Firms.lastHasHundredsOf(II)Z -/
def tkm_6 : List (List Instr) := [
  [.aload 0, .iload 1, .invokeinterface 0 2, .ifCond .eq 1, .aload 0, .getstatic 1, .iload 1, .iaload, .iconst (-1), .if_icmp .eq 1, .aload 0, .getstatic 1, .iload 1, .iaload, .iconst 800, .idiv, .iload 2, .iconst 800, .idiv, .if_icmp .ne 1, .iconst 1, .goto 2],
  [.iconst 0],
  [.dreturn]]
/-- TickerHouse$Firms.mixInto(J)J -/
def tkm_7 : List (List Instr) := [
  [.lload 1, .lstore 3, .iconst 0, .istore 5],
  [.iload 5, .aload 0, .getfield 2, .if_icmp .ge 4, .iconst 0, .istore 6],
  [.iload 6, .iconst 4, .if_icmp .ge 3, .ldc2_w 31, .lload 3, .lmul, .aload 0, .iload 5, .iload 6, .invokeinterface 1 3, .i2l, .ladd, .lstore 3, .iinc 6 1, .goto 2],
  [.ldc2_w 31, .lload 3, .lmul, .aload 0, .getstatic 1, .iload 5, .iaload, .i2l, .ladd, .lstore 3, .iinc 5 1, .goto 1],
  [.lload 3, .lreturn]]
/-- TickerHouse$Grammar.learn(LTickerHouse$Firms;)V -/
def tkm_8 : List (List Instr) := [
  [.aload 0, .getfield 66, .aload 1, .getfield 2, .if_icmp .ne 1, .return_],
  [.aload 0, .aload 1, .getfield 2, .putfield 66, .aload 0, .getstatic 64, .iconst (-1), .invokeinterface 235 2, .aload 0, .iconst 11, .putfield 67, .iconst 0, .istore 2],
  [.iload 2, .aload 1, .getfield 2, .if_icmp .ge 3, .aload 0, .aload 1, .iload 2, .invokeinterface 9 3, .iinc 2 1, .goto 2],
  [.aload 0, .invokeinterface 10 1, .aload 0, .invokeinterface 11 1, .iconst 0, .istore 2],
  [.iload 2, .aload 0, .getfield 67, .if_icmp .ge 5, .aload 0, .getstatic 65, .iload 2, .aload 0, .iload 2, .invokeinterface 13 2, .lastore, .iinc 2 1, .goto 4],
  [.return_]]
/-- TickerHouse$Grammar.learnCode(LTickerHouse$Firms;I)V -/
def tkm_9 : List (List Instr) := [
  [.iconst 0, .istore 3, .iconst 0, .istore 4],
  [.iload 4, .iconst 4, .if_icmp .ge 3, .aload 1, .iload 2, .iload 4, .invokeinterface 1 3, .ifCond .eq 3, .aload 0, .iload 3, .aload 1, .iload 2, .iload 4, .invokeinterface 1 3, .invokeinterface 14 3, .istore 5, .iload 5, .iconst (-1), .if_icmp .ne 2, .aload 0, .getfield 67, .istore 5, .aload 0, .dup, .getfield 67, .iconst 1, .iadd, .putfield 67, .aload 0, .iload 3, .aload 1, .iload 2, .iload 4, .invokeinterface 1 3, .aload 1, .iload 2, .iload 4, .invokeinterface 1 3, .iload 5, .invokeinterface 12 5],
  [.iload 5, .istore 3, .iinc 4 1, .goto 1],
  [.aload 0, .iload 3, .iconst 27, .iconst 36, .iconst 1, .invokeinterface 12 5, .return_]]
/-- TickerHouse$Grammar.learnPrices()V -/
def tkm_10 : List (List Instr) := [
  [.aload 0, .iconst 1, .iconst 27, .iconst 36, .iconst 2, .invokeinterface 12 5, .aload 0, .iconst 2, .iconst 27, .iconst 36, .iconst 3, .invokeinterface 12 5, .aload 0, .iconst 3, .iconst 27, .iconst 36, .iconst 4, .invokeinterface 12 5, .iconst 2, .istore 1],
  [.iload 1, .iconst 4, .if_icmp .gt 2, .aload 0, .iload 1, .iconst 37, .iconst 43, .iconst 5, .invokeinterface 12 5, .iinc 1 1, .goto 1],
  [.iconst 2, .istore 1],
  [.iload 1, .iconst 5, .if_icmp .gt 4, .aload 0, .iload 1, .iconst 44, .iconst 44, .iconst 6, .invokeinterface 12 5, .aload 0, .iload 1, .iconst 0, .iconst 0, .iconst 0, .invokeinterface 12 5, .iinc 1 1, .goto 3],
  [.return_]]
/-- TickerHouse$Grammar.learnShares()V -/
def tkm_11 : List (List Instr) := [
  [.aload 0, .iconst 6, .iconst 28, .iconst 28, .iconst 7, .invokeinterface 12 5, .aload 0, .iconst 6, .iconst 29, .iconst 36, .iconst 8, .invokeinterface 12 5, .aload 0, .iconst 7, .iconst 27, .iconst 36, .iconst 9, .invokeinterface 12 5, .aload 0, .iconst 8, .iconst 27, .iconst 36, .iconst 9, .invokeinterface 12 5, .aload 0, .iconst 9, .iconst 27, .iconst 36, .iconst 10, .invokeinterface 12 5, .iconst 8, .istore 1],
  [.iload 1, .iconst 10, .if_icmp .gt 2, .aload 0, .iload 1, .iconst 0, .iconst 0, .iconst 0, .invokeinterface 12 5, .iinc 1 1, .goto 1],
  [.return_]]
/-- TickerHouse$Grammar.allow(IIII)V -/
def tkm_12 : List (List Instr) := [
  [.iload 2, .istore 5],
  [.iload 5, .iload 3, .if_icmp .gt 2, .aload 0, .getstatic 64, .iload 1, .iconst 55, .imul, .iload 5, .iadd, .iload 4, .iastore, .iinc 5 1, .goto 1],
  [.return_]]
/-- TickerHouse$Grammar.setBehind(I)J -/
def tkm_13 : List (List Instr) := [
  [.ldc2_w 0, .lstore 2, .iconst 0, .istore 4],
  [.iload 4, .iconst 55, .if_icmp .ge 3, .aload 0, .iload 1, .iload 4, .invokeinterface 14 3, .istore 5, .iload 5, .iconst (-1), .if_icmp .eq 2, .lload 2, .ldc2_w 1, .iload 5, .lshl, .lor, .lstore 2],
  [.iinc 4 1, .goto 1],
  [.lload 2, .lreturn]]
/-- TickerHouse$Grammar.after(II)I -/
def tkm_14 : List (List Instr) := [
  [.iload 1, .iconst 0, .iconst 58, .invokeinterface 133 3, .ifCond .ne 1, .iload 2, .iconst 0, .iconst 54, .invokeinterface 133 3, .ifCond .eq 2],
  [.iconst (-1), .ireturn],
  [.aload 0, .getstatic 64, .iload 1, .iconst 55, .imul, .iload 2, .iadd, .iaload, .ireturn]]
/-- TickerHouse$Grammar.ahead(IJ)J -/
def tkm_15 : List (List Instr) := [
  [.ldc2_w 0, .lstore 4, .iconst 0, .istore 6],
  [.iload 6, .aload 0, .getfield 67, .if_icmp .ge 3, .aload 0, .getstatic 64, .iload 6, .iconst 55, .imul, .iload 1, .iadd, .iaload, .istore 7, .iload 7, .iconst (-1), .if_icmp .eq 2, .lload 2, .iload 7, .lushr, .ldc2_w 1, .land, .ldc2_w 0, .lcmp, .ifCond .eq 2, .lload 4, .ldc2_w 1, .iload 6, .lshl, .lor, .lstore 4],
  [.iinc 6 1, .goto 1],
  [.lload 4, .lreturn]]
/-- TickerHouse$Grammar.aheadByAny(J)J -/
def tkm_16 : List (List Instr) := [
  [.ldc2_w 0, .lstore 3, .iconst 0, .istore 5],
  [.iload 5, .aload 0, .getfield 67, .if_icmp .ge 3, .aload 0, .getstatic 65, .iload 5, .laload, .lload 1, .land, .ldc2_w 0, .lcmp, .ifCond .eq 2, .lload 3, .ldc2_w 1, .iload 5, .lshl, .lor, .lstore 3],
  [.iinc 5 1, .goto 1],
  [.lload 3, .lreturn]]
/-- TickerHouse$Line.has(I)Z -/
def tkm_17 : List (List Instr) := [
  [.iload 1, .ifCond .lt 1, .iload 1, .aload 0, .getfield 133, .if_icmp .ge 1, .iconst 1, .goto 2],
  [.iconst 0],
  [.dreturn]]
/-- TickerHouse$Line.hasOrSender(I)Z -/
def tkm_18 : List (List Instr) := [
  [.iload 1, .iconst (-1), .if_icmp .eq 1, .aload 0, .iload 1, .invokeinterface 17 2, .ifCond .eq 2],
  [.iconst 1, .goto 3],
  [.iconst 0],
  [.dreturn]]
/-- TickerHouse$Line.machineOrSender(I)LTickerHouse$Machine; -/
def tkm_19 : List (List Instr) := [
  [.aload 0, .iload 1, .invokeinterface 17 2, .ifCond .eq 1, .aload 0, .getstatic 132, .iload 1, .aaload, .goto 2],
  [.aload 0, .getstatic 131],
  [.areturn]]
/-- TickerHouse$Line.join(III)I -/
def tkm_20 : List (List Instr) := [
  [.aload 0, .getstatic 132, .aload 0, .getfield 133, .aaload, .astore 4, .aload 4, .iload 1, .putfield 192, .aload 4, .iload 2, .putfield 193, .aload 4, .iload 3, .putfield 194, .aload 0, .dup, .getfield 133, .iconst 1, .iadd, .putfield 133, .aload 0, .getfield 133, .iconst 1, .isub, .ireturn]]
/-- TickerHouse$Line.tellSlip(II)I -/
def tkm_21 : List (List Instr) := [
  [.aload 0, .iload 1, .iload 2, .invokeinterface 22 3, .ifCond .ne 1, .aload 0, .getstatic 137, .aload 0, .getfield 136, .iload 1, .iastore, .aload 0, .getstatic 138, .aload 0, .getfield 136, .iload 2, .iastore, .aload 0, .dup, .getfield 136, .iconst 1, .iadd, .putfield 136],
  [.aload 0, .dup, .getfield 135, .iconst 1, .iadd, .putfield 135, .aload 0, .getfield 135, .ireturn]]
/-- TickerHouse$Line.holdsSlip(II)Z -/
def tkm_22 : List (List Instr) := [
  [.iconst 0, .istore 3],
  [.iload 3, .aload 0, .getfield 136, .if_icmp .ge 3, .aload 0, .getstatic 137, .iload 3, .iaload, .iload 1, .if_icmp .ne 2, .aload 0, .getstatic 138, .iload 3, .iaload, .iload 2, .if_icmp .ne 2, .iconst 1, .dreturn],
  [.iinc 3 1, .goto 1],
  [.iconst 0, .dreturn]]
/-- TickerHouse$Line.strengthOver(LTickerHouse$Machine;)I -/
def tkm_23 : List (List Instr) := [
  [.aload 0, .getfield 128, .aload 1, .getfield 192, .aload 0, .getfield 129, .imul, .iconst 100, .idiv, .isub, .aload 0, .getfield 130, .aload 1, .getfield 193, .imul, .isub, .aload 1, .getfield 194, .isub, .ireturn]]
/-- TickerHouse$Line.give(II)V -/
def tkm_24 : List (List Instr) := [
  [.iload 2, .iconst 1, .if_icmp .ge 1, .return_],
  [.aload 0, .iload 2, .invokeinterface 25 2, .aload 0, .getstatic 131, .iload 1, .iload 2, .invokeinterface 37 3, .iconst 0, .istore 3],
  [.iload 3, .aload 0, .getfield 133, .if_icmp .ge 5, .aload 0, .getstatic 132, .iload 3, .aaload, .astore 4, .aload 4, .getfield 195, .ifCond .eq 3, .aload 0, .aload 4, .invokeinterface 23 2, .ifCond .lt 3, .iload 2, .aload 0, .getstatic 139, .iload 3, .iaload, .isub, .goto 4],
  [.iconst 0],
  [.istore 5, .aload 4, .iload 1, .iload 5, .invokeinterface 37 3, .aload 4, .dup, .getfield 200, .iload 2, .iload 5, .isub, .iadd, .putfield 200, .iinc 3 1, .goto 2],
  [.aload 0, .dup, .getfield 134, .iload 2, .iadd, .putfield 134, .return_]]
/-- TickerHouse$Line.countLost(I)V -/
def tkm_25 : List (List Instr) := [
  [.aload 0, .getstatic 139, .iconst 0, .invokeinterface 235 2, .iconst 0, .istore 2],
  [.iload 2, .aload 0, .getfield 136, .if_icmp .ge 3, .aload 0, .getstatic 138, .iload 2, .iaload, .aload 0, .getfield 134, .if_icmp .lt 2, .aload 0, .getstatic 138, .iload 2, .iaload, .aload 0, .getfield 134, .iload 1, .iadd, .if_icmp .ge 2, .aload 0, .getstatic 139, .aload 0, .getstatic 137, .iload 2, .iaload, .dup2, .iaload, .iconst 1, .iadd, .iastore],
  [.iinc 2 1, .goto 1],
  [.return_]]
/-- TickerHouse$Line.carry(I)V -/
def tkm_26 : List (List Instr) := [
  [.iconst 0, .istore 2],
  [.iload 2, .iconst 2, .if_icmp .ge 7, .aload 0, .getstatic 131, .getfield 199, .ifCond .ne 3, .iload 1, .ifCond .eq 2, .iload 1, .invokeinterface 142 1, .aload 0, .getstatic 131, .getfield 197, .if_icmp .eq 2, .aload 0, .iconst 2, .iconst 1, .invokeinterface 24 3],
  [.iload 1, .invokeinterface 143 1, .aload 0, .getstatic 131, .getfield 196, .isub, .iconst 28, .invokeinterface 230 2, .istore 3, .aload 0, .iconst 0, .iload 3, .iconst 56, .aload 0, .getstatic 131, .getfield 198, .isub, .invokeinterface 232 2, .invokeinterface 24 3],
  [.aload 0, .getstatic 131, .getfield 199, .ifCond .ne 4, .iconst 1, .goto 5],
  [.iconst 0],
  [.istore 3, .aload 0, .iconst 1, .iconst 1, .invokeinterface 24 3, .iload 3, .ifCond .eq 6, .return_],
  [.iinc 2 1, .goto 1],
  [.return_]]
/-- TickerHouse$Line.bringTogether()V -/
def tkm_27 : List (List Instr) := [
  [.aload 0, .iconst 0, .iconst 64, .invokeinterface 24 3, .aload 0, .iconst 1, .iconst 1, .invokeinterface 24 3, .return_]]
/-- TickerHouse$Line.carryRow(LTickerHouse$Row;I)V -/
def tkm_28 : List (List Instr) := [
  [.iconst 0, .istore 3],
  [.iload 3, .aload 1, .getfield 513, .if_icmp .ge 3, .aload 0, .aload 1, .iload 3, .invokeinterface 85 2, .invokeinterface 26 2, .iload 2, .ifCond .le 2, .iload 3, .iconst 1, .iadd, .iload 2, .irem, .ifCond .ne 2, .aload 0, .invokeinterface 27 1],
  [.iinc 3 1, .goto 1],
  [.return_]]
/-- TickerHouse$Line.howManyStandAsSender()I -/
def tkm_29 : List (List Instr) := [
  [.iconst 0, .istore 1, .iconst 0, .istore 2],
  [.iload 2, .aload 0, .getfield 133, .if_icmp .ge 3, .aload 0, .getstatic 132, .iload 2, .aaload, .astore 3, .aload 3, .getfield 195, .ifCond .eq 2, .aload 3, .getfield 196, .aload 0, .getstatic 131, .getfield 196, .if_icmp .ne 2, .aload 3, .getfield 197, .aload 0, .getstatic 131, .getfield 197, .if_icmp .ne 2, .iinc 1 1],
  [.iinc 2 1, .goto 1],
  [.iload 1, .ireturn]]
/-- TickerHouse$Line.wrongOnLiving()I -/
def tkm_30 : List (List Instr) := [
  [.iconst 0, .istore 1, .iconst 0, .istore 2],
  [.iload 2, .aload 0, .getfield 133, .if_icmp .ge 3, .aload 0, .getstatic 132, .iload 2, .aaload, .getfield 195, .ifCond .eq 2, .iload 1, .aload 0, .getstatic 132, .iload 2, .aaload, .aload 0, .getstatic 131, .invokeinterface 41 2, .iadd, .istore 1],
  [.iinc 2 1, .goto 1],
  [.iload 1, .ireturn]]
/-- TickerHouse$Line.tearAll()V -/
def tkm_31 : List (List Instr) := [
  [.aload 0, .getstatic 131, .iconst 0, .putfield 202, .iconst 0, .istore 1],
  [.iload 1, .aload 0, .getfield 133, .if_icmp .ge 2, .aload 0, .getstatic 132, .iload 1, .aaload, .iconst 0, .putfield 202, .iinc 1 1, .goto 1],
  [.return_]]
/-- TickerHouse$Line.standAs(LTickerHouse$Line;)V -/
def tkm_32 : List (List Instr) := [
  [.aload 0, .aload 1, .invokeinterface 33 2, .aload 0, .aload 1, .getfield 128, .putfield 128, .aload 0, .aload 1, .getfield 129, .putfield 129, .aload 0, .aload 1, .getfield 130, .putfield 130, .aload 0, .aload 1, .getfield 133, .putfield 133, .iconst 0, .istore 2],
  [.iload 2, .aload 0, .getfield 133, .if_icmp .ge 2, .aload 0, .getstatic 132, .iload 2, .aaload, .aload 1, .getstatic 132, .iload 2, .aaload, .invokeinterface 35 2, .iinc 2 1, .goto 1],
  [.aload 0, .aload 1, .getfield 136, .putfield 136, .aload 1, .getstatic 137, .iconst 0, .aload 0, .getstatic 137, .iconst 0, .aload 0, .getfield 136, .invokeinterface 999 5, .aload 1, .getstatic 138, .iconst 0, .aload 0, .getstatic 138, .iconst 0, .aload 0, .getfield 136, .invokeinterface 999 5, .return_]]
/-- TickerHouse$Line.standAsSenderOf(LTickerHouse$Line;)V -/
def tkm_33 : List (List Instr) := [
  [.aload 0, .getstatic 131, .aload 1, .getstatic 131, .invokeinterface 35 2, .aload 0, .aload 1, .getfield 134, .putfield 134, .aload 0, .iconst 0, .putfield 133, .aload 0, .iconst 0, .putfield 136, .return_]]
/-- TickerHouse$Line.pulsesFromRestTo(LTickerHouse$Row;)I -/
def tkm_34 : List (List Instr) := [
  [.aload 0, .getstatic 131, .invokeinterface 36 1, .aload 0, .iconst 0, .putfield 134, .aload 0, .iconst 0, .putfield 133, .aload 0, .iconst 0, .putfield 136, .aload 0, .aload 1, .iconst 0, .invokeinterface 28 3, .aload 0, .getstatic 131, .getfield 197, .ifCond .ne 1, .aload 0, .getfield 134, .goto 2],
  [.aload 0, .getfield 134, .iconst 1, .iadd],
  [.ireturn]]
/-- TickerHouse$Machine.standAs(LTickerHouse$Machine;)V -/
def tkm_35 : List (List Instr) := [
  [.aload 0, .aload 1, .getfield 192, .putfield 192, .aload 0, .aload 1, .getfield 193, .putfield 193, .aload 0, .aload 1, .getfield 194, .putfield 194, .aload 0, .aload 1, .getfield 195, .putstatic 195, .aload 0, .aload 1, .getfield 196, .putfield 196, .aload 0, .aload 1, .getfield 197, .putfield 197, .aload 0, .aload 1, .getfield 198, .putfield 198, .aload 0, .aload 1, .getfield 199, .putstatic 199, .aload 0, .iconst 0, .putfield 200, .aload 0, .iconst 0, .putfield 202, .return_]]
/-- TickerHouse$Machine.rest()V -/
def tkm_36 : List (List Instr) := [
  [.aload 0, .iconst 0, .putfield 196, .aload 0, .iconst 0, .putfield 197, .aload 0, .iconst 0, .putfield 198, .aload 0, .iconst 0, .putstatic 199, .aload 0, .iconst 0, .putfield 200, .aload 0, .iconst 0, .putfield 202, .return_]]
/-- TickerHouse$Machine.receive(II)V -/
def tkm_37 : List (List Instr) := [
  [.iload 2, .ifCond .gt 1, .return_],
  [.iload 1, .iconst 1, .if_icmp .ne 2, .aload 0, .aload 0, .getfield 197, .aload 0, .getfield 196, .invokeinterface 144 2, .invokeinterface 38 2, .aload 0, .iconst 0, .putfield 198, .aload 0, .iconst 0, .putstatic 199, .goto 7],
  [.aload 0, .getfield 199, .ifCond .eq 3, .return_],
  [.iload 1, .iconst 2, .if_icmp .ne 6, .aload 0, .aload 0, .getfield 197, .ifCond .ne 4, .iconst 1, .goto 5],
  [.iconst 0],
  [.putfield 197, .goto 7],
  [.aload 0, .iload 2, .invokeinterface 39 2],
  [.return_]]
/-- TickerHouse$Machine.keepOnRibbon(I)V -/
def tkm_38 : List (List Instr) := [
  [.aload 0, .getfield 202, .iconst 300, .if_icmp .ge 1, .aload 0, .getstatic 201, .aload 0, .getfield 202, .iload 1, .iastore, .aload 0, .dup, .getfield 202, .iconst 1, .iadd, .putfield 202],
  [.return_]]
/-- TickerHouse$Machine.advance(I)V -/
def tkm_39 : List (List Instr) := [
  [.aload 0, .getfield 198, .iload 1, .iadd, .iconst 56, .if_icmp .lt 1, .aload 0, .iconst 56, .putfield 198, .aload 0, .iconst 1, .putstatic 199, .aload 0, .iconst 0, .putfield 196, .aload 0, .iconst 0, .putfield 197, .goto 2],
  [.aload 0, .dup, .getfield 198, .iload 1, .iadd, .putfield 198, .aload 0, .aload 0, .getfield 196, .iload 1, .iadd, .iconst 28, .irem, .putfield 196],
  [.return_]]
/-- TickerHouse$Machine.printedAt(I)I -/
def tkm_40 : List (List Instr) := [
  [.iload 1, .ifCond .lt 1, .iload 1, .aload 0, .getfield 202, .if_icmp .ge 1, .aload 0, .getstatic 201, .iload 1, .iaload, .goto 2],
  [.iconst (-1)],
  [.ireturn]]
/-- TickerHouse$Machine.wrongAgainst(LTickerHouse$Machine;)I -/
def tkm_41 : List (List Instr) := [
  [.aload 0, .getfield 202, .aload 1, .getfield 202, .invokeinterface 232 2, .istore 2, .aload 0, .getfield 202, .aload 1, .getfield 202, .invokeinterface 231 2, .iload 2, .isub, .istore 3, .iconst 0, .istore 4],
  [.iload 4, .iload 2, .if_icmp .ge 3, .aload 0, .getstatic 201, .iload 4, .iaload, .aload 1, .getstatic 201, .iload 4, .iaload, .if_icmp .eq 2, .iinc 3 1],
  [.iinc 4 1, .goto 1],
  [.iload 3, .ireturn]]
/-- TickerHouse$Machine.tell(I)I -/
def tkm_42 : List (List Instr) := [
  [.iload 1, .tableswitch 12 0 6 #[1, 2, 3, 4, 7, 8, 9]],
  [.aload 0, .getfield 196, .ireturn],
  [.aload 0, .getfield 197, .ireturn],
  [.aload 0, .getfield 198, .ireturn],
  [.aload 0, .getfield 199, .ifCond .eq 5, .iconst 1, .goto 6],
  [.iconst 0],
  [.ireturn],
  [.aload 0, .getfield 202, .ireturn],
  [.aload 0, .getfield 200, .ireturn],
  [.aload 0, .getfield 195, .ifCond .eq 10, .iconst 1, .goto 11],
  [.iconst 0],
  [.ireturn],
  [.iconst (-2), .ireturn]]
/-- TickerHouse$Machine.mixInto(J)J -/
def tkm_43 : List (List Instr) := [
  [.lload 1, .lstore 3, .iconst 0, .istore 5],
  [.iload 5, .iconst 6, .if_icmp .gt 2, .ldc2_w 31, .lload 3, .lmul, .aload 0, .iload 5, .invokeinterface 42 2, .i2l, .ladd, .lstore 3, .iinc 5 1, .goto 1],
  [.iconst 0, .istore 5],
  [.iload 5, .aload 0, .getfield 202, .if_icmp .ge 4, .ldc2_w 31, .lload 3, .lmul, .aload 0, .getstatic 201, .iload 5, .iaload, .i2l, .ladd, .lstore 3, .iinc 5 1, .goto 3],
  [.lload 3, .lreturn]]
/-- TickerHouse$Plan.make(LTickerHouse$Queue;II)V -/
def tkm_44 : List (List Instr) := [
  [.iload 2, .aload 0, .getfield 263, .if_icmp .ne 1, .iload 3, .aload 0, .getfield 264, .if_icmp .ne 1, .aload 1, .getfield 327, .aload 0, .getfield 265, .if_icmp .ne 1, .return_],
  [.aload 0, .iload 2, .putfield 263, .aload 0, .iload 3, .putfield 264, .aload 0, .aload 1, .getfield 327, .putfield 265, .iconst 0, .istore 4],
  [.iload 4, .aload 1, .getfield 326, .if_icmp .ge 3, .aload 0, .getstatic 258, .iload 4, .aload 1, .iload 4, .iload 3, .invokeinterface 54 3, .iastore, .iinc 4 1, .goto 2],
  [.aload 0, .aload 1, .iload 2, .invokeinterface 45 3, .aload 0, .aload 1, .invokeinterface 48 2, .aload 0, .aload 1, .iload 2, .invokeinterface 50 3, .return_]]
/-- TickerHouse$Plan.findBest(LTickerHouse$Queue;I)V -/
def tkm_45 : List (List Instr) := [
  [.iconst 1, .aload 1, .getfield 326, .ishl, .istore 3, .aload 0, .getstatic 256, .iconst 0, .iload 3, .iconst 1000000, .invokeinterface 236 4, .aload 0, .getstatic 256, .iconst 0, .iload 2, .iastore, .aload 0, .iconst 0, .putfield 260, .iconst 0, .istore 4],
  [.iload 4, .iload 3, .if_icmp .ge 4, .aload 0, .getstatic 256, .iload 4, .iaload, .iconst 1000000, .if_icmp .eq 3, .aload 0, .iload 4, .invokeinterface 46 2, .ifCond .eq 2, .aload 0, .iload 4, .putfield 260],
  [.aload 0, .aload 1, .iload 4, .invokeinterface 47 3],
  [.iinc 4 1, .goto 1],
  [.aload 0, .aload 0, .getstatic 256, .aload 0, .getfield 260, .iaload, .putfield 261, .return_]]
/-- TickerHouse$Plan.isBetter(I)Z -/
def tkm_46 : List (List Instr) := [
  [.iload 1, .invokeinterface 229 1, .aload 0, .getfield 260, .invokeinterface 229 1, .isub, .istore 2, .iload 2, .ifCond .gt 1, .iload 2, .ifCond .ne 2, .aload 0, .getstatic 256, .iload 1, .iaload, .aload 0, .getstatic 256, .aload 0, .getfield 260, .iaload, .if_icmp .ge 2],
  [.iconst 1, .goto 3],
  [.iconst 0],
  [.dreturn]]
/-- TickerHouse$Plan.extend(LTickerHouse$Queue;I)V -/
def tkm_47 : List (List Instr) := [
  [.iconst 0, .istore 3],
  [.iload 3, .aload 1, .getfield 326, .if_icmp .ge 3, .iload 2, .iconst 1, .iload 3, .ishl, .ior, .istore 4, .iload 4, .iload 2, .if_icmp .eq 2, .aload 0, .getstatic 256, .iload 2, .iaload, .aload 1, .getstatic 320, .iload 3, .iaload, .invokeinterface 231 2, .aload 0, .getstatic 258, .iload 3, .iaload, .iadd, .istore 5, .iload 5, .aload 1, .getstatic 321, .iload 3, .iaload, .if_icmp .gt 2, .iload 5, .aload 0, .getstatic 256, .iload 4, .iaload, .if_icmp .ge 2, .aload 0, .getstatic 256, .iload 4, .iload 5, .iastore],
  [.iinc 3 1, .goto 1],
  [.return_]]
/-- TickerHouse$Plan.findLatest(LTickerHouse$Queue;)V -/
def tkm_48 : List (List Instr) := [
  [.aload 0, .getstatic 257, .iconst 0, .aload 0, .getfield 261, .iastore, .iconst 1, .istore 2],
  [.iload 2, .aload 0, .getfield 260, .if_icmp .gt 3, .iload 2, .aload 0, .getfield 260, .iconst (-1), .ixor, .iand, .ifCond .ne 2, .aload 0, .getstatic 257, .iload 2, .aload 0, .aload 1, .iload 2, .invokeinterface 49 3, .iastore],
  [.iinc 2 1, .goto 1],
  [.return_]]
/-- TickerHouse$Plan.latestStart(LTickerHouse$Queue;I)I -/
def tkm_49 : List (List Instr) := [
  [.iconst (-1), .istore 3, .iconst 0, .istore 4],
  [.iload 4, .aload 1, .getfield 326, .if_icmp .ge 3, .iload 2, .iconst 1, .iload 4, .ishl, .iconst (-1), .ixor, .iand, .istore 5, .iload 5, .iload 2, .if_icmp .eq 2, .aload 0, .getstatic 257, .iload 5, .iaload, .iconst (-1), .if_icmp .eq 2, .aload 0, .getstatic 257, .iload 5, .iaload, .aload 1, .getstatic 321, .iload 4, .iaload, .invokeinterface 232 2, .aload 0, .getstatic 258, .iload 4, .iaload, .isub, .istore 6, .iload 6, .aload 1, .getstatic 320, .iload 4, .iaload, .if_icmp .lt 2, .iload 6, .iload 3, .if_icmp .le 2, .iload 6, .istore 3],
  [.iinc 4 1, .goto 1],
  [.iload 3, .ireturn]]
/-- TickerHouse$Plan.findOrder(LTickerHouse$Queue;I)V -/
def tkm_50 : List (List Instr) := [
  [.iload 2, .istore 3, .aload 0, .getfield 260, .istore 4, .aload 0, .iconst 0, .putfield 262, .iconst 0, .istore 5],
  [.iload 5, .iconst 12, .if_icmp .ge 3, .iload 4, .ifCond .eq 3, .aload 0, .aload 1, .iload 4, .iload 3, .invokeinterface 51 4, .istore 6, .iload 6, .iconst (-1), .if_icmp .ne 2, .return_],
  [.iload 3, .aload 1, .getstatic 320, .iload 6, .iaload, .invokeinterface 231 2, .aload 0, .getstatic 258, .iload 6, .iaload, .iadd, .istore 3, .iload 4, .iconst 1, .iload 6, .ishl, .iconst (-1), .ixor, .iand, .istore 4, .aload 0, .getstatic 259, .aload 0, .getfield 262, .iload 6, .iastore, .aload 0, .dup, .getfield 262, .iconst 1, .iadd, .putfield 262, .iinc 5 1, .goto 1],
  [.return_]]
/-- TickerHouse$Plan.firstThatFits(LTickerHouse$Queue;II)I -/
def tkm_51 : List (List Instr) := [
  [.iconst 0, .istore 4],
  [.iload 4, .aload 1, .getfield 326, .if_icmp .ge 3, .iload 2, .iconst 1, .iload 4, .ishl, .iconst (-1), .ixor, .iand, .istore 5, .iload 5, .iload 2, .if_icmp .eq 2, .iload 3, .aload 1, .getstatic 320, .iload 4, .iaload, .invokeinterface 231 2, .aload 0, .getstatic 258, .iload 4, .iaload, .iadd, .istore 6, .iload 6, .aload 1, .getstatic 321, .iload 4, .iaload, .if_icmp .gt 2, .iload 6, .aload 0, .getstatic 257, .iload 5, .iaload, .if_icmp .gt 2, .iload 4, .ireturn],
  [.iinc 4 1, .goto 1],
  [.iconst (-1), .ireturn]]
/-- TickerHouse$Queue.append(IIIIII)I -/
def tkm_52 : List (List Instr) := [
  [.aload 0, .getfield 326, .iconst 12, .if_icmp .lt 1, .iconst (-4), .ireturn],
  [.aload 0, .getstatic 320, .aload 0, .getfield 326, .iload 1, .iastore, .aload 0, .getstatic 321, .aload 0, .getfield 326, .iload 2, .iastore, .aload 0, .getstatic 325, .aload 0, .getfield 326, .iload 6, .iastore, .aload 0, .getstatic 322, .aload 0, .getfield 326, .iload 3, .iastore, .aload 0, .getstatic 323, .aload 0, .getfield 326, .iload 4, .iastore, .aload 0, .getstatic 324, .aload 0, .getfield 326, .iload 5, .iastore, .aload 0, .dup, .getfield 326, .iconst 1, .iadd, .putfield 326, .aload 0, .dup, .getfield 327, .iconst 1, .iadd, .putfield 327, .aload 0, .getfield 326, .iconst 1, .isub, .ireturn]]
/-- TickerHouse$Queue.makeEmpty()V -/
def tkm_53 : List (List Instr) := [
  [.aload 0, .iconst 0, .putfield 326, .aload 0, .dup, .getfield 327, .iconst 1, .iadd, .putfield 327, .return_]]
/-- TickerHouse$Queue.duration(II)I -/
def tkm_54 : List (List Instr) := [
  [.iload 2, .iconst 10, .imul, .istore 3, .iload 1, .ifCond .lt 1, .iload 1, .aload 0, .getfield 326, .if_icmp .ge 1, .iload 3, .iconst 1, .if_icmp .ge 2],
  [.iconst 0, .ireturn],
  [.aload 0, .getstatic 325, .iload 1, .iaload, .iload 3, .iadd, .iconst 1, .isub, .iload 3, .idiv, .ireturn]]
/-- TickerHouse$Queue.mixInto(J)J -/
def tkm_55 : List (List Instr) := [
  [.lload 1, .lstore 3, .iconst 0, .istore 5],
  [.iload 5, .aload 0, .getfield 326, .if_icmp .ge 2, .ldc2_w 31, .lload 3, .lmul, .aload 0, .getstatic 320, .iload 5, .iaload, .i2l, .ladd, .lstore 3, .ldc2_w 31, .lload 3, .lmul, .aload 0, .getstatic 321, .iload 5, .iaload, .i2l, .ladd, .lstore 3, .ldc2_w 31, .lload 3, .lmul, .aload 0, .getstatic 322, .iload 5, .iaload, .i2l, .ladd, .lstore 3, .ldc2_w 31, .lload 3, .lmul, .aload 0, .getstatic 323, .iload 5, .iaload, .i2l, .ladd, .lstore 3, .ldc2_w 31, .lload 3, .lmul, .aload 0, .getstatic 324, .iload 5, .iaload, .i2l, .ladd, .lstore 3, .iinc 5 1, .goto 1],
  [.lload 3, .lreturn]]
/-- TickerHouse$Reading.readRow(LTickerHouse$Row;LTickerHouse$Firms;)V -/
def tkm_56 : List (List Instr) := [
  [.aload 2, .getstatic 1, .iconst 0, .aload 0, .getstatic 387, .iconst 0, .iconst 12, .invokeinterface 999 5, .aload 0, .iconst 0, .putfield 388, .aload 0, .iconst 0, .putfield 391, .aload 0, .iconst (-1), .putfield 389, .aload 0, .iconst (-1), .putfield 390, .iconst 0, .istore 3],
  [.iload 3, .iconst 40, .if_icmp .ge 4, .aload 0, .aload 1, .invokeinterface 57 2, .aload 0, .getfield 391, .aload 1, .getfield 513, .if_icmp .ge 2, .aload 0, .aload 1, .aload 2, .invokeinterface 58 3, .ifCond .ne 3],
  [.return_],
  [.iinc 3 1, .goto 1],
  [.return_]]
/-- TickerHouse$Reading.passBlanks(LTickerHouse$Row;)V -/
def tkm_57 : List (List Instr) := [
  [.aload 0, .getfield 391, .aload 1, .getfield 513, .if_icmp .ge 1, .aload 1, .aload 0, .getfield 391, .invokeinterface 85 2, .ifCond .ne 1, .aload 0, .dup, .getfield 391, .iconst 1, .iadd, .putfield 391, .goto 0],
  [.return_]]
/-- TickerHouse$Reading.readQuote(LTickerHouse$Row;LTickerHouse$Firms;)Z -/
def tkm_58 : List (List Instr) := [
  [.aload 0, .aload 1, .aload 2, .invokeinterface 59 3, .istore 3, .iload 3, .iconst (-1), .if_icmp .ne 1, .iconst 0, .dreturn],
  [.aload 0, .aload 1, .iload 3, .invokeinterface 60 3, .istore 4, .iload 4, .iconst (-1), .if_icmp .ne 2, .iconst 0, .dreturn],
  [.iconst 0, .istore 5, .aload 1, .aload 0, .getfield 391, .invokeinterface 85 2, .invokeinterface 141 1, .ifCond .eq 3, .aload 1, .aload 0, .getfield 391, .invokeinterface 85 2, .iconst 37, .isub, .iconst 1, .iadd, .istore 5, .aload 0, .dup, .getfield 391, .iconst 1, .iadd, .putfield 391],
  [.aload 1, .aload 0, .getfield 391, .invokeinterface 85 2, .iconst 44, .if_icmp .ne 4, .aload 0, .aload 1, .invokeinterface 61 2, .goto 5],
  [.iconst 1],
  [.istore 6, .iload 6, .iconst (-1), .if_icmp .ne 6, .iconst 0, .dreturn],
  [.aload 1, .aload 0, .getfield 391, .invokeinterface 85 2, .ifCond .eq 7, .aload 0, .aload 1, .invokeinterface 62 2, .pop, .iconst 0, .dreturn],
  [.aload 0, .dup, .getfield 391, .iconst 1, .iadd, .putfield 391, .aload 0, .iload 3, .iload 4, .iconst 8, .imul, .iload 5, .iadd, .iload 6, .invokeinterface 64 4, .iconst 1, .dreturn]]
/-- TickerHouse$Reading.readCode(LTickerHouse$Row;LTickerHouse$Firms;)I -/
def tkm_59 : List (List Instr) := [
  [.aload 0, .getfield 391, .istore 3],
  [.aload 0, .getfield 391, .aload 1, .getfield 513, .if_icmp .ge 2, .aload 1, .aload 0, .getfield 391, .invokeinterface 85 2, .invokeinterface 139 1, .ifCond .eq 2, .aload 0, .dup, .getfield 391, .iconst 1, .iadd, .putfield 391, .goto 1],
  [.aload 0, .getfield 391, .iload 3, .if_icmp .ne 3, .aload 0, .aload 1, .invokeinterface 62 2, .ireturn],
  [.aload 2, .aload 1, .iload 3, .aload 0, .getfield 391, .invokeinterface 4 4, .istore 4, .iload 4, .iconst (-1), .if_icmp .ne 4, .aload 0, .aload 0, .getfield 391, .iconst 2, .invokeinterface 63 3, .goto 5],
  [.iload 4],
  [.ireturn]]
/-- TickerHouse$Reading.readDollars(LTickerHouse$Row;I)I -/
def tkm_60 : List (List Instr) := [
  [.aload 0, .getfield 391, .istore 3, .aload 1, .iload 3, .iconst 4, .invokeinterface 86 3, .istore 4, .aload 0, .dup, .getfield 391, .iload 4, .iadd, .putfield 391, .iload 4, .iconst 2, .if_icmp .ge 1, .aload 0, .aload 1, .invokeinterface 62 2, .ireturn],
  [.aload 1, .iload 3, .iload 4, .invokeinterface 87 3, .istore 5, .iload 4, .iconst 2, .if_icmp .le 2, .iload 5, .ireturn],
  [.aload 0, .getstatic 387, .iload 2, .iaload, .iconst (-1), .if_icmp .ne 3, .aload 0, .iload 3, .iconst 3, .invokeinterface 63 3, .ireturn],
  [.aload 0, .getstatic 387, .iload 2, .iaload, .iconst 800, .idiv, .iconst 100, .imul, .iload 5, .iadd, .ireturn]]
/-- TickerHouse$Reading.readShares(LTickerHouse$Row;)I -/
def tkm_61 : List (List Instr) := [
  [.aload 0, .dup, .getfield 391, .iconst 1, .iadd, .putfield 391, .aload 1, .aload 0, .getfield 391, .invokeinterface 85 2, .iconst 27, .if_icmp .ne 1, .aload 0, .aload 1, .invokeinterface 62 2, .ireturn],
  [.aload 1, .aload 0, .getfield 391, .iconst 3, .invokeinterface 86 3, .istore 2, .aload 1, .aload 0, .getfield 391, .iload 2, .invokeinterface 87 3, .istore 3, .aload 0, .dup, .getfield 391, .iload 2, .iadd, .putfield 391, .iload 3, .iconst 2, .if_icmp .ge 2, .aload 0, .aload 1, .invokeinterface 62 2, .goto 3],
  [.iload 3],
  [.ireturn]]
/-- TickerHouse$Reading.faultHere(LTickerHouse$Row;)I -/
def tkm_62 : List (List Instr) := [
  [.aload 0, .aload 0, .getfield 391, .aload 0, .getfield 391, .aload 1, .getfield 513, .if_icmp .ge 1, .iconst 1, .goto 2],
  [.iconst 4],
  [.invokeinterface 63 3, .ireturn]]
/-- TickerHouse$Reading.fault(II)I -/
def tkm_63 : List (List Instr) := [
  [.aload 0, .iload 1, .putfield 389, .aload 0, .iload 2, .putfield 390, .iconst (-1), .ireturn]]
/-- TickerHouse$Reading.keep(III)V -/
def tkm_64 : List (List Instr) := [
  [.aload 0, .getfield 388, .iconst 40, .if_icmp .ge 1, .aload 0, .getstatic 384, .aload 0, .getfield 388, .iload 1, .iastore, .aload 0, .getstatic 385, .aload 0, .getfield 388, .iload 2, .iastore, .aload 0, .getstatic 386, .aload 0, .getfield 388, .iload 3, .iastore, .aload 0, .dup, .getfield 388, .iconst 1, .iadd, .putfield 388, .aload 0, .getstatic 387, .iload 1, .iload 2, .iastore],
  [.return_]]
/-- TickerHouse$Repair.seek(LTickerHouse$Row;LTickerHouse$Firms;)V -/
def tkm_65 : List (List Instr) := [
  [.aload 1, .getfield 514, .aload 0, .getfield 457, .if_icmp .ne 1, .aload 2, .getfield 2, .aload 0, .getfield 458, .if_icmp .ne 1, .return_],
  [.aload 0, .aload 1, .getfield 514, .putfield 457, .aload 0, .aload 2, .getfield 2, .putfield 458, .aload 0, .getstatic 450, .aload 2, .invokeinterface 8 2, .aload 0, .getstatic 448, .invokeinterface 84 1, .aload 0, .iconst (-1), .putfield 449, .aload 1, .getfield 513, .ifCond .le 2, .aload 1, .getfield 513, .iconst 40, .if_icmp .gt 2, .aload 0, .aload 1, .getfield 513, .iconst 14, .imul, .putfield 456, .aload 0, .aload 1, .invokeinterface 66 2, .aload 0, .invokeinterface 68 1, .aload 0, .aload 0, .invokeinterface 71 1, .putfield 449],
  [.aload 0, .getfield 449, .iconst (-1), .if_icmp .eq 3, .aload 0, .invokeinterface 73 1],
  [.return_]]
/-- TickerHouse$Repair.findMeant(LTickerHouse$Row;)V -/
def tkm_66 : List (List Instr) := [
  [.iconst 0, .istore 2],
  [.iload 2, .aload 0, .getfield 456, .if_icmp .ge 6, .aload 1, .iload 2, .iconst 14, .idiv, .invokeinterface 85 2, .istore 3, .iload 2, .iconst 2, .irem, .ifCond .ne 2, .iload 3, .invokeinterface 142 1, .goto 3],
  [.iconst 1, .iload 3, .invokeinterface 142 1, .isub],
  [.istore 4, .iload 3, .invokeinterface 143 1, .iload 2, .invokeinterface 67 1, .iadd, .iconst 28, .irem, .istore 5, .aload 0, .getstatic 451, .iload 2, .iload 4, .iload 5, .invokeinterface 144 2, .iastore, .aload 0, .getstatic 452, .iload 2, .iload 3, .ifCond .ne 4, .iconst 1, .iload 4, .isub, .iload 5, .invokeinterface 144 2, .goto 5],
  [.aload 0, .getstatic 451, .iload 2, .iaload],
  [.iastore, .iinc 2 1, .goto 1],
  [.return_]]
/-- TickerHouse$Repair.lostSteps(I)I -/
def tkm_67 : List (List Instr) := [
  [.iload 0, .iconst 14, .irem, .iconst 2, .idiv, .ireturn]]
/-- TickerHouse$Repair.findEndable()V -/
def tkm_68 : List (List Instr) := [
  [.iconst 0, .istore 1],
  [.iload 1, .iconst 6, .if_icmp .gt 7, .iload 1, .iconst 574, .imul, .istore 2, .aload 0, .getstatic 453, .iload 2, .aload 0, .getfield 456, .iadd, .iload 2, .aload 0, .getfield 456, .iadd, .iconst 14, .iadd, .ldc2_w 1, .invokeinterface 234 4, .aload 0, .getfield 456, .iconst 1, .isub, .istore 3],
  [.iload 3, .ifCond .lt 6, .iload 3, .invokeinterface 67 1, .iload 1, .iadd, .iconst 6, .if_icmp .gt 5, .aload 0, .iload 2, .iload 3, .iadd, .iload 3, .invokeinterface 69 3, .lstore 4, .aload 0, .getstatic 453, .iload 2, .iload 3, .iadd, .iload 1, .ifCond .ne 3, .lload 4, .goto 4],
  [.lload 4, .aload 0, .iload 2, .iconst 574, .isub, .iload 3, .iadd, .invokeinterface 70 2, .lor],
  [.lastore],
  [.iinc 3 (-1), .goto 2],
  [.iinc 1 1, .goto 1],
  [.return_]]
/-- TickerHouse$Repair.printedHere(II)J -/
def tkm_69 : List (List Instr) := [
  [.aload 0, .getstatic 453, .iload 1, .iconst 14, .iadd, .laload, .lstore 3, .lload 3, .ldc2_w 0, .lcmp, .ifCond .ne 1, .ldc2_w 0, .lreturn],
  [.aload 0, .getstatic 450, .aload 0, .getstatic 451, .iload 2, .iaload, .lload 3, .invokeinterface 15 3, .lstore 5, .aload 0, .getstatic 452, .iload 2, .iaload, .aload 0, .getstatic 451, .iload 2, .iaload, .if_icmp .ne 2, .lload 5, .goto 3],
  [.lload 5, .aload 0, .getstatic 450, .aload 0, .getstatic 452, .iload 2, .iaload, .lload 3, .invokeinterface 15 3, .lor],
  [.lreturn]]
/-- TickerHouse$Repair.lostHere(I)J -/
def tkm_70 : List (List Instr) := [
  [.aload 0, .getstatic 453, .iload 1, .iconst 1, .ixor, .laload, .aload 0, .getstatic 453, .iload 1, .iconst 2, .iadd, .laload, .lor, .aload 0, .getstatic 450, .aload 0, .getstatic 453, .iload 1, .laload, .invokeinterface 16 2, .lor, .lreturn]]
/-- TickerHouse$Repair.fewestSlips()I -/
def tkm_71 : List (List Instr) := [
  [.iconst 0, .istore 1],
  [.iload 1, .iconst 6, .if_icmp .gt 3, .aload 0, .iconst 0, .iconst 0, .iload 1, .invokeinterface 72 4, .ifCond .eq 2, .iload 1, .ireturn],
  [.iinc 1 1, .goto 1],
  [.iconst (-1), .ireturn]]
/-- TickerHouse$Repair.canEnd(III)Z -/
def tkm_72 : List (List Instr) := [
  [.iload 3, .ifCond .lt 1, .iload 3, .iconst 6, .if_icmp .gt 1, .iload 2, .ifCond .lt 1, .iload 2, .iconst 574, .if_icmp .lt 2],
  [.iconst 0, .dreturn],
  [.aload 0, .getstatic 453, .iload 3, .iconst 574, .imul, .iload 2, .iadd, .laload, .iload 1, .lushr, .ldc2_w 1, .land, .ldc2_w 0, .lcmp, .ifCond .eq 3, .iconst 1, .goto 4],
  [.iconst 0],
  [.dreturn]]
/-- TickerHouse$Repair.spell()V -/
def tkm_73 : List (List Instr) := [
  [.iconst 0, .istore 1, .aload 0, .getstatic 454, .iconst (-1), .invokeinterface 235 2, .aload 0, .getstatic 454, .iconst 0, .aload 0, .getfield 449, .iastore, .iconst 0, .istore 2],
  [.iload 2, .iconst 46, .if_icmp .ge 5, .aload 0, .iload 1, .invokeinterface 74 2, .aload 0, .invokeinterface 76 1, .ifCond .eq 2, .iconst (-1), .goto 3],
  [.aload 0, .iload 1, .invokeinterface 77 2],
  [.istore 3, .iload 3, .iconst (-1), .if_icmp .ne 4, .return_],
  [.aload 0, .getstatic 450, .iload 1, .iload 3, .invokeinterface 14 3, .istore 1, .aload 0, .iload 3, .iload 1, .invokeinterface 80 3, .aload 0, .getstatic 448, .iload 3, .invokeinterface 82 2, .iinc 2 1, .goto 1],
  [.return_]]
/-- TickerHouse$Repair.loseStepsAndShifts(I)V -/
def tkm_74 : List (List Instr) := [
  [.aload 0, .getfield 449, .istore 2],
  [.iload 2, .ifCond .le 5, .iconst 0, .istore 3],
  [.iload 3, .aload 0, .getfield 456, .if_icmp .ge 4, .aload 0, .getstatic 454, .iload 3, .iaload, .iload 2, .if_icmp .ne 3, .aload 0, .iload 3, .iconst 1, .ixor, .iload 2, .iconst 1, .isub, .iload 1, .invokeinterface 75 4, .iload 3, .invokeinterface 67 1, .iconst 6, .if_icmp .ge 3, .aload 0, .iload 3, .iconst 2, .iadd, .iload 2, .iconst 1, .isub, .iload 1, .invokeinterface 75 4],
  [.iinc 3 1, .goto 2],
  [.iinc 2 (-1), .goto 1],
  [.return_]]
/-- TickerHouse$Repair.reach(III)V -/
def tkm_75 : List (List Instr) := [
  [.iload 2, .aload 0, .getstatic 454, .iload 1, .iaload, .if_icmp .le 1, .aload 0, .iload 3, .iload 1, .iload 2, .invokeinterface 72 4, .ifCond .eq 1, .aload 0, .getstatic 454, .iload 1, .iload 2, .iastore],
  [.return_]]
/-- TickerHouse$Repair.isEnded()Z -/
def tkm_76 : List (List Instr) := [
  [.iconst 0, .istore 1],
  [.iload 1, .iconst 14, .if_icmp .ge 3, .aload 0, .getstatic 454, .aload 0, .getfield 456, .iload 1, .iadd, .iaload, .iconst (-1), .if_icmp .eq 2, .iconst 1, .dreturn],
  [.iinc 1 1, .goto 1],
  [.iconst 0, .dreturn]]
/-- TickerHouse$Repair.leastSign(I)I -/
def tkm_77 : List (List Instr) := [
  [.iconst 0, .istore 2],
  [.iload 2, .iconst 55, .if_icmp .ge 3, .aload 0, .getstatic 450, .iload 1, .iload 2, .invokeinterface 14 3, .istore 3, .iload 3, .iconst (-1), .if_icmp .eq 2, .aload 0, .iload 2, .iload 3, .invokeinterface 78 3, .ifCond .eq 2, .iload 2, .ireturn],
  [.iinc 2 1, .goto 1],
  [.iconst (-1), .ireturn]]
/-- TickerHouse$Repair.isNext(II)Z -/
def tkm_78 : List (List Instr) := [
  [.iconst 0, .istore 3],
  [.iload 3, .aload 0, .getfield 456, .if_icmp .ge 4, .aload 0, .getstatic 454, .iload 3, .iaload, .iconst (-1), .if_icmp .eq 3, .aload 0, .iload 3, .iload 1, .iload 2, .invokeinterface 79 4, .ifCond .ne 2, .aload 0, .iload 2, .iload 3, .aload 0, .getstatic 454, .iload 3, .iaload, .iconst 1, .isub, .invokeinterface 72 4, .ifCond .eq 3],
  [.iconst 1, .dreturn],
  [.iinc 3 1, .goto 1],
  [.iconst 0, .dreturn]]
/-- TickerHouse$Repair.canPrint(III)Z -/
def tkm_79 : List (List Instr) := [
  [.aload 0, .getstatic 451, .iload 1, .iaload, .iload 2, .if_icmp .eq 1, .aload 0, .getstatic 452, .iload 1, .iaload, .iload 2, .if_icmp .ne 2],
  [.aload 0, .iload 3, .iload 1, .iconst 14, .iadd, .aload 0, .getstatic 454, .iload 1, .iaload, .invokeinterface 72 4, .ifCond .eq 2, .iconst 1, .goto 3],
  [.iconst 0],
  [.dreturn]]
/-- TickerHouse$Repair.moveOn(II)V -/
def tkm_80 : List (List Instr) := [
  [.aload 0, .getstatic 455, .iconst (-1), .invokeinterface 235 2, .iconst 0, .istore 3],
  [.iload 3, .aload 0, .getfield 456, .if_icmp .ge 4, .aload 0, .getstatic 454, .iload 3, .iaload, .istore 4, .iload 4, .iconst (-1), .if_icmp .eq 2, .aload 0, .iload 3, .iload 1, .iload 2, .invokeinterface 79 4, .ifCond .eq 2, .aload 0, .getstatic 455, .iload 3, .iconst 14, .iadd, .aload 0, .getstatic 455, .iload 3, .iconst 14, .iadd, .iaload, .iload 4, .invokeinterface 231 2, .iastore],
  [.iload 4, .iconst (-1), .if_icmp .eq 3, .aload 0, .iload 2, .iload 3, .iload 4, .iconst 1, .isub, .invokeinterface 72 4, .ifCond .eq 3, .aload 0, .getstatic 455, .iload 3, .aload 0, .getstatic 455, .iload 3, .iaload, .iload 4, .iconst 1, .isub, .invokeinterface 231 2, .iastore],
  [.iinc 3 1, .goto 1],
  [.aload 0, .getstatic 455, .iconst 0, .aload 0, .getstatic 454, .iconst 0, .iconst 574, .invokeinterface 999 5, .return_]]
/-- TickerHouse$Row.hasRoomFor(I)Z -/
def tkm_81 : List (List Instr) := [
  [.iload 1, .aload 0, .getstatic 512, .arraylength, .aload 0, .getfield 513, .isub, .if_icmp .gt 1, .iconst 1, .goto 2],
  [.iconst 0],
  [.dreturn]]
/-- TickerHouse$Row.put(I)V -/
def tkm_82 : List (List Instr) := [
  [.aload 0, .iconst 1, .invokeinterface 81 2, .ifCond .eq 1, .aload 0, .getstatic 512, .aload 0, .getfield 513, .iload 1, .iastore, .aload 0, .dup, .getfield 513, .iconst 1, .iadd, .putfield 513, .aload 0, .dup, .getfield 514, .iconst 1, .iadd, .putfield 514],
  [.return_]]
/-- TickerHouse$Row.putNumber(II)V -/
def tkm_83 : List (List Instr) := [
  [.iconst 1, .istore 3, .iconst 1, .istore 4],
  [.iload 4, .iload 2, .if_icmp .ge 2, .iload 3, .iconst 10, .imul, .istore 3, .iinc 4 1, .goto 1],
  [.iconst 0, .istore 4],
  [.iload 4, .iload 2, .if_icmp .ge 4, .iload 3, .ifCond .le 4, .aload 0, .iconst 27, .iload 1, .iload 3, .idiv, .iconst 10, .irem, .iadd, .invokeinterface 82 2, .iload 3, .iconst 10, .idiv, .istore 3, .iinc 4 1, .goto 3],
  [.return_]]
/-- TickerHouse$Row.makeEmpty()V -/
def tkm_84 : List (List Instr) := [
  [.aload 0, .iconst 0, .putfield 513, .aload 0, .dup, .getfield 514, .iconst 1, .iadd, .putfield 514, .return_]]
/-- TickerHouse$Row.at(I)I -/
def tkm_85 : List (List Instr) := [
  [.iload 1, .ifCond .lt 1, .iload 1, .aload 0, .getfield 513, .if_icmp .ge 1, .aload 0, .getstatic 512, .iload 1, .iaload, .goto 2],
  [.iconst (-1)],
  [.ireturn]]
/-- TickerHouse$Row.digitsFrom(II)I -/
def tkm_86 : List (List Instr) := [
  [.iconst 0, .istore 3],
  [.iload 3, .iload 2, .if_icmp .ge 2, .aload 0, .iload 1, .iload 3, .iadd, .invokeinterface 85 2, .invokeinterface 140 1, .ifCond .eq 2, .iinc 3 1, .goto 1],
  [.iload 3, .ireturn]]
/-- TickerHouse$Row.numberAt(II)I -/
def tkm_87 : List (List Instr) := [
  [.iconst 0, .istore 3, .iconst 0, .istore 4],
  [.iload 4, .iload 2, .if_icmp .ge 2, .iload 3, .iconst 10, .imul, .aload 0, .iload 1, .iload 4, .iadd, .invokeinterface 85 2, .iadd, .iconst 27, .isub, .istore 3, .iinc 4 1, .goto 1],
  [.iload 3, .ireturn]]
/-- TickerHouse$Row.mixInto(J)J -/
def tkm_88 : List (List Instr) := [
  [.lload 1, .lstore 3, .iconst 0, .istore 5],
  [.iload 5, .aload 0, .getfield 513, .if_icmp .ge 2, .ldc2_w 31, .lload 3, .lmul, .aload 0, .getstatic 512, .iload 5, .iaload, .i2l, .ladd, .lstore 3, .iinc 5 1, .goto 1],
  [.lload 3, .lreturn]]
/-- TickerHouse$Tape.run(LTickerHouse$Queue;I)V -/
def tkm_89 : List (List Instr) := [
  [.aload 0, .aload 1, .invokeinterface 90 2, .iconst 0, .istore 3, .iconst 0, .istore 4],
  [.iload 4, .aload 1, .getfield 326, .if_icmp .ge 2, .aload 0, .getstatic 576, .iload 4, .iaload, .istore 5, .aload 0, .getstatic 577, .iload 5, .iload 3, .aload 1, .getstatic 320, .iload 5, .iaload, .invokeinterface 231 2, .iastore, .aload 0, .getstatic 578, .iload 5, .aload 0, .getstatic 577, .iload 5, .iaload, .aload 1, .iload 5, .iload 2, .invokeinterface 54 3, .iadd, .iastore, .aload 0, .getstatic 578, .iload 5, .iaload, .istore 3, .iinc 4 1, .goto 1],
  [.return_]]
/-- TickerHouse$Tape.sortByComing(LTickerHouse$Queue;)V -/
def tkm_90 : List (List Instr) := [
  [.iconst 0, .istore 2],
  [.iload 2, .aload 1, .getfield 326, .if_icmp .ge 4, .iload 2, .istore 3],
  [.iload 3, .ifCond .le 3, .aload 1, .getstatic 320, .aload 0, .getstatic 576, .iload 3, .iconst 1, .isub, .iaload, .iaload, .aload 1, .getstatic 320, .iload 2, .iaload, .if_icmp .le 3, .aload 0, .getstatic 576, .iload 3, .aload 0, .getstatic 576, .iload 3, .iconst 1, .isub, .iaload, .iastore, .iinc 3 (-1), .goto 2],
  [.aload 0, .getstatic 576, .iload 3, .iload 2, .iastore, .iinc 2 1, .goto 1],
  [.return_]]
/-- TickerHouse$Tape.beingToldAt(LTickerHouse$Queue;I)I -/
def tkm_91 : List (List Instr) := [
  [.iconst 0, .istore 3],
  [.iload 3, .aload 1, .getfield 326, .if_icmp .ge 3, .aload 0, .getstatic 577, .iload 3, .iaload, .iload 2, .if_icmp .gt 2, .iload 2, .aload 0, .getstatic 578, .iload 3, .iaload, .if_icmp .ge 2, .iload 3, .ireturn],
  [.iinc 3 1, .goto 1],
  [.iconst (-1), .ireturn]]
/-- TickerHouse$Tape.waitingAt(LTickerHouse$Queue;I)I -/
def tkm_92 : List (List Instr) := [
  [.iconst 0, .istore 3, .iconst 0, .istore 4],
  [.iload 4, .aload 1, .getfield 326, .if_icmp .ge 3, .aload 1, .getstatic 320, .iload 4, .iaload, .iload 2, .if_icmp .gt 2, .aload 0, .getstatic 577, .iload 4, .iaload, .iload 2, .if_icmp .le 2, .iinc 3 1],
  [.iinc 4 1, .goto 1],
  [.iload 3, .ireturn]]
/-- TickerHouse$Tape.priceTold(LTickerHouse$Queue;II)I -/
def tkm_93 : List (List Instr) := [
  [.iconst (-1), .istore 4, .iconst 0, .istore 5],
  [.iload 5, .aload 1, .getfield 326, .if_icmp .ge 3, .aload 0, .getstatic 576, .iload 5, .iaload, .istore 6, .aload 1, .getstatic 322, .iload 6, .iaload, .iload 2, .if_icmp .ne 2, .aload 0, .getstatic 578, .iload 6, .iaload, .iload 3, .if_icmp .gt 2, .aload 1, .getstatic 323, .iload 6, .iaload, .istore 4],
  [.iinc 5 1, .goto 1],
  [.iload 4, .ireturn]]
/-- TickerHouse$Tape.priceTrue(LTickerHouse$Queue;II)I -/
def tkm_94 : List (List Instr) := [
  [.iconst (-1), .istore 4, .iconst 0, .istore 5],
  [.iload 5, .aload 1, .getfield 326, .if_icmp .ge 3, .aload 0, .getstatic 576, .iload 5, .iaload, .istore 6, .aload 1, .getstatic 322, .iload 6, .iaload, .iload 2, .if_icmp .ne 2, .aload 1, .getstatic 320, .iload 6, .iaload, .iload 3, .if_icmp .gt 2, .aload 1, .getstatic 323, .iload 6, .iaload, .istore 4],
  [.iinc 5 1, .goto 1],
  [.iload 4, .ireturn]]
/-- TickerHouse.machine(III)I -/
def tkm_95 : List (List Instr) := [
  [.iload 1, .iconst 0, .iconst 1000, .invokeinterface 133 3, .ifCond .ne 1, .iload 2, .iconst 0, .iconst 20, .invokeinterface 133 3, .ifCond .ne 1, .iload 3, .iconst 0, .iconst 1000, .invokeinterface 133 3, .ifCond .eq 2],
  [.iconst (-2), .ireturn],
  [.aload 0, .getstatic 640, .getfield 133, .iconst 8, .if_icmp .lt 3, .iconst (-4), .goto 4],
  [.aload 0, .getstatic 640, .iload 1, .iload 2, .iload 3, .invokeinterface 20 4],
  [.ireturn]]
/-- TickerHouse.alive(IZ)I -/
def tkm_96 : List (List Instr) := [
  [.aload 0, .getstatic 640, .iload 1, .invokeinterface 17 2, .ifCond .ne 1, .iconst (-2), .ireturn],
  [.aload 0, .getstatic 640, .getstatic 132, .iload 1, .aaload, .astore 3, .aload 3, .getfield 195, .iload 2, .if_icmp .ne 2, .iconst (-3), .ireturn],
  [.aload 3, .iload 2, .putstatic 195, .iconst 1, .ireturn]]
/-- TickerHouse.line(III)I -/
def tkm_97 : List (List Instr) := [
  [.iload 1, .iconst 0, .iconst 2000, .invokeinterface 133 3, .ifCond .ne 1, .iload 2, .iconst 0, .iconst 200, .invokeinterface 133 3, .ifCond .ne 1, .iload 3, .iconst 1, .iconst 50, .invokeinterface 133 3, .ifCond .eq 2],
  [.iconst (-2), .ireturn],
  [.aload 0, .getstatic 640, .iload 1, .putfield 128, .aload 0, .getstatic 640, .iload 2, .putfield 129, .aload 0, .getstatic 640, .iload 3, .putfield 130, .iconst 1, .ireturn]]
/-- TickerHouse.slip(II)I -/
def tkm_98 : List (List Instr) := [
  [.aload 0, .getstatic 640, .iload 1, .invokeinterface 17 2, .ifCond .eq 1, .iload 2, .iconst 0, .iconst 100000, .invokeinterface 133 3, .ifCond .eq 2],
  [.iconst (-2), .ireturn],
  [.aload 0, .getstatic 640, .getfield 135, .iconst 40, .if_icmp .lt 3, .iconst (-4), .goto 4],
  [.aload 0, .getstatic 640, .iload 1, .iload 2, .invokeinterface 21 3],
  [.ireturn]]
/-- TickerHouse.over(I)I -/
def tkm_99 : List (List Instr) := [
  [.aload 0, .getstatic 640, .iload 1, .invokeinterface 17 2, .ifCond .eq 1, .aload 0, .getstatic 640, .aload 0, .getstatic 640, .getstatic 132, .iload 1, .aaload, .invokeinterface 23 2, .goto 2],
  [.iconst (-100000)],
  [.ireturn]]
/-- TickerHouse.pulse(I)I -/
def tkm_100 : List (List Instr) := [
  [.iload 1, .iconst 0, .iconst 2, .invokeinterface 133 3, .ifCond .eq 1, .iconst (-2), .ireturn],
  [.aload 0, .getstatic 640, .getfield 134, .iconst 100001, .if_icmp .lt 2, .iconst (-4), .ireturn],
  [.aload 0, .getstatic 640, .iload 1, .iconst 1, .invokeinterface 24 3, .aload 0, .getstatic 640, .getfield 134, .iconst 1, .isub, .ireturn]]
/-- TickerHouse.bring(I)I -/
def tkm_101 : List (List Instr) := [
  [.iload 1, .iconst 0, .iconst 54, .invokeinterface 133 3, .ifCond .eq 1, .iconst (-2), .ireturn],
  [.aload 0, .getstatic 641, .aload 0, .getstatic 640, .invokeinterface 33 2, .aload 0, .getstatic 641, .iload 1, .invokeinterface 26 2, .aload 0, .getstatic 641, .getfield 134, .iconst 100001, .if_icmp .le 2, .iconst (-4), .ireturn],
  [.aload 0, .getstatic 640, .getfield 134, .istore 2, .aload 0, .getstatic 640, .iload 1, .invokeinterface 26 2, .aload 0, .getstatic 640, .getfield 134, .iload 2, .isub, .ireturn]]
/-- TickerHouse.unison()I -/
def tkm_102 : List (List Instr) := [
  [.aload 0, .getstatic 640, .getfield 134, .iconst 65, .iadd, .iconst 100001, .if_icmp .le 1, .iconst (-4), .ireturn],
  [.aload 0, .getstatic 640, .invokeinterface 27 1, .aload 0, .getstatic 640, .invokeinterface 29 1, .ireturn]]
/-- TickerHouse.about(II)I -/
def tkm_103 : List (List Instr) := [
  [.aload 0, .getstatic 640, .iload 1, .invokeinterface 18 2, .ifCond .eq 1, .iload 2, .iconst 0, .iconst 6, .invokeinterface 133 3, .ifCond .eq 2],
  [.iconst (-2), .ireturn],
  [.aload 0, .getstatic 640, .iload 1, .invokeinterface 19 2, .iload 2, .invokeinterface 42 2, .ireturn]]
/-- TickerHouse.ribbon(II)I -/
def tkm_104 : List (List Instr) := [
  [.aload 0, .getstatic 640, .iload 1, .invokeinterface 18 2, .ifCond .eq 1, .iload 2, .ifCond .ge 2],
  [.iconst (-2), .ireturn],
  [.aload 0, .getstatic 640, .iload 1, .invokeinterface 19 2, .iload 2, .invokeinterface 40 2, .ireturn]]
/-- TickerHouse.wrong(I)I -/
def tkm_105 : List (List Instr) := [
  [.aload 0, .getstatic 640, .iload 1, .invokeinterface 17 2, .ifCond .eq 1, .aload 0, .getstatic 640, .getstatic 132, .iload 1, .aaload, .aload 0, .getstatic 640, .getstatic 131, .invokeinterface 41 2, .goto 2],
  [.iconst (-2)],
  [.ireturn]]
/-- TickerHouse.tear()I -/
def tkm_106 : List (List Instr) := [
  [.aload 0, .getstatic 640, .getstatic 131, .getfield 202, .istore 1, .aload 0, .getstatic 640, .invokeinterface 31 1, .iload 1, .ireturn]]
/-- TickerHouse.sign(I)I -/
def tkm_107 : List (List Instr) := [
  [.iload 1, .iconst 0, .iconst 54, .invokeinterface 133 3, .ifCond .eq 1, .iconst (-2), .ireturn],
  [.aload 0, .getstatic 642, .iconst 1, .invokeinterface 81 2, .ifCond .ne 2, .iconst (-4), .ireturn],
  [.aload 0, .getstatic 642, .iload 1, .invokeinterface 82 2, .aload 0, .getstatic 642, .getfield 513, .ireturn]]
/-- TickerHouse.cut(III)I -/
def tkm_108 : List (List Instr) := [
  [.aload 0, .getstatic 640, .iload 1, .invokeinterface 18 2, .ifCond .eq 1, .iload 2, .ifCond .lt 1, .iload 3, .ifCond .ge 2],
  [.iconst (-2), .ireturn],
  [.aload 0, .getstatic 640, .iload 1, .invokeinterface 19 2, .astore 4, .iload 2, .aload 4, .getfield 202, .if_icmp .gt 3, .iload 3, .aload 4, .getfield 202, .iload 2, .isub, .if_icmp .le 4],
  [.iconst (-2), .ireturn],
  [.aload 0, .getstatic 642, .iload 3, .invokeinterface 81 2, .ifCond .ne 5, .iconst (-4), .ireturn],
  [.iconst 0, .istore 5],
  [.iload 5, .iload 3, .if_icmp .ge 7, .aload 0, .getstatic 642, .aload 4, .iload 2, .iload 5, .iadd, .invokeinterface 40 2, .invokeinterface 82 2, .iinc 5 1, .goto 6],
  [.aload 0, .getstatic 642, .getfield 513, .ireturn]]
/-- TickerHouse.clear()I -/
def tkm_109 : List (List Instr) := [
  [.aload 0, .getstatic 642, .getfield 513, .istore 1, .aload 0, .getstatic 642, .invokeinterface 84 1, .iload 1, .ireturn]]
/-- TickerHouse.rowAt(I)I -/
def tkm_110 : List (List Instr) := [
  [.aload 0, .getstatic 642, .iload 1, .invokeinterface 85 2, .ireturn]]
/-- TickerHouse.send()I -/
def tkm_111 : List (List Instr) := [
  [.aload 0, .getstatic 641, .aload 0, .getstatic 640, .invokeinterface 33 2, .aload 0, .getstatic 641, .aload 0, .getstatic 642, .iconst 0, .invokeinterface 28 3, .aload 0, .getstatic 641, .getfield 134, .iconst 100001, .if_icmp .le 1, .iconst (-4), .ireturn],
  [.aload 0, .getstatic 640, .getfield 134, .istore 1, .aload 0, .getstatic 640, .aload 0, .getstatic 642, .iconst 0, .invokeinterface 28 3, .aload 0, .getstatic 640, .getfield 134, .iload 1, .isub, .ireturn]]
/-- TickerHouse.firm(IIII)I -/
def tkm_112 : List (List Instr) := [
  [.iload 1, .iload 2, .iload 3, .iload 4, .invokeinterface 135 4, .ifCond .ne 1, .iconst (-2), .ireturn],
  [.aload 0, .getstatic 644, .iload 1, .iload 2, .iload 3, .iload 4, .invokeinterface 3 5, .iconst (-1), .if_icmp .eq 2, .iconst (-3), .ireturn],
  [.aload 0, .getstatic 644, .getfield 2, .iconst 12, .if_icmp .lt 3, .iconst (-4), .goto 4],
  [.aload 0, .getstatic 644, .iload 1, .iload 2, .iload 3, .iload 4, .invokeinterface 2 5],
  [.ireturn]]
/-- TickerHouse.shorts(Z)I -/
def tkm_113 : List (List Instr) := [
  [.aload 0, .iload 1, .putstatic 650, .iconst 1, .ireturn]]
/-- TickerHouse.last(I)I -/
def tkm_114 : List (List Instr) := [
  [.aload 0, .getstatic 644, .iload 1, .invokeinterface 0 2, .ifCond .eq 1, .aload 0, .getstatic 644, .getstatic 1, .iload 1, .iaload, .goto 2],
  [.iconst (-2)],
  [.ireturn]]
/-- TickerHouse.write(III)I -/
def tkm_115 : List (List Instr) := [
  [.aload 0, .iload 1, .iload 2, .iload 3, .invokeinterface 134 4, .ifCond .ne 1, .iconst (-2), .ireturn],
  [.aload 0, .getfield 650, .ifCond .eq 2, .aload 0, .getstatic 644, .iload 1, .iload 2, .invokeinterface 6 3, .ifCond .eq 2, .iconst 1, .goto 3],
  [.iconst 0],
  [.istore 4, .aload 0, .iload 1, .iload 2, .iload 3, .iload 4, .invokeinterface 136 5, .aload 0, .getstatic 642, .aload 0, .getstatic 643, .getfield 513, .invokeinterface 81 2, .ifCond .ne 4, .iconst (-4), .ireturn],
  [.iconst 0, .istore 5],
  [.iload 5, .aload 0, .getstatic 643, .getfield 513, .if_icmp .ge 6, .aload 0, .getstatic 642, .aload 0, .getstatic 643, .iload 5, .invokeinterface 85 2, .invokeinterface 82 2, .iinc 5 1, .goto 5],
  [.aload 0, .getstatic 644, .getstatic 1, .iload 1, .iload 2, .iastore, .aload 0, .getstatic 643, .getfield 513, .ireturn]]
/-- TickerHouse.read(I)I -/
def tkm_116 : List (List Instr) := [
  [.iload 1, .iconst 0, .iconst 2, .invokeinterface 133 3, .ifCond .eq 1, .iconst (-2), .ireturn],
  [.aload 0, .getstatic 645, .aload 0, .getstatic 642, .aload 0, .getstatic 644, .invokeinterface 56 3, .iload 1, .ifCond .ne 2, .aload 0, .getstatic 645, .getfield 388, .ireturn],
  [.iload 1, .iconst 1, .if_icmp .ne 3, .aload 0, .getstatic 645, .getfield 389, .goto 4],
  [.aload 0, .getstatic 645, .getfield 390],
  [.ireturn]]
/-- TickerHouse.readAt(II)I -/
def tkm_117 : List (List Instr) := [
  [.iload 1, .ifCond .lt 1, .iload 2, .iconst 0, .iconst 2, .invokeinterface 133 3, .ifCond .eq 2],
  [.iconst (-2), .ireturn],
  [.aload 0, .getstatic 645, .aload 0, .getstatic 642, .aload 0, .getstatic 644, .invokeinterface 56 3, .iload 1, .aload 0, .getstatic 645, .getfield 388, .if_icmp .lt 3, .iconst (-1), .ireturn],
  [.iload 2, .ifCond .ne 4, .aload 0, .getstatic 645, .getstatic 384, .iload 1, .iaload, .ireturn],
  [.iload 2, .iconst 1, .if_icmp .ne 5, .aload 0, .getstatic 645, .getstatic 385, .iload 1, .iaload, .goto 6],
  [.aload 0, .getstatic 645, .getstatic 386, .iload 1, .iaload],
  [.ireturn]]
/-- TickerHouse.take()I -/
def tkm_118 : List (List Instr) := [
  [.aload 0, .getstatic 645, .aload 0, .getstatic 642, .aload 0, .getstatic 644, .invokeinterface 56 3, .aload 0, .getstatic 645, .getfield 390, .iconst (-1), .if_icmp .eq 1, .iconst (-3), .ireturn],
  [.aload 0, .getstatic 645, .getstatic 387, .iconst 0, .aload 0, .getstatic 644, .getstatic 1, .iconst 0, .iconst 12, .invokeinterface 999 5, .aload 0, .getstatic 645, .getfield 388, .ireturn]]
/-- TickerHouse.add(IIIII)I -/
def tkm_119 : List (List Instr) := [
  [.iload 1, .iconst 0, .iconst 1000, .invokeinterface 133 3, .ifCond .ne 1, .iload 2, .iload 1, .iconst 2000, .invokeinterface 133 3, .ifCond .ne 1, .aload 0, .iload 3, .iload 4, .iload 5, .invokeinterface 134 4, .ifCond .ne 2],
  [.iconst (-2), .ireturn],
  [.aload 0, .getstatic 646, .getfield 326, .iconst 12, .if_icmp .lt 3, .iconst (-4), .ireturn],
  [.aload 0, .iload 3, .iload 4, .iload 5, .iconst 0, .invokeinterface 136 5, .aload 0, .getstatic 646, .iload 1, .iload 2, .iload 3, .iload 4, .iload 5, .aload 0, .getstatic 641, .aload 0, .getstatic 643, .invokeinterface 34 2, .invokeinterface 52 7, .ireturn]]
/-- TickerHouse.drop()I -/
def tkm_120 : List (List Instr) := [
  [.aload 0, .getstatic 646, .getfield 326, .istore 1, .aload 0, .getstatic 646, .invokeinterface 53 1, .iload 1, .ireturn]]
/-- TickerHouse.minutes(I)I -/
def tkm_121 : List (List Instr) := [
  [.iload 1, .iconst 0, .aload 0, .getstatic 646, .getfield 326, .iconst 1, .isub, .invokeinterface 133 3, .ifCond .eq 1, .iconst (-2), .goto 2],
  [.aload 0, .getstatic 646, .iload 1, .aload 0, .getstatic 640, .getfield 130, .invokeinterface 54 3],
  [.ireturn]]
/-- TickerHouse.most(II)I -/
def tkm_122 : List (List Instr) := [
  [.iload 1, .iconst 0, .iconst 1000, .invokeinterface 133 3, .ifCond .ne 1, .iload 2, .iconst 0, .iconst 1, .invokeinterface 133 3, .ifCond .eq 2],
  [.iconst (-2), .ireturn],
  [.aload 0, .getstatic 647, .aload 0, .getstatic 646, .iload 1, .aload 0, .getstatic 640, .getfield 130, .invokeinterface 44 4, .iload 2, .ifCond .ne 3, .aload 0, .getstatic 647, .getfield 260, .goto 4],
  [.aload 0, .getstatic 647, .getfield 261],
  [.ireturn]]
/-- TickerHouse.orderAt(II)I -/
def tkm_123 : List (List Instr) := [
  [.iload 1, .iconst 0, .iconst 1000, .invokeinterface 133 3, .ifCond .ne 1, .iload 2, .ifCond .ge 2],
  [.iconst (-2), .ireturn],
  [.aload 0, .getstatic 647, .aload 0, .getstatic 646, .iload 1, .aload 0, .getstatic 640, .getfield 130, .invokeinterface 44 4, .iload 2, .aload 0, .getstatic 647, .getfield 262, .if_icmp .ge 3, .aload 0, .getstatic 647, .getstatic 259, .iload 2, .iaload, .goto 4],
  [.iconst (-1)],
  [.ireturn]]
/-- TickerHouse.tape(II)I -/
def tkm_124 : List (List Instr) := [
  [.iload 1, .iconst 0, .iconst 3000, .invokeinterface 133 3, .ifCond .ne 1, .iload 2, .iconst 0, .iconst 2, .invokeinterface 133 3, .ifCond .eq 2],
  [.iconst (-2), .ireturn],
  [.aload 0, .getstatic 648, .aload 0, .getstatic 646, .aload 0, .getstatic 640, .getfield 130, .invokeinterface 89 3, .iload 2, .iconst 1, .if_icmp .ne 3, .aload 0, .getstatic 648, .aload 0, .getstatic 646, .iload 1, .invokeinterface 92 3, .ireturn],
  [.aload 0, .getstatic 648, .aload 0, .getstatic 646, .iload 1, .invokeinterface 91 3, .istore 3, .iload 2, .ifCond .ne 4, .iload 3, .ireturn],
  [.iload 3, .iconst (-1), .if_icmp .ne 5, .iconst 0, .goto 6],
  [.aload 0, .getstatic 648, .getstatic 577, .iload 3, .iaload, .aload 0, .getstatic 646, .getstatic 320, .iload 3, .iaload, .isub],
  [.ireturn]]
/-- TickerHouse.price(III)I -/
def tkm_125 : List (List Instr) := [
  [.aload 0, .getstatic 644, .iload 1, .invokeinterface 0 2, .ifCond .eq 1, .iload 2, .iconst 0, .iconst 3000, .invokeinterface 133 3, .ifCond .ne 1, .iload 3, .iconst 0, .iconst 1, .invokeinterface 133 3, .ifCond .eq 2],
  [.iconst (-2), .ireturn],
  [.aload 0, .getstatic 648, .aload 0, .getstatic 646, .aload 0, .getstatic 640, .getfield 130, .invokeinterface 89 3, .iload 3, .ifCond .ne 3, .aload 0, .getstatic 648, .aload 0, .getstatic 646, .iload 1, .iload 2, .invokeinterface 93 4, .goto 4],
  [.aload 0, .getstatic 648, .aload 0, .getstatic 646, .iload 1, .iload 2, .invokeinterface 94 4],
  [.ireturn]]
/-- TickerHouse.repair()I -/
def tkm_126 : List (List Instr) := [
  [.aload 0, .getstatic 649, .aload 0, .getstatic 642, .aload 0, .getstatic 644, .invokeinterface 65 3, .aload 0, .getstatic 649, .getfield 449, .ireturn]]
/-- TickerHouse.repairAt(I)I -/
def tkm_127 : List (List Instr) := [
  [.iload 1, .ifCond .ge 1, .iconst (-2), .ireturn],
  [.aload 0, .getstatic 649, .aload 0, .getstatic 642, .aload 0, .getstatic 644, .invokeinterface 65 3, .aload 0, .getstatic 649, .getstatic 448, .iload 1, .invokeinterface 85 2, .ireturn]]
/-- TickerHouse.mend()I -/
def tkm_128 : List (List Instr) := [
  [.aload 0, .getstatic 649, .aload 0, .getstatic 642, .aload 0, .getstatic 644, .invokeinterface 65 3, .aload 0, .getstatic 649, .getfield 449, .iconst (-1), .if_icmp .ne 1, .iconst (-3), .ireturn],
  [.aload 0, .getstatic 649, .getstatic 448, .getfield 513, .iconst 40, .if_icmp .le 2, .iconst (-4), .ireturn],
  [.aload 0, .getstatic 642, .invokeinterface 84 1, .iconst 0, .istore 1],
  [.iload 1, .aload 0, .getstatic 649, .getstatic 448, .getfield 513, .if_icmp .ge 4, .aload 0, .getstatic 642, .aload 0, .getstatic 649, .getstatic 448, .iload 1, .invokeinterface 85 2, .invokeinterface 82 2, .iinc 1 1, .goto 3],
  [.aload 0, .getstatic 642, .getfield 513, .ireturn]]
/-- TickerHouse.cost(II)I -/
def tkm_129 : List (List Instr) := [
  [.iload 1, .iconst 0, .iconst 20, .invokeinterface 133 3, .ifCond .ne 1, .iload 2, .iconst 0, .iconst 1000, .invokeinterface 133 3, .ifCond .eq 2],
  [.iconst (-2), .ireturn],
  [.aload 0, .iload 1, .iload 2, .invokeinterface 138 3, .ireturn]]
/-- TickerHouse.often(I)I -/
def tkm_130 : List (List Instr) := [
  [.iload 1, .iconst 0, .iconst 1000, .invokeinterface 133 3, .ifCond .eq 1, .iconst (-2), .ireturn],
  [.iconst 0, .istore 2, .iconst 0, .istore 3, .iconst 0, .istore 4],
  [.iload 4, .iconst 20, .if_icmp .gt 6, .aload 0, .iload 4, .iload 1, .invokeinterface 138 3, .istore 5, .iload 5, .iconst (-4), .if_icmp .ne 3, .iconst (-4), .ireturn],
  [.iload 4, .ifCond .eq 4, .iload 5, .iload 3, .if_icmp .ge 5],
  [.iload 4, .istore 2, .iload 5, .istore 3],
  [.iinc 4 1, .goto 2],
  [.iload 2, .ireturn]]
/-- TickerHouse.count(I)I -/
def tkm_131 : List (List Instr) := [
  [.iload 1, .tableswitch 11 0 7 #[1, 2, 3, 4, 5, 6, 7, 8]],
  [.aload 0, .getstatic 640, .getfield 133, .ireturn],
  [.aload 0, .getstatic 640, .getfield 134, .ireturn],
  [.aload 0, .getstatic 640, .getfield 135, .ireturn],
  [.aload 0, .getstatic 642, .getfield 513, .ireturn],
  [.aload 0, .getstatic 644, .getfield 2, .ireturn],
  [.aload 0, .getstatic 646, .getfield 326, .ireturn],
  [.aload 0, .getstatic 640, .getfield 130, .ireturn],
  [.aload 0, .getfield 650, .ifCond .eq 9, .iconst 1, .goto 10],
  [.iconst 0],
  [.ireturn],
  [.iconst (-2), .ireturn]]
/-- TickerHouse.digest()J -/
def tkm_132 : List (List Instr) := [
  [.ldc2_w 263, .lstore 1, .iconst 0, .istore 3],
  [.iload 3, .iconst 7, .if_icmp .gt 2, .ldc2_w 31, .lload 1, .lmul, .aload 0, .iload 3, .invokeinterface 131 2, .i2l, .ladd, .lstore 1, .iinc 3 1, .goto 1],
  [.aload 0, .getstatic 640, .getstatic 131, .lload 1, .invokeinterface 43 2, .lstore 1, .iconst 0, .istore 3],
  [.iload 3, .aload 0, .getstatic 640, .getfield 133, .if_icmp .ge 4, .aload 0, .getstatic 640, .getstatic 132, .iload 3, .aaload, .lload 1, .invokeinterface 43 2, .lstore 1, .iinc 3 1, .goto 3],
  [.aload 0, .getstatic 642, .lload 1, .invokeinterface 88 2, .lstore 1, .aload 0, .getstatic 644, .lload 1, .invokeinterface 7 2, .lstore 1, .aload 0, .getstatic 646, .lload 1, .invokeinterface 55 2, .lreturn]]
/-- TickerHouse.outside(III)Z -/
def tkm_133 : List (List Instr) := [
  [.iload 0, .iload 1, .if_icmp .lt 1, .iload 0, .iload 2, .if_icmp .le 2],
  [.iconst 1, .goto 3],
  [.iconst 0],
  [.dreturn]]
/-- TickerHouse.isQuote(III)Z -/
def tkm_134 : List (List Instr) := [
  [.aload 0, .getstatic 644, .iload 1, .invokeinterface 0 2, .ifCond .eq 1, .iload 2, .iconst 0, .iconst 79999, .invokeinterface 133 3, .ifCond .ne 1, .iload 3, .iconst 1, .iconst 999, .invokeinterface 133 3, .ifCond .ne 1, .iconst 1, .goto 2],
  [.iconst 0],
  [.dreturn]]
/-- TickerHouse.isCode(IIII)Z -/
def tkm_135 : List (List Instr) := [
  [.iload 0, .invokeinterface 139 1, .ifCond .eq 1, .iload 1, .iconst 0, .iconst 26, .invokeinterface 133 3, .ifCond .ne 1, .iload 2, .iconst 0, .iconst 26, .invokeinterface 133 3, .ifCond .ne 1, .iload 3, .iconst 0, .iconst 26, .invokeinterface 133 3, .ifCond .eq 2],
  [.iconst 0, .dreturn],
  [.iload 1, .ifCond .ne 3, .iload 2, .ifCond .ne 5],
  [.iload 2, .ifCond .ne 4, .iload 3, .ifCond .ne 5],
  [.iconst 1, .goto 6],
  [.iconst 0],
  [.dreturn]]
/-- TickerHouse.writeText(IIIZ)V -/
def tkm_136 : List (List Instr) := [
  [.aload 0, .getstatic 643, .invokeinterface 84 1, .aload 0, .getstatic 644, .iload 1, .aload 0, .getstatic 643, .invokeinterface 5 3, .iload 2, .iconst 8, .idiv, .istore 5, .iload 4, .ifCond .eq 1, .aload 0, .getstatic 643, .iload 5, .iconst 100, .irem, .iconst 2, .invokeinterface 83 3, .goto 4],
  [.aload 0, .getstatic 643, .iload 5, .iload 5, .iconst 999, .if_icmp .le 2, .iconst 4, .goto 3],
  [.iconst 3],
  [.invokeinterface 83 3],
  [.iload 2, .iconst 8, .irem, .ifCond .eq 5, .aload 0, .getstatic 643, .iconst 36, .iload 2, .iconst 8, .irem, .iadd, .invokeinterface 82 2],
  [.iload 3, .iconst 1, .if_icmp .eq 6, .aload 0, .getstatic 643, .iconst 44, .invokeinterface 82 2, .aload 0, .getstatic 643, .iload 3, .iload 3, .invokeinterface 137 1, .invokeinterface 83 3],
  [.aload 0, .getstatic 643, .iconst 0, .invokeinterface 82 2, .return_]]
/-- TickerHouse.digitsOf(I)I -/
def tkm_137 : List (List Instr) := [
  [.iload 0, .iconst 99, .if_icmp .le 1, .iconst 3, .ireturn],
  [.iload 0, .iconst 9, .if_icmp .le 2, .iconst 2, .goto 3],
  [.iconst 1],
  [.ireturn]]
/-- TickerHouse.costOf(II)I -/
def tkm_138 : List (List Instr) := [
  [.aload 0, .getstatic 641, .aload 0, .getstatic 640, .invokeinterface 32 2, .aload 0, .getstatic 641, .aload 0, .getstatic 642, .iload 1, .invokeinterface 28 3, .aload 0, .getstatic 641, .getfield 134, .iconst 100001, .if_icmp .le 1, .iconst (-4), .ireturn],
  [.aload 0, .getstatic 641, .getfield 134, .aload 0, .getstatic 640, .getfield 134, .isub, .iload 2, .aload 0, .getstatic 641, .invokeinterface 30 1, .imul, .iadd, .ireturn]]
/-- TickerHouse.isLetter(I)Z -/
def tkm_139 : List (List Instr) := [
  [.iload 0, .iconst 1, .if_icmp .lt 1, .iload 0, .iconst 26, .if_icmp .gt 1, .iconst 1, .goto 2],
  [.iconst 0],
  [.dreturn]]
/-- TickerHouse.isDigit(I)Z -/
def tkm_140 : List (List Instr) := [
  [.iload 0, .iconst 27, .if_icmp .lt 1, .iload 0, .iconst 36, .if_icmp .gt 1, .iconst 1, .goto 2],
  [.iconst 0],
  [.dreturn]]
/-- TickerHouse.isEighth(I)Z -/
def tkm_141 : List (List Instr) := [
  [.iload 0, .iconst 37, .if_icmp .lt 1, .iload 0, .iconst 43, .if_icmp .gt 1, .iconst 1, .goto 2],
  [.iconst 0],
  [.dreturn]]
/-- TickerHouse.wheelOf(I)I -/
def tkm_142 : List (List Instr) := [
  [.iload 0, .iconst 27, .if_icmp .lt 1, .iload 0, .iconst 53, .if_icmp .gt 1, .iconst 1, .goto 2],
  [.iconst 0],
  [.ireturn]]
/-- TickerHouse.placeOf(I)I -/
def tkm_143 : List (List Instr) := [
  [.iload 0, .iconst 54, .if_icmp .ne 1, .iconst 27, .ireturn],
  [.iload 0, .invokeinterface 142 1, .iconst 1, .if_icmp .ne 2, .iload 0, .iconst 26, .isub, .goto 3],
  [.iload 0],
  [.ireturn]]
/-- TickerHouse.signAt(II)I -/
def tkm_144 : List (List Instr) := [
  [.iload 1, .ifCond .ne 1, .iconst 0, .ireturn],
  [.iload 0, .iconst 1, .if_icmp .ne 2, .iconst 26, .iload 1, .iadd, .ireturn],
  [.iload 1, .iconst 27, .if_icmp .ne 3, .iconst 54, .goto 4],
  [.iload 1],
  [.ireturn]]
/-- TickerHouseModel.in(JJJ)Z -/
def tkm_145 : List (List Instr) := [
  [.lload 0, .lload 2, .lcmp, .ifCond .lt 1, .lload 0, .lload 4, .lcmp, .ifCond .gt 1, .iconst 1, .goto 2],
  [.iconst 0],
  [.dreturn]]
/-- TickerHouseModel.placeOf(I)I -/
def tkm_146 : List (List Instr) := [
  [.iload 0, .iconst 27, .if_icmp .ge 1, .iload 0, .goto 3],
  [.iload 0, .iconst 54, .if_icmp .ne 2, .iconst 27, .goto 3],
  [.iload 0, .iconst 26, .isub],
  [.ireturn]]
/-- TickerHouseModel.wheelOf(I)I -/
def tkm_147 : List (List Instr) := [
  [.iload 0, .ifCond .ne 1, .iconst 2, .goto 4],
  [.iload 0, .iconst 27, .if_icmp .lt 2, .iload 0, .iconst 54, .if_icmp .ne 3],
  [.iconst 0, .goto 4],
  [.iconst 1],
  [.ireturn]]
/-- TickerHouseModel.signAt(II)I -/
def tkm_148 : List (List Instr) := [
  [.iload 0, .ifCond .ne 1, .iconst 0, .goto 4],
  [.iload 1, .iconst 1, .if_icmp .ne 2, .iconst 26, .iload 0, .iadd, .goto 4],
  [.iload 0, .iconst 27, .if_icmp .ne 3, .iconst 54, .goto 4],
  [.iload 0],
  [.ireturn]]
/-- TickerHouseModel.machine(III)I -/
def tkm_149 : List (List Instr) := [
  [.iload 1, .i2l, .ldc2_w 0, .ldc2_w 1000, .invokeinterface 145 3, .ifCond .eq 1, .iload 2, .i2l, .ldc2_w 0, .ldc2_w 20, .invokeinterface 145 3, .ifCond .eq 1, .iload 3, .i2l, .ldc2_w 0, .ldc2_w 1000, .invokeinterface 145 3, .ifCond .ne 2],
  [.iconst (-2), .ireturn],
  [.aload 0, .getfield 704, .iconst 8, .if_icmp .ne 3, .iconst (-4), .ireturn],
  [.aload 0, .getstatic 705, .aload 0, .getfield 704, .iload 1, .iastore, .aload 0, .getstatic 706, .aload 0, .getfield 704, .iload 2, .iastore, .aload 0, .getstatic 707, .aload 0, .getfield 704, .iload 3, .iastore, .aload 0, .getstatic 708, .aload 0, .getfield 704, .iconst 1, .bastore, .aload 0, .dup, .getfield 704, .iconst 1, .iadd, .putfield 704, .aload 0, .getfield 704, .iconst 1, .isub, .ireturn]]
/-- TickerHouseModel.isMachine(I)Z -/
def tkm_150 : List (List Instr) := [
  [.iload 1, .i2l, .ldc2_w 0, .aload 0, .getfield 704, .iconst 1, .isub, .i2l, .invokeinterface 145 3, .dreturn]]
/-- TickerHouseModel.alive(IZ)I -/
def tkm_151 : List (List Instr) := [
  [.aload 0, .iload 1, .invokeinterface 150 2, .ifCond .ne 1, .iconst (-2), .ireturn],
  [.aload 0, .getstatic 708, .iload 1, .baload, .iload 2, .if_icmp .ne 2, .iconst (-3), .ireturn],
  [.aload 0, .getstatic 708, .iload 1, .iload 2, .bastore, .iconst 1, .ireturn]]
/-- TickerHouseModel.line(III)I -/
def tkm_152 : List (List Instr) := [
  [.iload 1, .i2l, .ldc2_w 0, .ldc2_w 2000, .invokeinterface 145 3, .ifCond .eq 1, .iload 2, .i2l, .ldc2_w 0, .ldc2_w 200, .invokeinterface 145 3, .ifCond .eq 1, .iload 3, .i2l, .ldc2_w 1, .ldc2_w 50, .invokeinterface 145 3, .ifCond .ne 2],
  [.iconst (-2), .ireturn],
  [.aload 0, .iload 1, .putfield 710, .aload 0, .iload 2, .putfield 711, .aload 0, .iload 3, .putfield 712, .iconst 1, .ireturn]]
/-- TickerHouseModel.slip(II)I -/
def tkm_153 : List (List Instr) := [
  [.aload 0, .iload 1, .invokeinterface 150 2, .ifCond .eq 1, .iload 2, .i2l, .ldc2_w 0, .ldc2_w 100000, .invokeinterface 145 3, .ifCond .ne 2],
  [.iconst (-2), .ireturn],
  [.aload 0, .getfield 713, .iconst 40, .if_icmp .ne 3, .iconst (-4), .ireturn],
  [.aload 0, .getstatic 714, .aload 0, .getfield 713, .iload 1, .iastore, .aload 0, .getstatic 715, .aload 0, .getfield 713, .iload 2, .iastore, .aload 0, .dup, .getfield 713, .iconst 1, .iadd, .putfield 713, .aload 0, .getfield 713, .ireturn]]
/-- TickerHouseModel.overOf(I)I -/
def tkm_154 : List (List Instr) := [
  [.aload 0, .getfield 710, .aload 0, .getstatic 705, .iload 1, .iaload, .aload 0, .getfield 711, .imul, .iconst 100, .idiv, .isub, .aload 0, .getfield 712, .aload 0, .getstatic 706, .iload 1, .iaload, .imul, .isub, .aload 0, .getstatic 707, .iload 1, .iaload, .isub, .ireturn]]
/-- TickerHouseModel.over(I)I -/
def tkm_155 : List (List Instr) := [
  [.aload 0, .iload 1, .invokeinterface 150 2, .ifCond .eq 1, .aload 0, .iload 1, .invokeinterface 154 2, .goto 2],
  [.iconst (-100000)],
  [.ireturn]]
/-- TickerHouseModel.gets(II)Z -/
def tkm_156 : List (List Instr) := [
  [.aload 0, .getstatic 708, .iload 1, .baload, .ifCond .eq 1, .aload 0, .iload 1, .invokeinterface 154 2, .ifCond .ge 2],
  [.iconst 0, .dreturn],
  [.iconst 0, .istore 3],
  [.iload 3, .aload 0, .getfield 713, .if_icmp .ge 5, .aload 0, .getstatic 714, .iload 3, .iaload, .iload 1, .if_icmp .ne 4, .aload 0, .getstatic 715, .iload 3, .iaload, .iload 2, .if_icmp .ne 4, .iconst 0, .dreturn],
  [.iinc 3 1, .goto 3],
  [.iconst 1, .dreturn]]
/-- TickerHouseModel.apply(II)V -/
def tkm_157 : List (List Instr) := [
  [.iload 2, .iconst 1, .if_icmp .ne 2, .aload 0, .getstatic 721, .iload 1, .iaload, .iconst 300, .if_icmp .ge 1, .aload 0, .getstatic 722, .iconst 300, .iload 1, .imul, .aload 0, .getstatic 721, .iload 1, .iaload, .iadd, .aload 0, .getstatic 717, .iload 1, .iaload, .aload 0, .getstatic 718, .iload 1, .iaload, .invokeinterface 148 2, .iastore, .aload 0, .getstatic 721, .iload 1, .dup2, .iaload, .iconst 1, .iadd, .iastore],
  [.aload 0, .getstatic 719, .iload 1, .iconst 0, .iastore, .aload 0, .getstatic 720, .iload 1, .iconst 0, .bastore, .goto 4],
  [.aload 0, .getstatic 720, .iload 1, .baload, .ifCond .ne 4, .iload 2, .iconst 2, .if_icmp .ne 3, .aload 0, .getstatic 718, .iload 1, .iconst 1, .aload 0, .getstatic 718, .iload 1, .iaload, .isub, .iastore, .goto 4],
  [.aload 0, .getstatic 717, .iload 1, .aload 0, .getstatic 717, .iload 1, .iaload, .iconst 1, .iadd, .iconst 28, .irem, .iastore, .aload 0, .getstatic 719, .iload 1, .dup2, .iaload, .iconst 1, .iadd, .iastore, .aload 0, .getstatic 719, .iload 1, .iaload, .iconst 56, .if_icmp .ne 4, .aload 0, .getstatic 720, .iload 1, .iconst 1, .bastore, .aload 0, .getstatic 717, .iload 1, .iconst 0, .iastore, .aload 0, .getstatic 718, .iload 1, .iconst 0, .iastore],
  [.return_]]
/-- TickerHouseModel.send1(II)V -/
def tkm_158 : List (List Instr) := [
  [.aload 0, .getstatic 716, .iload 2, .iaload, .istore 3, .iconst 0, .istore 4],
  [.iload 4, .aload 0, .getfield 704, .if_icmp .ge 4, .aload 0, .iload 4, .iload 3, .invokeinterface 156 3, .ifCond .eq 2, .aload 0, .iconst 9, .iload 2, .imul, .iload 4, .iadd, .iload 1, .invokeinterface 157 3, .goto 3],
  [.iload 2, .ifCond .ne 3, .aload 0, .getstatic 709, .iload 4, .dup2, .iaload, .iconst 1, .iadd, .iastore],
  [.iinc 4 1, .goto 1],
  [.aload 0, .iconst 9, .iload 2, .imul, .iconst 8, .iadd, .iload 1, .invokeinterface 157 3, .aload 0, .getstatic 716, .iload 2, .dup2, .iaload, .iconst 1, .iadd, .iastore, .return_]]
/-- TickerHouseModel.asIs()V -/
def tkm_159 : List (List Instr) := [
  [.iconst 0, .istore 1],
  [.iload 1, .iconst 9, .if_icmp .ge 2, .aload 0, .getstatic 717, .iconst 9, .iload 1, .iadd, .aload 0, .getstatic 717, .iload 1, .iaload, .iastore, .aload 0, .getstatic 718, .iconst 9, .iload 1, .iadd, .aload 0, .getstatic 718, .iload 1, .iaload, .iastore, .aload 0, .getstatic 719, .iconst 9, .iload 1, .iadd, .aload 0, .getstatic 719, .iload 1, .iaload, .iastore, .aload 0, .getstatic 720, .iconst 9, .iload 1, .iadd, .aload 0, .getstatic 720, .iload 1, .baload, .bastore, .aload 0, .getstatic 721, .iconst 9, .iload 1, .iadd, .iconst 0, .iastore, .iinc 1 1, .goto 1],
  [.aload 0, .getstatic 716, .iconst 1, .aload 0, .getstatic 716, .iconst 0, .iaload, .iastore, .return_]]
/-- TickerHouseModel.pulse(I)I -/
def tkm_160 : List (List Instr) := [
  [.iload 1, .i2l, .ldc2_w 0, .ldc2_w 2, .invokeinterface 145 3, .ifCond .ne 1, .iconst (-2), .ireturn],
  [.aload 0, .getstatic 716, .iconst 0, .iaload, .iconst 100001, .if_icmp .ne 2, .iconst (-4), .ireturn],
  [.aload 0, .iload 1, .iconst 0, .invokeinterface 158 3, .aload 0, .getstatic 716, .iconst 0, .iaload, .iconst 1, .isub, .ireturn]]
/-- TickerHouseModel.bring1(II)V -/
def tkm_161 : List (List Instr) := [
  [.iconst 9, .iload 2, .imul, .iconst 8, .iadd, .istore 3, .iconst 0, .istore 4],
  [.iload 4, .ifCond .ne 7, .aload 0, .getstatic 720, .iload 3, .baload, .ifCond .eq 2, .aload 0, .iconst 1, .iload 2, .invokeinterface 158 3],
  [.iload 1, .invokeinterface 147 1, .iconst 2, .if_icmp .eq 3, .iload 1, .invokeinterface 147 1, .aload 0, .getstatic 718, .iload 3, .iaload, .if_icmp .eq 3, .aload 0, .iconst 2, .iload 2, .invokeinterface 158 3],
  [.aload 0, .getstatic 717, .iload 3, .iaload, .iload 1, .invokeinterface 146 1, .if_icmp .eq 4, .aload 0, .getstatic 720, .iload 3, .baload, .ifCond .ne 4, .aload 0, .iconst 0, .iload 2, .invokeinterface 158 3, .goto 3],
  [.aload 0, .getstatic 720, .iload 3, .baload, .ifCond .ne 5, .iconst 1, .goto 6],
  [.iconst 0],
  [.istore 4, .goto 1],
  [.aload 0, .iconst 1, .iload 2, .invokeinterface 158 3, .return_]]
/-- TickerHouseModel.unison1(I)V -/
def tkm_162 : List (List Instr) := [
  [.iconst 0, .istore 2],
  [.iload 2, .iconst 64, .if_icmp .ge 2, .aload 0, .iconst 0, .iload 1, .invokeinterface 158 3, .iinc 2 1, .goto 1],
  [.aload 0, .iconst 1, .iload 1, .invokeinterface 158 3, .return_]]
/-- TickerHouseModel.isTooMany()Z -/
def tkm_163 : List (List Instr) := [
  [.aload 0, .getstatic 716, .iconst 1, .iaload, .iconst 100001, .if_icmp .le 1, .iconst 1, .goto 2],
  [.iconst 0],
  [.dreturn]]
/-- TickerHouseModel.bring(I)I -/
def tkm_164 : List (List Instr) := [
  [.iload 1, .i2l, .ldc2_w 0, .ldc2_w 54, .invokeinterface 145 3, .ifCond .ne 1, .iconst (-2), .ireturn],
  [.aload 0, .invokeinterface 159 1, .aload 0, .iload 1, .iconst 1, .invokeinterface 161 3, .aload 0, .invokeinterface 163 1, .ifCond .eq 2, .iconst (-4), .ireturn],
  [.aload 0, .getstatic 716, .iconst 0, .iaload, .istore 2, .aload 0, .iload 1, .iconst 0, .invokeinterface 161 3, .aload 0, .getstatic 716, .iconst 0, .iaload, .iload 2, .isub, .ireturn]]
/-- TickerHouseModel.unison()I -/
def tkm_165 : List (List Instr) := [
  [.aload 0, .getstatic 716, .iconst 0, .iaload, .iconst 65, .iadd, .iconst 100001, .if_icmp .le 1, .iconst (-4), .ireturn],
  [.aload 0, .iconst 0, .invokeinterface 162 2, .iconst 0, .istore 1, .iconst 0, .istore 2],
  [.iload 2, .aload 0, .getfield 704, .if_icmp .ge 5, .iload 1, .aload 0, .getstatic 708, .iload 2, .baload, .ifCond .eq 3, .aload 0, .getstatic 717, .iload 2, .iaload, .aload 0, .getstatic 717, .iconst 8, .iaload, .if_icmp .ne 3, .aload 0, .getstatic 718, .iload 2, .iaload, .aload 0, .getstatic 718, .iconst 8, .iaload, .if_icmp .ne 3, .iconst 1, .goto 4],
  [.iconst 0],
  [.iadd, .istore 1, .iinc 2 1, .goto 2],
  [.iload 1, .ireturn]]
/-- TickerHouseModel.who(I)I -/
def tkm_166 : List (List Instr) := [
  [.iload 1, .iconst (-1), .if_icmp .ne 1, .iconst 8, .goto 3],
  [.aload 0, .iload 1, .invokeinterface 150 2, .ifCond .eq 2, .iload 1, .goto 3],
  [.iconst (-2)],
  [.ireturn]]
/-- TickerHouseModel.aboutOf(II)I -/
def tkm_167 : List (List Instr) := [
  [.iload 2, .ifCond .ne 1, .aload 0, .getstatic 717, .iload 1, .iaload, .ireturn],
  [.iload 2, .iconst 1, .if_icmp .ne 2, .aload 0, .getstatic 718, .iload 1, .iaload, .ireturn],
  [.iload 2, .iconst 2, .if_icmp .ne 3, .aload 0, .getstatic 719, .iload 1, .iaload, .ireturn],
  [.iload 2, .iconst 3, .if_icmp .ne 6, .aload 0, .getstatic 720, .iload 1, .baload, .ifCond .eq 4, .iconst 1, .goto 5],
  [.iconst 0],
  [.ireturn],
  [.iload 2, .iconst 4, .if_icmp .ne 7, .aload 0, .getstatic 721, .iload 1, .iaload, .ireturn],
  [.iload 2, .iconst 5, .if_icmp .ne 10, .iload 1, .iconst 8, .if_icmp .ne 8, .iconst 0, .goto 9],
  [.aload 0, .getstatic 709, .iload 1, .iaload],
  [.ireturn],
  [.iload 1, .iconst 8, .if_icmp .eq 11, .aload 0, .getstatic 708, .iload 1, .baload, .ifCond .eq 12],
  [.iconst 1, .goto 13],
  [.iconst 0],
  [.ireturn]]
/-- TickerHouseModel.about(II)I -/
def tkm_168 : List (List Instr) := [
  [.aload 0, .iload 1, .invokeinterface 166 2, .iconst (-2), .if_icmp .eq 1, .iload 2, .i2l, .ldc2_w 0, .ldc2_w 6, .invokeinterface 145 3, .ifCond .ne 2],
  [.iconst (-2), .goto 3],
  [.aload 0, .aload 0, .iload 1, .invokeinterface 166 2, .iload 2, .invokeinterface 167 3],
  [.ireturn]]
/-- TickerHouseModel.ribbon(II)I -/
def tkm_169 : List (List Instr) := [
  [.aload 0, .iload 1, .invokeinterface 166 2, .istore 3, .iload 3, .iconst (-2), .if_icmp .eq 1, .iload 2, .ifCond .ge 2],
  [.iconst (-2), .ireturn],
  [.iload 2, .aload 0, .getstatic 721, .iload 3, .iaload, .if_icmp .ge 3, .aload 0, .getstatic 722, .iconst 300, .iload 3, .imul, .iload 2, .iadd, .iaload, .goto 4],
  [.iconst (-1)],
  [.ireturn]]
/-- TickerHouseModel.wrongOf(II)I -/
def tkm_170 : List (List Instr) := [
  [.aload 0, .getstatic 721, .iload 1, .iaload, .aload 0, .getstatic 721, .iload 2, .iaload, .if_icmp .ge 1, .aload 0, .getstatic 721, .iload 1, .iaload, .goto 2],
  [.aload 0, .getstatic 721, .iload 2, .iaload],
  [.istore 3, .aload 0, .getstatic 721, .iload 1, .iaload, .aload 0, .getstatic 721, .iload 2, .iaload, .iadd, .iconst 2, .iload 3, .imul, .isub, .istore 4, .iconst 0, .istore 5],
  [.iload 5, .iload 3, .if_icmp .ge 6, .iload 4, .aload 0, .getstatic 722, .iconst 300, .iload 1, .imul, .iload 5, .iadd, .iaload, .aload 0, .getstatic 722, .iconst 300, .iload 2, .imul, .iload 5, .iadd, .iaload, .if_icmp .ne 4, .iconst 0, .goto 5],
  [.iconst 1],
  [.iadd, .istore 4, .iinc 5 1, .goto 3],
  [.iload 4, .ireturn]]
/-- TickerHouseModel.wrong(I)I -/
def tkm_171 : List (List Instr) := [
  [.aload 0, .iload 1, .invokeinterface 150 2, .ifCond .eq 1, .aload 0, .iload 1, .iconst 8, .invokeinterface 170 3, .goto 2],
  [.iconst (-2)],
  [.ireturn]]
/-- TickerHouseModel.tear()I -/
def tkm_172 : List (List Instr) := [
  [.aload 0, .getstatic 721, .iconst 8, .iaload, .istore 1, .iconst 0, .istore 2],
  [.iload 2, .iconst 9, .if_icmp .ge 2, .aload 0, .getstatic 721, .iload 2, .iconst 0, .iastore, .iinc 2 1, .goto 1],
  [.iload 1, .ireturn]]
/-- TickerHouseModel.sign(I)I -/
def tkm_173 : List (List Instr) := [
  [.iload 1, .i2l, .ldc2_w 0, .ldc2_w 54, .invokeinterface 145 3, .ifCond .ne 1, .iconst (-2), .ireturn],
  [.aload 0, .getfield 723, .iconst 40, .if_icmp .ne 2, .iconst (-4), .ireturn],
  [.aload 0, .getstatic 724, .aload 0, .getfield 723, .iload 1, .iastore, .aload 0, .dup, .getfield 723, .iconst 1, .iadd, .putfield 723, .aload 0, .iconst 0, .putstatic 763, .aload 0, .getfield 723, .ireturn]]
/-- TickerHouseModel.cut(III)I -/
def tkm_174 : List (List Instr) := [
  [.aload 0, .iload 1, .invokeinterface 166 2, .istore 4, .iload 4, .iconst (-2), .if_icmp .eq 1, .iload 2, .ifCond .lt 1, .iload 3, .ifCond .lt 1, .iload 2, .i2l, .iload 3, .i2l, .ladd, .aload 0, .getstatic 721, .iload 4, .iaload, .i2l, .lcmp, .ifCond .le 2],
  [.iconst (-2), .ireturn],
  [.aload 0, .getfield 723, .iload 3, .iadd, .iconst 40, .if_icmp .le 3, .iconst (-4), .ireturn],
  [.iconst 0, .istore 5],
  [.iload 5, .iload 3, .if_icmp .ge 5, .aload 0, .getstatic 724, .aload 0, .getfield 723, .aload 0, .getstatic 722, .iconst 300, .iload 4, .imul, .iload 2, .iadd, .iload 5, .iadd, .iaload, .iastore, .aload 0, .dup, .getfield 723, .iconst 1, .iadd, .putfield 723, .iinc 5 1, .goto 4],
  [.aload 0, .iconst 0, .putstatic 763, .aload 0, .getfield 723, .ireturn]]
/-- TickerHouseModel.clear()I -/
def tkm_175 : List (List Instr) := [
  [.aload 0, .getfield 723, .istore 1, .aload 0, .iconst 0, .putfield 723, .aload 0, .iconst 0, .putstatic 763, .iload 1, .ireturn]]
/-- TickerHouseModel.rowAt(I)I -/
def tkm_176 : List (List Instr) := [
  [.iload 1, .i2l, .ldc2_w 0, .aload 0, .getfield 723, .iconst 1, .isub, .i2l, .invokeinterface 145 3, .ifCond .eq 1, .aload 0, .getstatic 724, .iload 1, .iaload, .goto 2],
  [.iconst (-1)],
  [.ireturn]]
/-- TickerHouseModel.send()I -/
def tkm_177 : List (List Instr) := [
  [.aload 0, .invokeinterface 159 1, .iconst 0, .istore 1],
  [.iload 1, .aload 0, .getfield 723, .if_icmp .ge 2, .aload 0, .aload 0, .getstatic 724, .iload 1, .iaload, .iconst 1, .invokeinterface 161 3, .iinc 1 1, .goto 1],
  [.aload 0, .invokeinterface 163 1, .ifCond .eq 3, .iconst (-4), .ireturn],
  [.aload 0, .getstatic 716, .iconst 0, .iaload, .istore 1, .iconst 0, .istore 2],
  [.iload 2, .aload 0, .getfield 723, .if_icmp .ge 5, .aload 0, .aload 0, .getstatic 724, .iload 2, .iaload, .iconst 0, .invokeinterface 161 3, .iinc 2 1, .goto 4],
  [.aload 0, .getstatic 716, .iconst 0, .iaload, .iload 1, .isub, .ireturn]]
/-- TickerHouseModel.firm(IIII)I -/
def tkm_178 : List (List Instr) := [
  [.iload 1, .i2l, .ldc2_w 1, .ldc2_w 26, .invokeinterface 145 3, .ifCond .eq 5, .iload 2, .i2l, .ldc2_w 0, .ldc2_w 26, .invokeinterface 145 3, .ifCond .eq 5, .iload 3, .i2l, .ldc2_w 0, .iload 2, .ifCond .le 1, .ldc2_w 26, .goto 2],
  [.ldc2_w 0],
  [.invokeinterface 145 3, .ifCond .eq 5, .iload 4, .i2l, .ldc2_w 0, .iload 3, .ifCond .le 3, .ldc2_w 26, .goto 4],
  [.ldc2_w 0],
  [.invokeinterface 145 3, .ifCond .ne 6],
  [.iconst (-2), .ireturn],
  [.iconst 0, .istore 5],
  [.iload 5, .aload 0, .getfield 725, .if_icmp .ge 9, .aload 0, .getstatic 726, .iconst 4, .iload 5, .imul, .iaload, .iload 1, .if_icmp .ne 8, .aload 0, .getstatic 726, .iconst 4, .iload 5, .imul, .iconst 1, .iadd, .iaload, .iload 2, .if_icmp .ne 8, .aload 0, .getstatic 726, .iconst 4, .iload 5, .imul, .iconst 2, .iadd, .iaload, .iload 3, .if_icmp .ne 8, .aload 0, .getstatic 726, .iconst 4, .iload 5, .imul, .iconst 3, .iadd, .iaload, .iload 4, .if_icmp .ne 8, .iconst (-3), .ireturn],
  [.iinc 5 1, .goto 7],
  [.aload 0, .getfield 725, .iconst 12, .if_icmp .ne 10, .iconst (-4), .ireturn],
  [.aload 0, .getstatic 726, .iconst 4, .aload 0, .getfield 725, .imul, .iload 1, .iastore, .aload 0, .getstatic 726, .iconst 4, .aload 0, .getfield 725, .imul, .iconst 1, .iadd, .iload 2, .iastore, .aload 0, .getstatic 726, .iconst 4, .aload 0, .getfield 725, .imul, .iconst 2, .iadd, .iload 3, .iastore, .aload 0, .getstatic 726, .iconst 4, .aload 0, .getfield 725, .imul, .iconst 3, .iadd, .iload 4, .iastore, .aload 0, .getstatic 727, .aload 0, .getfield 725, .iload 4, .ifCond .le 11, .iconst 4, .goto 14],
  [.iload 3, .ifCond .le 12, .iconst 3, .goto 14],
  [.iload 2, .ifCond .le 13, .iconst 2, .goto 14],
  [.iconst 1],
  [.iastore, .aload 0, .getstatic 728, .aload 0, .getfield 725, .iconst (-1), .iastore, .aload 0, .dup, .getfield 725, .iconst 1, .iadd, .putfield 725, .aload 0, .iconst 0, .putstatic 763, .aload 0, .getfield 725, .iconst 1, .isub, .ireturn]]
/-- TickerHouseModel.shorts(Z)I -/
def tkm_179 : List (List Instr) := [
  [.aload 0, .iload 1, .putstatic 729, .iconst 1, .ireturn]]
/-- TickerHouseModel.isFirm(I)Z -/
def tkm_180 : List (List Instr) := [
  [.iload 1, .i2l, .ldc2_w 0, .aload 0, .getfield 725, .iconst 1, .isub, .i2l, .invokeinterface 145 3, .dreturn]]
/-- TickerHouseModel.last(I)I -/
def tkm_181 : List (List Instr) := [
  [.aload 0, .iload 1, .invokeinterface 180 2, .ifCond .eq 1, .aload 0, .getstatic 728, .iload 1, .iaload, .goto 2],
  [.iconst (-2)],
  [.ireturn]]
/-- TickerHouseModel.put(I)V -/
def tkm_182 : List (List Instr) := [
  [.aload 0, .getstatic 730, .aload 0, .getfield 731, .iload 1, .iastore, .aload 0, .dup, .getfield 731, .iconst 1, .iadd, .putfield 731, .return_]]
/-- TickerHouseModel.figures(II)V -/
def tkm_183 : List (List Instr) := [
  [.iconst 1, .istore 3, .iconst 1, .istore 4],
  [.iload 4, .iload 2, .if_icmp .lt 2, .iload 1, .iload 3, .idiv, .iconst 9, .if_icmp .le 3],
  [.iload 3, .iconst 10, .imul, .istore 3, .iinc 4 1, .goto 1],
  [.iload 3, .ifCond .le 4, .aload 0, .iconst 27, .iload 1, .iload 3, .idiv, .iconst 10, .irem, .iadd, .invokeinterface 182 2, .iload 3, .iconst 10, .idiv, .istore 3, .goto 3],
  [.return_]]
/-- TickerHouseModel.tell(IIIZ)V -/
def tkm_184 : List (List Instr) := [
  [.aload 0, .iconst 0, .putfield 731, .iconst 0, .istore 5],
  [.iload 5, .aload 0, .getstatic 727, .iload 1, .iaload, .if_icmp .ge 2, .aload 0, .aload 0, .getstatic 726, .iconst 4, .iload 1, .imul, .iload 5, .iadd, .iaload, .invokeinterface 182 2, .iinc 5 1, .goto 1],
  [.iload 4, .ifCond .eq 3, .aload 0, .iload 2, .iconst 8, .idiv, .iconst 100, .irem, .iconst 2, .invokeinterface 183 3, .goto 4],
  [.aload 0, .iload 2, .iconst 8, .idiv, .iconst 3, .invokeinterface 183 3],
  [.iload 2, .iconst 8, .irem, .ifCond .le 5, .aload 0, .iconst 36, .iload 2, .iconst 8, .irem, .iadd, .invokeinterface 182 2],
  [.iload 3, .iconst 1, .if_icmp .eq 6, .aload 0, .iconst 44, .invokeinterface 182 2, .aload 0, .iload 3, .iconst 1, .invokeinterface 183 3],
  [.aload 0, .iconst 0, .invokeinterface 182 2, .return_]]
/-- TickerHouseModel.isQuote(III)Z -/
def tkm_185 : List (List Instr) := [
  [.aload 0, .iload 1, .invokeinterface 180 2, .ifCond .eq 1, .iload 2, .i2l, .ldc2_w 0, .ldc2_w 79999, .invokeinterface 145 3, .ifCond .eq 1, .iload 3, .i2l, .ldc2_w 1, .ldc2_w 999, .invokeinterface 145 3, .ifCond .eq 1, .iconst 1, .goto 2],
  [.iconst 0],
  [.dreturn]]
/-- TickerHouseModel.write(III)I -/
def tkm_186 : List (List Instr) := [
  [.aload 0, .iload 1, .iload 2, .iload 3, .invokeinterface 185 4, .ifCond .ne 1, .iconst (-2), .ireturn],
  [.aload 0, .iload 1, .iload 2, .iload 3, .aload 0, .getfield 729, .ifCond .eq 2, .aload 0, .getstatic 728, .iload 1, .iaload, .iconst (-1), .if_icmp .eq 2, .aload 0, .getstatic 728, .iload 1, .iaload, .iconst 800, .idiv, .iload 2, .iconst 800, .idiv, .if_icmp .ne 2, .iconst 1, .goto 3],
  [.iconst 0],
  [.invokeinterface 184 5, .aload 0, .getfield 723, .aload 0, .getfield 731, .iadd, .iconst 40, .if_icmp .le 4, .iconst (-4), .ireturn],
  [.iconst 0, .istore 4],
  [.iload 4, .aload 0, .getfield 731, .if_icmp .ge 6, .aload 0, .getstatic 724, .aload 0, .getfield 723, .aload 0, .getstatic 730, .iload 4, .iaload, .iastore, .aload 0, .dup, .getfield 723, .iconst 1, .iadd, .putfield 723, .iinc 4 1, .goto 5],
  [.aload 0, .getstatic 728, .iload 1, .iload 2, .iastore, .aload 0, .iconst 0, .putstatic 763, .aload 0, .getfield 731, .ireturn]]
/-- TickerHouseModel.isDigit()Z -/
def tkm_187 : List (List Instr) := [
  [.aload 0, .getfield 739, .aload 0, .getfield 723, .if_icmp .ge 1, .aload 0, .getstatic 724, .aload 0, .getfield 739, .iaload, .i2l, .ldc2_w 27, .ldc2_w 36, .invokeinterface 145 3, .ifCond .eq 1, .iconst 1, .goto 2],
  [.iconst 0],
  [.dreturn]]
/-- TickerHouseModel.cant()V -/
def tkm_188 : List (List Instr) := [
  [.aload 0, .aload 0, .getfield 739, .aload 0, .getfield 723, .if_icmp .ge 1, .iconst 1, .goto 2],
  [.iconst 4],
  [.putfield 732, .aload 0, .aload 0, .getfield 739, .putfield 733, .return_]]
/-- TickerHouseModel.firmOf(II)I -/
def tkm_189 : List (List Instr) := [
  [.iconst 0, .istore 3],
  [.iload 3, .aload 0, .getfield 725, .if_icmp .ge 9, .aload 0, .getstatic 727, .iload 3, .iaload, .iload 2, .iload 1, .isub, .if_icmp .ne 2, .iconst 1, .goto 3],
  [.iconst 0],
  [.istore 4, .iload 1, .istore 5],
  [.iload 5, .iload 2, .if_icmp .ge 7, .iload 4, .ifCond .eq 7, .aload 0, .getstatic 724, .iload 5, .iaload, .aload 0, .getstatic 726, .iconst 4, .iload 3, .imul, .iload 5, .iadd, .iload 1, .isub, .iaload, .if_icmp .ne 5, .iconst 1, .goto 6],
  [.iconst 0],
  [.istore 4, .iinc 5 1, .goto 4],
  [.iload 4, .ifCond .eq 8, .iload 3, .ireturn],
  [.iinc 3 1, .goto 1],
  [.iconst (-1), .ireturn]]
/-- TickerHouseModel.quote()V -/
def tkm_190 : List (List Instr) := [
  [.aload 0, .getfield 739, .istore 1],
  [.aload 0, .getfield 739, .aload 0, .getfield 723, .if_icmp .ge 2, .aload 0, .getstatic 724, .aload 0, .getfield 739, .iaload, .i2l, .ldc2_w 1, .ldc2_w 26, .invokeinterface 145 3, .ifCond .eq 2, .aload 0, .dup, .getfield 739, .iconst 1, .iadd, .putfield 739, .goto 1],
  [.aload 0, .getfield 739, .iload 1, .if_icmp .ne 3, .aload 0, .invokeinterface 188 1, .return_],
  [.aload 0, .iload 1, .aload 0, .getfield 739, .invokeinterface 189 3, .istore 2, .iload 2, .iconst (-1), .if_icmp .ne 4, .aload 0, .iconst 2, .putfield 732, .aload 0, .aload 0, .getfield 739, .putfield 733, .return_],
  [.aload 0, .getfield 739, .istore 3, .iconst 0, .istore 4],
  [.aload 0, .invokeinterface 187 1, .ifCond .eq 6, .aload 0, .getfield 739, .iload 3, .isub, .iconst 4, .if_icmp .ge 6, .iconst 10, .iload 4, .imul, .aload 0, .getstatic 724, .aload 0, .getfield 739, .iaload, .iadd, .iconst 27, .isub, .istore 4, .aload 0, .dup, .getfield 739, .iconst 1, .iadd, .putfield 739, .goto 5],
  [.aload 0, .getfield 739, .iload 3, .isub, .iconst 2, .if_icmp .ge 7, .aload 0, .invokeinterface 188 1, .return_],
  [.aload 0, .getfield 739, .iload 3, .isub, .iconst 2, .if_icmp .ne 9, .aload 0, .getstatic 738, .iload 2, .iaload, .iconst (-1), .if_icmp .ne 8, .aload 0, .iconst 3, .putfield 732, .aload 0, .iload 3, .putfield 733, .return_],
  [.iload 4, .aload 0, .getstatic 738, .iload 2, .iaload, .iconst 800, .idiv, .iconst 100, .imul, .iadd, .istore 4],
  [.iconst 8, .iload 4, .imul, .istore 5, .aload 0, .getfield 739, .aload 0, .getfield 723, .if_icmp .ge 10, .aload 0, .getstatic 724, .aload 0, .getfield 739, .iaload, .i2l, .ldc2_w 37, .ldc2_w 43, .invokeinterface 145 3, .ifCond .eq 10, .iload 5, .aload 0, .getstatic 724, .aload 0, .getfield 739, .iaload, .iconst 36, .isub, .iadd, .istore 5, .aload 0, .dup, .getfield 739, .iconst 1, .iadd, .putfield 739],
  [.iconst 1, .istore 6, .aload 0, .getfield 739, .aload 0, .getfield 723, .if_icmp .ge 15, .aload 0, .getstatic 724, .aload 0, .getfield 739, .iaload, .iconst 44, .if_icmp .ne 15, .aload 0, .dup, .getfield 739, .iconst 1, .iadd, .putfield 739, .iconst 0, .istore 6, .aload 0, .getfield 739, .istore 3],
  [.aload 0, .invokeinterface 187 1, .ifCond .eq 13, .aload 0, .getfield 739, .iload 3, .isub, .iconst 3, .if_icmp .ge 13, .aload 0, .getfield 739, .iload 3, .if_icmp .gt 12, .aload 0, .getstatic 724, .aload 0, .getfield 739, .iaload, .iconst 27, .if_icmp .le 13],
  [.iconst 10, .iload 6, .imul, .aload 0, .getstatic 724, .aload 0, .getfield 739, .iaload, .iadd, .iconst 27, .isub, .istore 6, .aload 0, .dup, .getfield 739, .iconst 1, .iadd, .putfield 739, .goto 11],
  [.aload 0, .getfield 739, .iload 3, .if_icmp .eq 14, .iload 6, .iconst 1, .if_icmp .ne 15],
  [.aload 0, .invokeinterface 188 1, .return_],
  [.aload 0, .getfield 739, .aload 0, .getfield 723, .if_icmp .eq 16, .aload 0, .getstatic 724, .aload 0, .getfield 739, .iaload, .ifCond .eq 17],
  [.aload 0, .invokeinterface 188 1, .return_],
  [.aload 0, .dup, .getfield 739, .iconst 1, .iadd, .putfield 739, .aload 0, .getstatic 735, .aload 0, .getfield 734, .iload 2, .iastore, .aload 0, .getstatic 736, .aload 0, .getfield 734, .iload 5, .iastore, .aload 0, .getstatic 737, .aload 0, .getfield 734, .iload 6, .iastore, .aload 0, .dup, .getfield 734, .iconst 1, .iadd, .putfield 734, .aload 0, .getstatic 738, .iload 2, .iload 5, .iastore, .return_]]
/-- TickerHouseModel.parse()V -/
def tkm_191 : List (List Instr) := [
  [.aload 0, .iconst (-1), .putfield 732, .aload 0, .iconst (-1), .putfield 733, .aload 0, .iconst 0, .putfield 734, .aload 0, .iconst 0, .putfield 739, .iconst 0, .istore 1],
  [.iload 1, .aload 0, .getfield 725, .if_icmp .ge 2, .aload 0, .getstatic 738, .iload 1, .aload 0, .getstatic 728, .iload 1, .iaload, .iastore, .iinc 1 1, .goto 1],
  [.aload 0, .getfield 739, .aload 0, .getfield 723, .if_icmp .ge 4, .aload 0, .getfield 732, .iconst (-1), .if_icmp .ne 4, .aload 0, .getstatic 724, .aload 0, .getfield 739, .iaload, .ifCond .ne 3, .aload 0, .dup, .getfield 739, .iconst 1, .iadd, .putfield 739, .goto 2],
  [.aload 0, .invokeinterface 190 1, .goto 2],
  [.return_]]
/-- TickerHouseModel.read(I)I -/
def tkm_192 : List (List Instr) := [
  [.iload 1, .i2l, .ldc2_w 0, .ldc2_w 2, .invokeinterface 145 3, .ifCond .ne 1, .iconst (-2), .ireturn],
  [.aload 0, .invokeinterface 191 1, .iload 1, .ifCond .ne 2, .aload 0, .getfield 734, .goto 4],
  [.iload 1, .iconst 1, .if_icmp .ne 3, .aload 0, .getfield 733, .goto 4],
  [.aload 0, .getfield 732],
  [.ireturn]]
/-- TickerHouseModel.readAt(II)I -/
def tkm_193 : List (List Instr) := [
  [.iload 1, .ifCond .lt 1, .iload 2, .i2l, .ldc2_w 0, .ldc2_w 2, .invokeinterface 145 3, .ifCond .ne 2],
  [.iconst (-2), .ireturn],
  [.aload 0, .invokeinterface 191 1, .iload 1, .aload 0, .getfield 734, .if_icmp .lt 3, .iconst (-1), .goto 6],
  [.iload 2, .ifCond .ne 4, .aload 0, .getstatic 735, .iload 1, .iaload, .goto 6],
  [.iload 2, .iconst 1, .if_icmp .ne 5, .aload 0, .getstatic 736, .iload 1, .iaload, .goto 6],
  [.aload 0, .getstatic 737, .iload 1, .iaload],
  [.ireturn]]
/-- TickerHouseModel.take()I -/
def tkm_194 : List (List Instr) := [
  [.aload 0, .invokeinterface 191 1, .aload 0, .getfield 732, .iconst (-1), .if_icmp .eq 1, .iconst (-3), .ireturn],
  [.iconst 0, .istore 1],
  [.iload 1, .aload 0, .getfield 725, .if_icmp .ge 3, .aload 0, .getstatic 728, .iload 1, .aload 0, .getstatic 738, .iload 1, .iaload, .iastore, .iinc 1 1, .goto 2],
  [.aload 0, .getfield 734, .ireturn]]
/-- TickerHouseModel.add(IIIII)I -/
def tkm_195 : List (List Instr) := [
  [.iload 1, .i2l, .ldc2_w 0, .ldc2_w 1000, .invokeinterface 145 3, .ifCond .eq 1, .iload 2, .i2l, .iload 1, .i2l, .ldc2_w 2000, .invokeinterface 145 3, .ifCond .eq 1, .aload 0, .iload 3, .iload 4, .iload 5, .invokeinterface 185 4, .ifCond .ne 2],
  [.iconst (-2), .ireturn],
  [.aload 0, .getfield 740, .iconst 12, .if_icmp .ne 3, .iconst (-4), .ireturn],
  [.aload 0, .getstatic 741, .aload 0, .getfield 740, .iload 1, .iastore, .aload 0, .getstatic 742, .aload 0, .getfield 740, .iload 2, .iastore, .aload 0, .getstatic 743, .aload 0, .getfield 740, .iload 3, .iastore, .aload 0, .getstatic 744, .aload 0, .getfield 740, .iload 4, .iastore, .aload 0, .getstatic 745, .aload 0, .getfield 740, .iload 5, .iastore, .aload 0, .dup, .getfield 740, .iconst 1, .iadd, .putfield 740, .aload 0, .getfield 740, .iconst 1, .isub, .ireturn]]
/-- TickerHouseModel.drop()I -/
def tkm_196 : List (List Instr) := [
  [.aload 0, .getfield 740, .istore 1, .aload 0, .iconst 0, .putfield 740, .iload 1, .ireturn]]
/-- TickerHouseModel.minutesOf(I)I -/
def tkm_197 : List (List Instr) := [
  [.aload 0, .aload 0, .getstatic 743, .iload 1, .iaload, .aload 0, .getstatic 744, .iload 1, .iaload, .aload 0, .getstatic 745, .iload 1, .iaload, .iconst 0, .invokeinterface 184 5, .iconst 0, .istore 2, .iconst 0, .istore 3, .iconst 0, .istore 4, .iconst 0, .istore 5],
  [.iload 5, .aload 0, .getfield 731, .if_icmp .ge 3, .aload 0, .getstatic 730, .iload 5, .iaload, .invokeinterface 147 1, .iconst 2, .if_icmp .eq 2, .aload 0, .getstatic 730, .iload 5, .iaload, .invokeinterface 147 1, .iload 4, .if_icmp .eq 2, .iconst 1, .iload 4, .isub, .istore 4, .iinc 2 1],
  [.iload 2, .aload 0, .getstatic 730, .iload 5, .iaload, .invokeinterface 146 1, .iload 3, .isub, .iconst 28, .iadd, .iconst 28, .irem, .iconst 1, .iadd, .iadd, .istore 2, .aload 0, .getstatic 730, .iload 5, .iaload, .invokeinterface 146 1, .istore 3, .iinc 5 1, .goto 1],
  [.iload 2, .iload 4, .iadd, .istore 2, .iload 2, .iconst 10, .aload 0, .getfield 712, .imul, .iadd, .iconst 1, .isub, .iconst 10, .aload 0, .getfield 712, .imul, .idiv, .ireturn]]
/-- TickerHouseModel.minutes(I)I -/
def tkm_198 : List (List Instr) := [
  [.iload 1, .i2l, .ldc2_w 0, .aload 0, .getfield 740, .iconst 1, .isub, .i2l, .invokeinterface 145 3, .ifCond .eq 1, .aload 0, .iload 1, .invokeinterface 197 2, .goto 2],
  [.iconst (-2)],
  [.ireturn]]
/-- TickerHouseModel.earliest(I)V -/
def tkm_199 : List (List Instr) := [
  [.iconst 0, .istore 2],
  [.iload 2, .aload 0, .getfield 740, .if_icmp .ge 2, .aload 0, .getstatic 747, .iload 2, .aload 0, .iload 2, .invokeinterface 197 2, .iastore, .iinc 2 1, .goto 1],
  [.aload 0, .getstatic 746, .iconst 0, .iload 1, .iastore, .iconst 1, .istore 2],
  [.iload 2, .iconst 1, .aload 0, .getfield 740, .ishl, .if_icmp .ge 8, .aload 0, .getstatic 746, .iload 2, .iconst (-1), .iastore, .iconst 0, .istore 3],
  [.iload 3, .aload 0, .getfield 740, .if_icmp .ge 7, .iload 2, .iload 3, .ishr, .iconst 1, .iand, .iconst 1, .if_icmp .ne 6, .aload 0, .getstatic 746, .iload 2, .iconst 1, .iload 3, .ishl, .ixor, .iaload, .iconst (-1), .if_icmp .eq 6, .aload 0, .aload 0, .getstatic 746, .iload 2, .iconst 1, .iload 3, .ishl, .ixor, .iaload, .iload 3, .invokeinterface 200 3, .istore 4, .iload 4, .iconst (-1), .if_icmp .eq 6, .aload 0, .getstatic 746, .iload 2, .iaload, .iconst (-1), .if_icmp .eq 5, .iload 4, .aload 0, .getstatic 746, .iload 2, .iaload, .if_icmp .ge 6],
  [.aload 0, .getstatic 746, .iload 2, .iload 4, .iastore],
  [.iinc 3 1, .goto 4],
  [.iinc 2 1, .goto 3],
  [.return_]]
/-- TickerHouseModel.told(II)I -/
def tkm_200 : List (List Instr) := [
  [.iload 1, .aload 0, .getstatic 741, .iload 2, .iaload, .if_icmp .le 1, .iload 1, .goto 2],
  [.aload 0, .getstatic 741, .iload 2, .iaload],
  [.aload 0, .getstatic 747, .iload 2, .iaload, .iadd, .istore 3, .iload 3, .aload 0, .getstatic 742, .iload 2, .iaload, .if_icmp .gt 3, .iload 3, .goto 4],
  [.iconst (-1)],
  [.ireturn]]
/-- TickerHouseModel.ones(I)I -/
def tkm_201 : List (List Instr) := [
  [.iconst 0, .istore 1, .iconst 0, .istore 2],
  [.iload 2, .iconst 12, .if_icmp .ge 2, .iload 1, .iload 0, .iload 2, .ishr, .iconst 1, .iand, .iadd, .istore 1, .iinc 2 1, .goto 1],
  [.iload 1, .ireturn]]
/-- TickerHouseModel.best(I)I -/
def tkm_202 : List (List Instr) := [
  [.aload 0, .iload 1, .invokeinterface 199 2, .iconst 0, .istore 2, .iconst 1, .istore 3],
  [.iload 3, .iconst 1, .aload 0, .getfield 740, .ishl, .if_icmp .ge 4, .aload 0, .getstatic 746, .iload 3, .iaload, .iconst (-1), .if_icmp .eq 3, .iload 3, .invokeinterface 201 1, .iload 2, .invokeinterface 201 1, .if_icmp .gt 2, .iload 3, .invokeinterface 201 1, .iload 2, .invokeinterface 201 1, .if_icmp .ne 3, .aload 0, .getstatic 746, .iload 3, .iaload, .aload 0, .getstatic 746, .iload 2, .iaload, .if_icmp .ge 3],
  [.iload 3, .istore 2],
  [.iinc 3 1, .goto 1],
  [.iload 2, .ireturn]]
/-- TickerHouseModel.most(II)I -/
def tkm_203 : List (List Instr) := [
  [.iload 1, .i2l, .ldc2_w 0, .ldc2_w 1000, .invokeinterface 145 3, .ifCond .eq 1, .iload 2, .i2l, .ldc2_w 0, .ldc2_w 1, .invokeinterface 145 3, .ifCond .ne 2],
  [.iconst (-2), .ireturn],
  [.aload 0, .iload 1, .invokeinterface 202 2, .istore 3, .iload 2, .ifCond .ne 3, .iload 3, .goto 4],
  [.aload 0, .getstatic 746, .iload 3, .iaload],
  [.ireturn]]
/-- TickerHouseModel.orderAt(II)I -/
def tkm_204 : List (List Instr) := [
  [.iload 1, .i2l, .ldc2_w 0, .ldc2_w 1000, .invokeinterface 145 3, .ifCond .eq 1, .iload 2, .ifCond .ge 2],
  [.iconst (-2), .ireturn],
  [.aload 0, .iload 1, .invokeinterface 202 2, .istore 3, .iload 2, .iload 3, .invokeinterface 201 1, .if_icmp .lt 3, .iconst (-1), .ireturn],
  [.aload 0, .getstatic 746, .iload 3, .iaload, .istore 4, .iload 1, .istore 5, .iconst 0, .istore 6, .iconst 0, .istore 7],
  [.iload 7, .iload 2, .if_icmp .gt 10, .iconst (-1), .istore 6, .iconst 0, .istore 8],
  [.iload 8, .ifCond .ne 9, .iinc 6 1, .iload 3, .iload 6, .ishr, .iconst 1, .iand, .iconst 1, .if_icmp .ne 5, .aload 0, .iload 5, .iload 6, .invokeinterface 200 3, .istore 9, .iload 9, .iconst (-1), .if_icmp .eq 8, .aload 0, .iload 9, .invokeinterface 199 2, .aload 0, .getstatic 746, .iload 3, .iconst 1, .iload 6, .ishl, .ixor, .iaload, .iconst (-1), .if_icmp .eq 6, .aload 0, .getstatic 746, .iload 3, .iconst 1, .iload 6, .ishl, .ixor, .iaload, .iload 4, .if_icmp .gt 6, .iconst 1, .goto 7],
  [.iconst 0],
  [.istore 8],
  [.goto 5],
  [.aload 0, .iload 5, .iload 6, .invokeinterface 200 3, .istore 5, .iload 3, .iconst 1, .iload 6, .ishl, .ixor, .istore 3, .iinc 7 1, .goto 4],
  [.iload 6, .ireturn]]
/-- TickerHouseModel.roll()V -/
def tkm_205 : List (List Instr) := [
  [.iconst 0, .istore 1, .iconst 0, .istore 2],
  [.iload 2, .aload 0, .getfield 740, .if_icmp .ge 13, .iconst (-1), .istore 3, .iconst 0, .istore 4],
  [.iload 4, .aload 0, .getfield 740, .if_icmp .ge 10, .iconst 0, .istore 5, .iconst 0, .istore 6],
  [.iload 6, .iload 2, .if_icmp .ge 7, .iload 5, .ifCond .ne 4, .aload 0, .getstatic 749, .iload 6, .iaload, .iload 4, .if_icmp .ne 5],
  [.iconst 1, .goto 6],
  [.iconst 0],
  [.istore 5, .iinc 6 1, .goto 3],
  [.iload 5, .ifCond .ne 9, .iload 3, .iconst (-1), .if_icmp .eq 8, .aload 0, .getstatic 741, .iload 4, .iaload, .aload 0, .getstatic 741, .iload 3, .iaload, .if_icmp .ge 9],
  [.iload 4, .istore 3],
  [.iinc 4 1, .goto 2],
  [.aload 0, .getstatic 749, .iload 2, .iload 3, .iastore, .aload 0, .getstatic 748, .iload 3, .iload 1, .aload 0, .getstatic 741, .iload 3, .iaload, .if_icmp .le 11, .iload 1, .goto 12],
  [.aload 0, .getstatic 741, .iload 3, .iaload],
  [.iastore, .aload 0, .getstatic 748, .iload 3, .iaload, .aload 0, .iload 3, .invokeinterface 197 2, .iadd, .istore 1, .iinc 2 1, .goto 1],
  [.return_]]
/-- TickerHouseModel.tape(II)I -/
def tkm_206 : List (List Instr) := [
  [.iload 1, .i2l, .ldc2_w 0, .ldc2_w 3000, .invokeinterface 145 3, .ifCond .eq 1, .iload 2, .i2l, .ldc2_w 0, .ldc2_w 2, .invokeinterface 145 3, .ifCond .ne 2],
  [.iconst (-2), .ireturn],
  [.aload 0, .invokeinterface 205 1, .iconst (-1), .istore 3, .iconst 0, .istore 4, .iconst 0, .istore 5],
  [.iload 5, .aload 0, .getfield 740, .if_icmp .ge 7, .aload 0, .getstatic 748, .iload 5, .iaload, .iload 1, .if_icmp .gt 4, .iload 1, .aload 0, .getstatic 748, .iload 5, .iaload, .aload 0, .iload 5, .invokeinterface 197 2, .iadd, .if_icmp .ge 4, .iload 5, .istore 3],
  [.iload 4, .aload 0, .getstatic 741, .iload 5, .iaload, .iload 1, .if_icmp .gt 5, .aload 0, .getstatic 748, .iload 5, .iaload, .iload 1, .if_icmp .le 5, .iconst 1, .goto 6],
  [.iconst 0],
  [.iadd, .istore 4, .iinc 5 1, .goto 3],
  [.iload 2, .ifCond .ne 8, .iload 3, .goto 11],
  [.iload 2, .iconst 1, .if_icmp .ne 9, .iload 4, .goto 11],
  [.iload 3, .iconst (-1), .if_icmp .ne 10, .iconst 0, .goto 11],
  [.aload 0, .getstatic 748, .iload 3, .iaload, .aload 0, .getstatic 741, .iload 3, .iaload, .isub],
  [.ireturn]]
/-- TickerHouseModel.price(III)I -/
def tkm_207 : List (List Instr) := [
  [.aload 0, .iload 1, .invokeinterface 180 2, .ifCond .eq 1, .iload 2, .i2l, .ldc2_w 0, .ldc2_w 3000, .invokeinterface 145 3, .ifCond .eq 1, .iload 3, .i2l, .ldc2_w 0, .ldc2_w 1, .invokeinterface 145 3, .ifCond .ne 2],
  [.iconst (-2), .ireturn],
  [.aload 0, .invokeinterface 205 1, .iconst (-1), .istore 4, .iconst 0, .istore 5],
  [.iload 5, .aload 0, .getfield 740, .if_icmp .ge 7, .aload 0, .getstatic 749, .iload 5, .iaload, .istore 6, .aload 0, .getstatic 743, .iload 6, .iaload, .iload 1, .if_icmp .ne 6, .iload 3, .ifCond .ne 4, .aload 0, .getstatic 748, .iload 6, .iaload, .aload 0, .iload 6, .invokeinterface 197 2, .iadd, .iload 2, .if_icmp .gt 6, .goto 5],
  [.aload 0, .getstatic 741, .iload 6, .iaload, .iload 2, .if_icmp .gt 6],
  [.aload 0, .getstatic 744, .iload 6, .iaload, .istore 4],
  [.iinc 5 1, .goto 3],
  [.iload 4, .ireturn]]
/-- TickerHouseModel.edge(II)V -/
def tkm_208 : List (List Instr) := [
  [.aload 0, .getstatic 751, .aload 0, .getfield 750, .iload 1, .iastore, .aload 0, .getstatic 752, .aload 0, .getfield 750, .iload 2, .iastore, .aload 0, .dup, .getfield 750, .iconst 1, .iadd, .putfield 750, .return_]]
/-- TickerHouseModel.digits(II)V -/
def tkm_209 : List (List Instr) := [
  [.iload 1, .istore 3],
  [.iload 3, .iconst 10, .if_icmp .ge 2, .aload 0, .iconst 27, .iload 3, .iadd, .iload 2, .invokeinterface 208 3, .iinc 3 1, .goto 1],
  [.return_]]
/-- TickerHouseModel.build()V -/
def tkm_210 : List (List Instr) := [
  [.aload 0, .iconst 0, .putfield 750, .iconst 0, .istore 1],
  [.iload 1, .iconst 60, .if_icmp .ge 17, .aload 0, .getstatic 753, .iload 1, .aload 0, .getfield 750, .iastore, .iload 1, .iconst 2, .if_icmp .ge 4, .iconst 0, .istore 2],
  [.iload 2, .aload 0, .getfield 725, .if_icmp .ge 3, .aload 0, .aload 0, .getstatic 726, .iconst 4, .iload 2, .imul, .iaload, .iconst 2, .iconst 4, .iload 2, .imul, .iadd, .invokeinterface 208 3, .iinc 2 1, .goto 2],
  [.goto 16],
  [.iload 1, .iconst 50, .if_icmp .ge 7, .iload 1, .iconst 2, .isub, .iconst 4, .idiv, .istore 2, .iload 1, .iconst 2, .isub, .iconst 4, .irem, .iconst 1, .iadd, .istore 3, .iload 2, .aload 0, .getfield 725, .if_icmp .ge 5, .iload 3, .aload 0, .getstatic 727, .iload 2, .iaload, .if_icmp .ne 5, .aload 0, .iconst 0, .iconst 50, .invokeinterface 209 3, .goto 6],
  [.iload 2, .aload 0, .getfield 725, .if_icmp .ge 6, .iload 3, .aload 0, .getstatic 727, .iload 2, .iaload, .if_icmp .ge 6, .aload 0, .aload 0, .getstatic 726, .iconst 4, .iload 2, .imul, .iload 3, .iadd, .iaload, .iload 1, .iconst 1, .iadd, .invokeinterface 208 3],
  [.goto 16],
  [.iload 1, .iconst 53, .if_icmp .ge 8, .aload 0, .iconst 0, .iload 1, .iconst 1, .iadd, .invokeinterface 209 3],
  [.iload 1, .iconst 50, .if_icmp .le 10, .iload 1, .iconst 54, .if_icmp .ge 10, .iconst 37, .istore 2],
  [.iload 2, .iconst 44, .if_icmp .ge 10, .aload 0, .iload 2, .iconst 54, .invokeinterface 208 3, .iinc 2 1, .goto 9],
  [.iload 1, .iconst 50, .if_icmp .le 11, .iload 1, .iconst 55, .if_icmp .ge 11, .aload 0, .iconst 44, .iconst 55, .invokeinterface 208 3],
  [.iload 1, .iconst 55, .if_icmp .ne 12, .aload 0, .iconst 28, .iconst 56, .invokeinterface 208 3, .aload 0, .iconst 2, .iconst 57, .invokeinterface 209 3],
  [.iload 1, .iconst 56, .if_icmp .eq 13, .iload 1, .iconst 57, .if_icmp .ne 14],
  [.aload 0, .iconst 0, .iconst 58, .invokeinterface 209 3],
  [.iload 1, .iconst 58, .if_icmp .ne 15, .aload 0, .iconst 0, .iconst 59, .invokeinterface 209 3],
  [.iload 1, .iconst 50, .if_icmp .le 16, .iload 1, .iconst 55, .if_icmp .eq 16, .iload 1, .iconst 56, .if_icmp .eq 16, .aload 0, .iconst 0, .iconst 1, .invokeinterface 208 3],
  [.iinc 1 1, .goto 1],
  [.aload 0, .getstatic 753, .iconst 60, .aload 0, .getfield 750, .iastore, .return_]]
/-- TickerHouseModel.number(IIII)I -/
def tkm_211 : List (List Instr) := [
  [.iload 0, .iconst 28, .imul, .iload 1, .iadd, .iconst 2, .imul, .iload 2, .iadd, .iconst 60, .imul, .iload 3, .iadd, .ireturn]]
/-- TickerHouseModel.should(IIII)I -/
def tkm_212 : List (List Instr) := [
  [.aload 0, .getstatic 724, .iload 1, .iaload, .istore 5, .iload 5, .ifCond .eq 1, .iload 4, .iconst 1, .if_icmp .ne 1, .iconst (-1), .ireturn],
  [.iload 5, .ifCond .ne 2, .iload 4, .goto 3],
  [.iload 5, .invokeinterface 147 1],
  [.istore 6, .iload 5, .invokeinterface 146 1, .iload 2, .iadd, .iconst 28, .irem, .iload 3, .iconst 1, .if_icmp .ne 4, .iconst 1, .iload 6, .isub, .goto 5],
  [.iload 6],
  [.invokeinterface 148 2, .ireturn]]
/-- TickerHouseModel.slipsFrom(I)V -/
def tkm_213 : List (List Instr) := [
  [.iconst 0, .istore 2],
  [.iload 2, .iconst 28, .if_icmp .ge 15, .iconst 0, .istore 3],
  [.iload 3, .iconst 2, .if_icmp .ge 14, .iconst 0, .istore 4],
  [.iload 4, .iconst 60, .if_icmp .ge 13, .iload 1, .aload 0, .getfield 723, .if_icmp .ne 4, .iload 4, .iconst 1, .if_icmp .ne 4, .iconst 0, .goto 5],
  [.iconst 1000],
  [.istore 5, .iconst 0, .istore 6],
  [.iload 6, .iconst 2, .if_icmp .ge 12, .iload 1, .aload 0, .getfield 723, .if_icmp .ge 12, .aload 0, .iload 1, .iload 2, .iload 3, .iload 6, .invokeinterface 212 5, .istore 7, .aload 0, .getstatic 753, .iload 4, .iaload, .istore 8],
  [.iload 8, .aload 0, .getstatic 753, .iload 4, .iconst 1, .iadd, .iaload, .if_icmp .ge 11, .aload 0, .getstatic 751, .iload 8, .iaload, .iload 7, .if_icmp .ne 10, .aload 0, .getstatic 754, .iload 1, .iconst 1, .iadd, .iload 2, .iload 3, .aload 0, .getstatic 752, .iload 8, .iaload, .invokeinterface 211 4, .iaload, .istore 9, .iload 9, .iload 5, .if_icmp .ge 8, .iload 9, .goto 9],
  [.iload 5],
  [.istore 5],
  [.iinc 8 1, .goto 7],
  [.iinc 6 1, .goto 6],
  [.aload 0, .getstatic 754, .iload 1, .iload 2, .iload 3, .iload 4, .invokeinterface 211 4, .iload 5, .iastore, .iinc 4 1, .goto 3],
  [.iinc 3 1, .goto 2],
  [.iinc 2 1, .goto 1],
  [.iload 1, .aload 0, .getfield 723, .if_icmp .ge 16, .iconst 1, .goto 17],
  [.iconst 0],
  [.istore 2],
  [.iload 2, .ifCond .eq 32, .iconst 0, .istore 2, .iconst 0, .istore 3],
  [.iload 3, .iconst 28, .if_icmp .ge 31, .iconst 0, .istore 4],
  [.iload 4, .iconst 2, .if_icmp .ge 30, .iconst 0, .istore 5],
  [.iload 5, .iconst 60, .if_icmp .ge 29, .aload 0, .getstatic 754, .iload 1, .iload 3, .iload 4, .iload 5, .invokeinterface 211 4, .iaload, .istore 6, .aload 0, .getstatic 754, .iload 1, .iload 3, .iconst 1, .iadd, .iconst 28, .irem, .iload 4, .iload 5, .invokeinterface 211 4, .iaload, .istore 7, .aload 0, .getstatic 754, .iload 1, .iload 3, .iconst 1, .iload 4, .isub, .iload 5, .invokeinterface 211 4, .iaload, .istore 8, .iload 8, .iload 7, .if_icmp .ge 22, .iload 8, .goto 23],
  [.iload 7],
  [.istore 7, .aload 0, .getstatic 753, .iload 5, .iaload, .istore 9],
  [.iload 9, .aload 0, .getstatic 753, .iload 5, .iconst 1, .iadd, .iaload, .if_icmp .ge 27, .aload 0, .getstatic 754, .iload 1, .iload 3, .iload 4, .aload 0, .getstatic 752, .iload 9, .iaload, .invokeinterface 211 4, .iaload, .istore 10, .iload 10, .iload 7, .if_icmp .ge 25, .iload 10, .goto 26],
  [.iload 7],
  [.istore 7, .iinc 9 1, .goto 24],
  [.iload 7, .iconst 1, .iadd, .iload 6, .if_icmp .ge 28, .iload 7, .iconst 6, .if_icmp .ge 28, .aload 0, .getstatic 754, .iload 1, .iload 3, .iload 4, .iload 5, .invokeinterface 211 4, .iload 7, .iconst 1, .iadd, .iastore, .iconst 1, .istore 2],
  [.iinc 5 1, .goto 21],
  [.iinc 4 1, .goto 20],
  [.iinc 3 1, .goto 19],
  [.goto 18],
  [.return_]]
/-- TickerHouseModel.stand(I)V -/
def tkm_214 : List (List Instr) := [
  [.aload 0, .getstatic 755, .iload 1, .baload, .ifCond .ne 1, .aload 0, .getstatic 755, .iload 1, .iconst 1, .bastore, .aload 0, .getstatic 757, .aload 0, .getfield 759, .iload 1, .iastore, .aload 0, .dup, .getfield 759, .iconst 1, .iadd, .putfield 759],
  [.return_]]
/-- TickerHouseModel.mended()I -/
def tkm_215 : List (List Instr) := [
  [.aload 0, .getfield 763, .ifCond .ne 1, .aload 0, .iconst 1, .putstatic 763, .aload 0, .aload 0, .invokeinterface 216 1, .putfield 764],
  [.aload 0, .getfield 764, .ireturn]]
/-- TickerHouseModel.mendAnew()I -/
def tkm_216 : List (List Instr) := [
  [.aload 0, .invokeinterface 210 1, .aload 0, .getfield 723, .istore 1],
  [.iload 1, .ifCond .lt 2, .aload 0, .iload 1, .invokeinterface 213 2, .iinc 1 (-1), .goto 1],
  [.aload 0, .getstatic 754, .iconst 0, .iconst 0, .iconst 0, .iconst 0, .invokeinterface 211 4, .iaload, .istore 1, .iload 1, .iconst 6, .if_icmp .le 3, .iconst (-1), .ireturn],
  [.aload 0, .iconst 0, .putfield 762, .aload 0, .iconst 0, .putfield 759, .aload 0, .iconst 0, .iconst 0, .iconst 0, .iconst 0, .invokeinterface 211 4, .invokeinterface 214 2, .iconst 0, .istore 2],
  [.iload 2, .ifCond .ne 22, .iconst 0, .istore 3],
  [.iload 3, .aload 0, .getfield 759, .if_icmp .ge 12, .aload 0, .getstatic 757, .iload 3, .iaload, .iconst 60, .irem, .istore 4, .aload 0, .getstatic 757, .iload 3, .iaload, .iconst 60, .idiv, .iconst 2, .irem, .istore 5, .aload 0, .getstatic 757, .iload 3, .iaload, .iconst 120, .idiv, .iconst 28, .irem, .istore 6, .aload 0, .getstatic 757, .iload 3, .iaload, .iconst 3360, .idiv, .istore 7, .iload 7, .aload 0, .getfield 723, .if_icmp .ne 9, .iload 2, .ifCond .ne 6, .iload 4, .iconst 1, .if_icmp .ne 7],
  [.iconst 1, .goto 8],
  [.iconst 0],
  [.istore 2, .goto 11],
  [.iload 7, .iload 6, .iconst 1, .iadd, .iconst 28, .irem, .iload 5, .iload 4, .invokeinterface 211 4, .istore 8, .iload 7, .iload 6, .iconst 1, .iload 5, .isub, .iload 4, .invokeinterface 211 4, .istore 9, .aload 0, .getstatic 754, .iload 8, .iaload, .iconst 1, .iadd, .aload 0, .getstatic 754, .aload 0, .getstatic 757, .iload 3, .iaload, .iaload, .if_icmp .ne 10, .aload 0, .iload 8, .invokeinterface 214 2],
  [.aload 0, .getstatic 754, .iload 9, .iaload, .iconst 1, .iadd, .aload 0, .getstatic 754, .aload 0, .getstatic 757, .iload 3, .iaload, .iaload, .if_icmp .ne 11, .aload 0, .iload 9, .invokeinterface 214 2],
  [.iinc 3 1, .goto 5],
  [.aload 0, .iconst 0, .putfield 760, .iconst 0, .istore 3],
  [.iload 3, .iconst 55, .if_icmp .ge 17, .iload 2, .ifCond .ne 17, .aload 0, .getfield 760, .ifCond .ne 17, .iconst 0, .istore 4],
  [.iload 4, .aload 0, .getfield 759, .if_icmp .ge 15, .aload 0, .aload 0, .getstatic 757, .iload 4, .iaload, .iload 3, .invokeinterface 217 3, .iinc 4 1, .goto 14],
  [.aload 0, .getfield 760, .ifCond .le 16, .aload 0, .getstatic 761, .aload 0, .getfield 762, .iload 3, .iastore, .aload 0, .dup, .getfield 762, .iconst 1, .iadd, .putfield 762],
  [.iinc 3 1, .goto 13],
  [.iconst 0, .istore 3],
  [.iload 3, .aload 0, .getfield 759, .if_icmp .ge 19, .aload 0, .getstatic 755, .aload 0, .getstatic 757, .iload 3, .iaload, .iconst 0, .bastore, .iinc 3 1, .goto 18],
  [.aload 0, .iconst 0, .putfield 759, .iconst 0, .istore 3],
  [.iload 3, .aload 0, .getfield 760, .if_icmp .ge 21, .aload 0, .getstatic 756, .aload 0, .getstatic 758, .iload 3, .iaload, .iconst 0, .bastore, .aload 0, .aload 0, .getstatic 758, .iload 3, .iaload, .invokeinterface 214 2, .iinc 3 1, .goto 20],
  [.goto 4],
  [.iload 1, .ireturn]]
/-- TickerHouseModel.print(II)V -/
def tkm_217 : List (List Instr) := [
  [.iload 1, .iconst 60, .irem, .istore 3, .iload 1, .iconst 60, .idiv, .iconst 2, .irem, .istore 4, .iload 1, .iconst 120, .idiv, .iconst 28, .irem, .istore 5, .iload 1, .iconst 3360, .idiv, .istore 6, .iload 6, .aload 0, .getfield 723, .if_icmp .ne 1, .return_],
  [.aload 0, .iload 6, .iload 5, .iload 4, .iconst 0, .invokeinterface 212 5, .iload 2, .if_icmp .eq 2, .aload 0, .iload 6, .iload 5, .iload 4, .iconst 1, .invokeinterface 212 5, .iload 2, .if_icmp .ne 3],
  [.iconst 1, .goto 4],
  [.iconst 0],
  [.istore 7, .aload 0, .getstatic 753, .iload 3, .iaload, .istore 8],
  [.iload 8, .aload 0, .getstatic 753, .iload 3, .iconst 1, .iadd, .iaload, .if_icmp .ge 8, .aload 0, .getstatic 751, .iload 8, .iaload, .iload 2, .if_icmp .ne 7, .iload 6, .iload 5, .iload 4, .aload 0, .getstatic 752, .iload 8, .iaload, .invokeinterface 211 4, .istore 9, .iload 6, .iconst 1, .iadd, .iload 5, .iload 4, .aload 0, .getstatic 752, .iload 8, .iaload, .invokeinterface 211 4, .istore 10, .aload 0, .getstatic 754, .iload 9, .iaload, .iconst 1, .iadd, .aload 0, .getstatic 754, .iload 1, .iaload, .if_icmp .ne 6, .aload 0, .iload 9, .invokeinterface 218 2],
  [.iload 7, .ifCond .eq 7, .aload 0, .getstatic 754, .iload 10, .iaload, .aload 0, .getstatic 754, .iload 1, .iaload, .if_icmp .ne 7, .aload 0, .iload 10, .invokeinterface 218 2],
  [.iinc 8 1, .goto 5],
  [.return_]]
/-- TickerHouseModel.comes1(I)V -/
def tkm_218 : List (List Instr) := [
  [.aload 0, .getstatic 756, .iload 1, .baload, .ifCond .ne 1, .aload 0, .getstatic 756, .iload 1, .iconst 1, .bastore, .aload 0, .getstatic 758, .aload 0, .getfield 760, .iload 1, .iastore, .aload 0, .dup, .getfield 760, .iconst 1, .iadd, .putfield 760],
  [.return_]]
/-- TickerHouseModel.repair()I -/
def tkm_219 : List (List Instr) := [
  [.aload 0, .invokeinterface 215 1, .ireturn]]
/-- TickerHouseModel.repairAt(I)I -/
def tkm_220 : List (List Instr) := [
  [.iload 1, .ifCond .ge 1, .iconst (-2), .ireturn],
  [.aload 0, .invokeinterface 215 1, .iconst (-1), .if_icmp .eq 2, .iload 1, .aload 0, .getfield 762, .if_icmp .lt 3],
  [.iconst (-1), .goto 4],
  [.aload 0, .getstatic 761, .iload 1, .iaload],
  [.ireturn]]
/-- TickerHouseModel.mend()I -/
def tkm_221 : List (List Instr) := [
  [.aload 0, .invokeinterface 215 1, .iconst (-1), .if_icmp .ne 1, .iconst (-3), .ireturn],
  [.aload 0, .getfield 762, .iconst 40, .if_icmp .le 2, .iconst (-4), .ireturn],
  [.iconst 0, .istore 1],
  [.iload 1, .aload 0, .getfield 762, .if_icmp .ge 4, .aload 0, .getstatic 724, .iload 1, .aload 0, .getstatic 761, .iload 1, .iaload, .iastore, .iinc 1 1, .goto 3],
  [.aload 0, .aload 0, .getfield 762, .putfield 723, .aload 0, .iconst 0, .putstatic 763, .aload 0, .getfield 723, .ireturn]]
/-- TickerHouseModel.costOf(II)I -/
def tkm_222 : List (List Instr) := [
  [.aload 0, .invokeinterface 159 1, .iconst 0, .istore 3],
  [.iload 3, .aload 0, .getfield 723, .if_icmp .ge 3, .aload 0, .aload 0, .getstatic 724, .iload 3, .iaload, .iconst 1, .invokeinterface 161 3, .iload 1, .ifCond .le 2, .iload 3, .iconst 1, .iadd, .iload 1, .irem, .ifCond .ne 2, .aload 0, .iconst 1, .invokeinterface 162 2],
  [.iinc 3 1, .goto 1],
  [.aload 0, .invokeinterface 163 1, .ifCond .eq 4, .iconst (-4), .ireturn],
  [.aload 0, .getstatic 716, .iconst 1, .iaload, .aload 0, .getstatic 716, .iconst 0, .iaload, .isub, .istore 3, .iconst 0, .istore 4],
  [.iload 4, .aload 0, .getfield 704, .if_icmp .ge 8, .iload 3, .aload 0, .getstatic 708, .iload 4, .baload, .ifCond .eq 6, .iload 2, .aload 0, .iconst 9, .iload 4, .iadd, .iconst 17, .invokeinterface 170 3, .imul, .goto 7],
  [.iconst 0],
  [.iadd, .istore 3, .iinc 4 1, .goto 5],
  [.iload 3, .ireturn]]
/-- TickerHouseModel.cost(II)I -/
def tkm_223 : List (List Instr) := [
  [.iload 1, .i2l, .ldc2_w 0, .ldc2_w 20, .invokeinterface 145 3, .ifCond .eq 1, .iload 2, .i2l, .ldc2_w 0, .ldc2_w 1000, .invokeinterface 145 3, .ifCond .eq 1, .aload 0, .iload 1, .iload 2, .invokeinterface 222 3, .goto 2],
  [.iconst (-2)],
  [.ireturn]]
/-- TickerHouseModel.often(I)I -/
def tkm_224 : List (List Instr) := [
  [.iload 1, .i2l, .ldc2_w 0, .ldc2_w 1000, .invokeinterface 145 3, .ifCond .ne 1, .iconst (-2), .ireturn],
  [.iconst (-1), .istore 2, .iconst 0, .istore 3, .iconst 0, .istore 4],
  [.iload 4, .iconst 21, .if_icmp .ge 6, .aload 0, .iload 4, .iload 1, .invokeinterface 222 3, .istore 5, .iload 5, .iconst (-4), .if_icmp .ne 3, .iconst (-4), .ireturn],
  [.iload 2, .iconst (-1), .if_icmp .eq 4, .iload 5, .iload 3, .if_icmp .ge 5],
  [.iload 4, .istore 2, .iload 5, .istore 3],
  [.iinc 4 1, .goto 2],
  [.iload 2, .ireturn]]
/-- TickerHouseModel.count(I)I -/
def tkm_225 : List (List Instr) := [
  [.iload 1, .i2l, .ldc2_w 0, .ldc2_w 7, .invokeinterface 145 3, .ifCond .ne 1, .iconst (-2), .ireturn],
  [.iload 1, .ifCond .ne 2, .aload 0, .getfield 704, .goto 10],
  [.iload 1, .iconst 1, .if_icmp .ne 3, .aload 0, .getstatic 716, .iconst 0, .iaload, .goto 10],
  [.iload 1, .iconst 2, .if_icmp .ne 4, .aload 0, .getfield 713, .goto 10],
  [.iload 1, .iconst 3, .if_icmp .ne 5, .aload 0, .getfield 723, .goto 10],
  [.iload 1, .iconst 4, .if_icmp .ne 6, .aload 0, .getfield 725, .goto 10],
  [.iload 1, .iconst 5, .if_icmp .ne 7, .aload 0, .getfield 740, .goto 10],
  [.iload 1, .iconst 6, .if_icmp .ne 8, .aload 0, .getfield 712, .goto 10],
  [.aload 0, .getfield 729, .ifCond .eq 9, .iconst 1, .goto 10],
  [.iconst 0],
  [.ireturn]]
/-- TickerHouseModel.told1(JI)J -/
def tkm_226 : List (List Instr) := [
  [.lload 1, .lstore 4, .iconst 0, .istore 6],
  [.iload 6, .iconst 7, .if_icmp .ge 2, .ldc2_w 31, .lload 4, .lmul, .aload 0, .iload 3, .iload 6, .invokeinterface 167 3, .i2l, .ladd, .lstore 4, .iinc 6 1, .goto 1],
  [.lload 4, .lreturn]]
/-- TickerHouseModel.printed1(JI)J -/
def tkm_227 : List (List Instr) := [
  [.lload 1, .lstore 4, .iconst 0, .istore 6],
  [.iload 6, .aload 0, .getstatic 721, .iload 3, .iaload, .if_icmp .ge 2, .ldc2_w 31, .lload 4, .lmul, .aload 0, .getstatic 722, .iconst 300, .iload 3, .imul, .iload 6, .iadd, .iaload, .i2l, .ladd, .lstore 4, .iinc 6 1, .goto 1],
  [.lload 4, .lreturn]]
/-- TickerHouseModel.digest()J -/
def tkm_228 : List (List Instr) := [
  [.ldc2_w 263, .lstore 1, .iconst 0, .istore 3],
  [.iload 3, .iconst 8, .if_icmp .ge 2, .ldc2_w 31, .lload 1, .lmul, .aload 0, .iload 3, .invokeinterface 225 2, .i2l, .ladd, .lstore 1, .iinc 3 1, .goto 1],
  [.aload 0, .lload 1, .iconst 8, .invokeinterface 226 3, .lstore 1, .aload 0, .lload 1, .iconst 8, .invokeinterface 227 3, .lstore 1, .iconst 0, .istore 3],
  [.iload 3, .aload 0, .getfield 704, .if_icmp .ge 4, .aload 0, .lload 1, .iload 3, .invokeinterface 226 3, .lstore 1, .aload 0, .lload 1, .iload 3, .invokeinterface 227 3, .lstore 1, .iinc 3 1, .goto 3],
  [.iconst 0, .istore 3],
  [.iload 3, .aload 0, .getfield 723, .if_icmp .ge 6, .ldc2_w 31, .lload 1, .lmul, .aload 0, .getstatic 724, .iload 3, .iaload, .i2l, .ladd, .lstore 1, .iinc 3 1, .goto 5],
  [.iconst 0, .istore 3],
  [.iload 3, .aload 0, .getfield 725, .if_icmp .ge 10, .iconst 0, .istore 4],
  [.iload 4, .iconst 4, .if_icmp .ge 9, .ldc2_w 31, .lload 1, .lmul, .aload 0, .getstatic 726, .iconst 4, .iload 3, .imul, .iload 4, .iadd, .iaload, .i2l, .ladd, .lstore 1, .iinc 4 1, .goto 8],
  [.ldc2_w 31, .lload 1, .lmul, .aload 0, .getstatic 728, .iload 3, .iaload, .i2l, .ladd, .lstore 1, .iinc 3 1, .goto 7],
  [.iconst 0, .istore 3],
  [.iload 3, .aload 0, .getfield 740, .if_icmp .ge 12, .ldc2_w 31, .lload 1, .lmul, .aload 0, .getstatic 741, .iload 3, .iaload, .i2l, .ladd, .lstore 1, .ldc2_w 31, .lload 1, .lmul, .aload 0, .getstatic 742, .iload 3, .iaload, .i2l, .ladd, .lstore 1, .ldc2_w 31, .lload 1, .lmul, .aload 0, .getstatic 743, .iload 3, .iaload, .i2l, .ladd, .lstore 1, .ldc2_w 31, .lload 1, .lmul, .aload 0, .getstatic 744, .iload 3, .iaload, .i2l, .ladd, .lstore 1, .ldc2_w 31, .lload 1, .lmul, .aload 0, .getstatic 745, .iload 3, .iaload, .i2l, .ladd, .lstore 1, .iinc 3 1, .goto 11],
  [.lload 1, .lreturn]]
/-- java/lang/Integer.bitCount(I)I -/
def tkm_229 : List (List Instr) := [
  [.iload 0, .iload 0, .iconst 1, .iushr, .iconst 1431655765, .iand, .isub, .istore 0, .iload 0, .iconst 858993459, .iand, .iload 0, .iconst 2, .iushr, .iconst 858993459, .iand, .iadd, .istore 0, .iload 0, .iload 0, .iconst 4, .iushr, .iadd, .iconst 252645135, .iand, .istore 0, .iload 0, .iload 0, .iconst 8, .iushr, .iadd, .istore 0, .iload 0, .iload 0, .iconst 16, .iushr, .iadd, .istore 0, .iload 0, .iconst 63, .iand, .ireturn]]
/-- java/lang/Math.floorMod(II)I -/
def tkm_230 : List (List Instr) := [
  [.iload 0, .iload 1, .irem, .istore 2, .iload 0, .iload 1, .ixor, .ifCond .ge 1, .iload 2, .ifCond .eq 1, .iload 2, .iload 1, .iadd, .ireturn],
  [.iload 2, .ireturn]]
/-- java/lang/Math.max(II)I -/
def tkm_231 : List (List Instr) := [
  [.iload 0, .iload 1, .if_icmp .lt 1, .iload 0, .goto 2],
  [.iload 1],
  [.ireturn]]
/-- java/lang/Math.min(II)I -/
def tkm_232 : List (List Instr) := [
  [.iload 0, .iload 1, .if_icmp .gt 1, .iload 0, .goto 2],
  [.iload 1],
  [.ireturn]]
/-- java/util/Arrays.rangeCheck(III)V -/
def tkm_233 : List (List Instr) := [
  [.iload 1, .iload 2, .if_icmp .le 1, .nop],
  [.iload 1, .ifCond .ge 2, .nop],
  [.iload 2, .iload 0, .if_icmp .le 3, .nop],
  [.return_]]
/-- java/util/Arrays.fill([JIIJ)V -/
def tkm_234 : List (List Instr) := [
  [.aload 0, .arraylength, .iload 1, .iload 2, .invokeinterface 233 3, .iload 1, .istore 5],
  [.iload 5, .iload 2, .if_icmp .ge 2, .aload 0, .iload 5, .lload 3, .lastore, .iinc 5 1, .goto 1],
  [.return_]]
/-- java/util/Arrays.fill([II)V -/
def tkm_235 : List (List Instr) := [
  [.iconst 0, .istore 2, .aload 0, .arraylength, .istore 3],
  [.iload 2, .iload 3, .if_icmp .ge 2, .aload 0, .iload 2, .iload 1, .iastore, .iinc 2 1, .goto 1],
  [.return_]]
/-- java/util/Arrays.fill([IIII)V -/
def tkm_236 : List (List Instr) := [
  [.aload 0, .arraylength, .iload 1, .iload 2, .invokeinterface 233 3, .iload 1, .istore 4],
  [.iload 4, .iload 2, .if_icmp .ge 2, .aload 0, .iload 4, .iload 3, .iastore, .iinc 4 1, .goto 1],
  [.return_]]
def tkT_0 : List (Nat × Nat × List (List Instr)) := [(2, 0, tkm_0), (3, 0, tkm_1), (6, 0, tkm_2), (7, 0, tkm_3), (5, 0, tkm_4), (4, 0, tkm_5), (3, 0, tkm_6), (7, 0, tkm_7), (3, 1, tkm_8), (6, 1, tkm_9), (2, 1, tkm_10), (2, 1, tkm_11), (6, 1, tkm_12), (6, 1, tkm_13), (3, 1, tkm_14), (8, 1, tkm_15), (6, 1, tkm_16), (2, 2, tkm_17), (2, 2, tkm_18), (2, 2, tkm_19), (5, 2, tkm_20), (3, 2, tkm_21), (4, 2, tkm_22), (2, 2, tkm_23), (6, 2, tkm_24), (3, 2, tkm_25), (4, 2, tkm_26), (1, 2, tkm_27), (4, 2, tkm_28), (4, 2, tkm_29), (3, 2, tkm_30), (2, 2, tkm_31), (3, 2, tkm_32), (2, 2, tkm_33), (2, 2, tkm_34), (2, 3, tkm_35), (1, 3, tkm_36), (3, 3, tkm_37), (2, 3, tkm_38), (2, 3, tkm_39), (2, 3, tkm_40), (5, 3, tkm_41), (2, 3, tkm_42), (6, 3, tkm_43), (5, 4, tkm_44), (5, 4, tkm_45), (3, 4, tkm_46), (6, 4, tkm_47), (3, 4, tkm_48), (7, 4, tkm_49)]
def tkP_0 : List (List Nat) := [[0, 16, 17], [0, 30, 31], [0], [0, 3, 72, 78], [0, 17, 19, 41, 42, 58, 59, 75, 76], [0, 2, 26, 32], [0, 40, 41], [0, 5, 17, 45, 66], [0, 12, 36, 56, 66, 91], [0, 5, 78, 87], [0, 32, 53, 55, 85], [0, 63, 83], [0, 3, 29], [0, 5, 34, 40], [0, 20, 22], [0, 6, 55, 61], [0, 5, 35, 41], [0, 16, 17], [0, 13, 17, 18], [0, 17, 21], [0], [0, 39], [0, 2, 32, 38], [0], [0, 6, 22, 66, 67, 97], [0, 10, 61, 67], [0, 2, 41, 78, 92, 93, 105, 111], [0], [0, 2, 35, 41], [0, 4, 57, 63], [0, 4, 40, 46], [0, 10, 34], [0, 39, 68], [0], [0, 45, 51], [0], [0], [0, 5, 38, 46, 63, 64, 70, 75], [0, 30], [0, 35, 58], [0, 21, 22], [0, 29, 55, 61], [0, 44, 49, 54, 59, 70, 71, 72, 77, 82, 93, 94, 95], [0, 5, 32, 35, 65], [0, 28, 49, 78], [0, 33, 66, 73, 79], [0, 39, 43, 44], [0, 2, 79, 85], [0, 12, 43, 49], [0, 5, 89, 95]]
def tkT_1 : List (Nat × Nat × List (List Instr)) := [(7, 4, tkm_50), (7, 4, tkm_51), (7, 5, tkm_52), (1, 5, tkm_53), (4, 5, tkm_54), (6, 5, tkm_55), (4, 6, tkm_56), (2, 6, tkm_57), (7, 6, tkm_58), (5, 6, tkm_59), (6, 6, tkm_60), (4, 6, tkm_61), (2, 6, tkm_62), (3, 6, tkm_63), (4, 6, tkm_64), (3, 7, tkm_65), (6, 7, tkm_66), (1, 99, tkm_67), (6, 7, tkm_68), (7, 7, tkm_69), (2, 7, tkm_70), (2, 7, tkm_71), (4, 7, tkm_72), (4, 7, tkm_73), (4, 7, tkm_74), (4, 7, tkm_75), (2, 7, tkm_76), (4, 7, tkm_77), (4, 7, tkm_78), (4, 7, tkm_79), (5, 7, tkm_80), (2, 8, tkm_81), (2, 8, tkm_82), (5, 8, tkm_83), (1, 8, tkm_84), (2, 8, tkm_85), (4, 8, tkm_86), (5, 8, tkm_87), (6, 8, tkm_88), (6, 9, tkm_89), (4, 9, tkm_90), (4, 9, tkm_91), (5, 9, tkm_92), (7, 9, tkm_93), (7, 9, tkm_94), (4, 10, tkm_95), (4, 10, tkm_96), (4, 10, tkm_97), (3, 10, tkm_98), (2, 10, tkm_99)]
def tkP_1 : List (List Nat) := [[0, 16, 45, 103], [0, 3, 76, 82], [0, 12], [0], [0, 22, 24], [0, 5, 95], [0, 37, 68, 69, 75], [0, 35], [0, 14, 30, 72, 93, 94, 104, 123], [0, 5, 43, 57, 87, 89], [0, 36, 54, 71], [0, 29, 72, 73], [0, 20, 21], [0], [0, 56], [0, 23, 103, 115], [0, 2, 32, 38, 88, 94, 101], [0], [0, 2, 44, 85, 99, 100, 106, 112], [0, 18, 54, 71], [0], [0, 2, 20, 26], [0, 21, 23, 48, 49], [0, 22, 44, 49, 56, 86], [0, 5, 11, 60, 66, 72], [0, 27], [0, 2, 25, 31], [0, 2, 34, 40], [0, 2, 47, 49, 55], [0, 20, 42, 43], [0, 10, 65, 103, 109], [0, 18, 19], [0, 38], [0, 5, 22, 25, 59], [0], [0, 21, 22], [0, 2, 26], [0, 5, 34], [0, 5, 35], [0, 10, 82], [0, 2, 12, 58, 71], [0, 2, 32, 38], [0, 5, 39, 45], [0, 6, 55, 61], [0, 6, 55, 61], [0, 32, 35, 52, 62], [0, 14, 35], [0, 32, 35], [0, 21, 24, 41, 50], [0, 30, 32]]
def tkT_2 : List (Nat × Nat × List (List Instr)) := [(2, 10, tkm_100), (3, 10, tkm_101), (1, 10, tkm_102), (3, 10, tkm_103), (3, 10, tkm_104), (2, 10, tkm_105), (2, 10, tkm_106), (2, 10, tkm_107), (6, 10, tkm_108), (2, 10, tkm_109), (2, 10, tkm_110), (2, 10, tkm_111), (5, 10, tkm_112), (2, 10, tkm_113), (2, 10, tkm_114), (6, 10, tkm_115), (2, 10, tkm_116), (3, 10, tkm_117), (1, 10, tkm_118), (6, 10, tkm_119), (2, 10, tkm_120), (2, 10, tkm_121), (3, 10, tkm_122), (3, 10, tkm_123), (4, 10, tkm_124), (4, 10, tkm_125), (1, 10, tkm_126), (2, 10, tkm_127), (2, 10, tkm_128), (3, 10, tkm_129), (6, 10, tkm_130), (2, 10, tkm_131), (4, 10, tkm_132), (3, 99, tkm_133), (4, 10, tkm_134), (4, 99, tkm_135), (6, 10, tkm_136), (1, 99, tkm_137), (3, 10, tkm_138), (1, 99, tkm_139), (1, 99, tkm_140), (1, 99, tkm_141), (1, 99, tkm_142), (1, 99, tkm_143), (2, 99, tkm_144), (6, 99, tkm_145), (1, 99, tkm_146), (1, 99, tkm_147), (2, 99, tkm_148), (4, 11, tkm_149)]
def tkP_2 : List (List Nat) := [[0, 12, 27], [0, 13, 47], [0, 18], [0, 21, 24], [0, 15, 18], [0, 33, 35], [0], [0, 13, 27], [0, 19, 22, 52, 55, 69, 72, 100], [0], [0], [0, 38], [0, 14, 33, 50, 62], [0], [0, 23, 25], [0, 13, 36, 37, 68, 71, 105], [0, 12, 39, 54, 61], [0, 13, 16, 44, 58, 75, 84], [0, 29], [0, 34, 37, 52], [0], [0, 22, 37], [0, 20, 23, 56, 63], [0, 15, 18, 60, 61], [0, 20, 23, 59, 78, 87, 106], [0, 31, 34, 72, 85], [0], [0, 7], [0, 29, 47, 56, 94], [0, 21, 24], [0, 14, 21, 47, 58, 64, 70], [0, 48, 56, 64, 72, 80, 88, 96, 104, 115, 116, 117], [0, 6, 31, 45, 76], [0, 10, 14, 15], [0, 37, 38], [0, 37, 39, 47, 55, 59, 60], [0, 46, 64, 65, 68, 89, 115], [0, 8, 18, 19], [0, 38], [0, 15, 16], [0, 16, 17], [0, 16, 17], [0, 16, 17], [0, 9, 24, 25], [0, 6, 16, 27, 28], [0, 17, 18], [0, 10, 21, 25], [0, 8, 20, 24, 25], [0, 8, 20, 31, 32], [0, 36, 39, 51]]
def tkT_3 : List (Nat × Nat × List (List Instr)) := [(2, 11, tkm_150), (3, 11, tkm_151), (4, 11, tkm_152), (3, 11, tkm_153), (2, 11, tkm_154), (2, 11, tkm_155), (4, 11, tkm_156), (3, 11, tkm_157), (5, 11, tkm_158), (2, 11, tkm_159), (2, 11, tkm_160), (5, 11, tkm_161), (3, 11, tkm_162), (1, 11, tkm_163), (3, 11, tkm_164), (3, 11, tkm_165), (2, 11, tkm_166), (3, 11, tkm_167), (3, 11, tkm_168), (4, 11, tkm_169), (6, 11, tkm_170), (2, 11, tkm_171), (3, 11, tkm_172), (2, 11, tkm_173), (6, 11, tkm_174), (2, 11, tkm_175), (2, 11, tkm_176), (3, 11, tkm_177), (6, 11, tkm_178), (2, 11, tkm_179), (2, 11, tkm_180), (2, 11, tkm_181), (2, 11, tkm_182), (5, 11, tkm_183), (6, 11, tkm_184), (4, 11, tkm_185), (5, 11, tkm_186), (1, 11, tkm_187), (1, 11, tkm_188), (6, 11, tkm_189), (7, 11, tkm_190), (2, 11, tkm_191), (2, 11, tkm_192), (3, 11, tkm_193), (2, 11, tkm_194), (6, 11, tkm_195), (2, 11, tkm_196), (6, 11, tkm_197), (2, 11, tkm_198), (5, 11, tkm_199)]
def tkP_3 : List (List Nat) := [[0], [0, 11, 24], [0, 36, 39], [0, 20, 23, 35], [0], [0, 16, 18], [0, 17, 19, 21, 51, 57], [0, 59, 76, 107, 166], [0, 10, 44, 59, 65], [0, 2, 84], [0, 15, 29], [0, 11, 31, 58, 89, 102, 103, 108], [0, 2, 20], [0, 15, 16], [0, 15, 35], [0, 17, 26, 80, 81, 89], [0, 10, 22, 24], [0, 11, 23, 35, 53, 54, 55, 67, 82, 88, 89, 104, 108, 109], [0, 22, 27, 37], [0, 16, 19, 44, 45], [0, 24, 30, 53, 94, 95, 104], [0, 18, 20], [0, 10, 29], [0, 15, 27], [0, 39, 42, 56, 59, 106], [0], [0, 25, 26], [0, 6, 31, 41, 50, 75], [0, 37, 38, 58, 59, 65, 68, 71, 142, 148, 160, 232, 240, 248, 249], [0], [0], [0, 17, 19], [0], [0, 5, 19, 30, 55], [0, 8, 40, 60, 69, 87, 104], [0, 36, 37], [0, 13, 56, 57, 77, 80, 121], [0, 37, 38], [0, 16, 17], [0, 2, 26, 27, 32, 70, 71, 79, 86, 92], [0, 5, 49, 62, 91, 99, 149, 164, 195, 213, 280, 326, 365, 398, 412, 417, 440, 445], [0, 22, 48, 92, 99], [0, 15, 30, 42, 46], [0, 16, 19, 35, 48, 62, 68], [0, 15, 17, 43], [0, 37, 40, 52], [0], [0, 33, 80, 120], [0, 24, 26], [0, 2, 27, 36, 55, 130, 138, 144, 150]]
def tkT_4 : List (Nat × Nat × List (List Instr)) := [(4, 11, tkm_200), (3, 99, tkm_201), (4, 11, tkm_202), (4, 11, tkm_203), (10, 11, tkm_204), (7, 11, tkm_205), (6, 11, tkm_206), (7, 11, tkm_207), (3, 11, tkm_208), (4, 11, tkm_209), (4, 11, tkm_210), (4, 99, tkm_211), (7, 11, tkm_212), (11, 11, tkm_213), (2, 11, tkm_214), (1, 11, tkm_215), (10, 11, tkm_216), (11, 11, tkm_217), (2, 11, tkm_218), (1, 11, tkm_219), (2, 11, tkm_220), (2, 11, tkm_221), (5, 11, tkm_222), (3, 11, tkm_223), (6, 11, tkm_224), (2, 11, tkm_225), (7, 11, tkm_226), (7, 11, tkm_227), (5, 11, tkm_228), (1, 99, tkm_229), (3, 99, tkm_230), (2, 99, tkm_231), (2, 99, tkm_232), (3, 99, tkm_233), (6, 99, tkm_234), (4, 99, tkm_235), (5, 99, tkm_236)]
def tkP_4 : List (List Nat) := [[0, 14, 20, 42, 43], [0, 4, 24], [0, 9, 66, 68, 74], [0, 22, 25, 39, 45], [0, 16, 19, 35, 52, 64, 139, 140, 142, 145, 168], [0, 4, 17, 32, 55, 59, 60, 68, 94, 97, 103, 129, 135, 155], [0, 24, 27, 39, 80, 108, 109, 118, 126, 136, 145, 158], [0, 30, 33, 43, 97, 108, 117, 123], [0], [0, 2, 23], [0, 7, 30, 61, 64, 112, 147, 150, 164, 179, 198, 218, 239, 251, 258, 271, 295, 301], [0], [0, 21, 31, 36, 60, 62], [0, 2, 10, 18, 43, 46, 51, 85, 145, 147, 149, 155, 161, 182, 188, 194, 206, 207, 208, 216, 225, 234, 308, 310, 321, 368, 370, 378, 414, 420, 426, 432, 435], [0, 36], [0, 20], [0, 9, 24, 45, 68, 74, 151, 155, 156, 160, 222, 251, 257, 264, 284, 311, 338, 344, 346, 372, 379, 415, 418], [0, 39, 69, 73, 74, 84, 170, 197, 203], [0, 36], [0], [0, 7, 23, 27, 33], [0, 11, 23, 25, 51], [0, 6, 42, 48, 58, 75, 111, 112, 120], [0, 33, 35], [0, 15, 22, 48, 59, 65, 71], [0, 15, 26, 40, 52, 64, 76, 88, 101, 112, 113], [0, 6, 36], [0, 6, 46], [0, 6, 31, 49, 77, 79, 107, 109, 120, 151, 171, 173, 257], [0], [0, 18], [0, 9, 10], [0, 9, 10], [0, 46, 59, 73], [0, 10, 27], [0, 5, 20], [0, 10, 27]]
def tkZok (z : (Nat × Nat × List (List Instr)) × tkMd × List Nat) : Bool := decide (z.1.1 = z.2.1.1.2.1) && decide (z.1.2.1 = (if z.2.1.2.1.2.1 = true then 99 else z.2.1.2.1.1)) && tkChk (tkCodeAt z.2.1.2.2.1) z.2.1.2.1.1 z.2.1.1.2.1 z.2.2 z.2.1.1.2.2 false 0 z.1.2.2 && decide (z.2.2.getD 0 0 = 0)
def tkZ_0 : List ((Nat × Nat × List (List Instr)) × tkMd × List Nat) := tkT_0.zip (tkMt_0.zip tkP_0)
theorem tkZ_ok_0_0 : ((tkZ_0.drop 0).take 10).all tkZok = true := by decide +kernel
theorem tkZ_ok_0_1 : ((tkZ_0.drop 10).take 10).all tkZok = true := by decide +kernel
theorem tkZ_ok_0_2 : ((tkZ_0.drop 20).take 10).all tkZok = true := by decide +kernel
theorem tkZ_ok_0_3 : ((tkZ_0.drop 30).take 10).all tkZok = true := by decide +kernel
theorem tkZ_ok_0_4 : ((tkZ_0.drop 40).take 10).all tkZok = true := by decide +kernel
theorem tkZ_ok_0 : tkZ_0.all tkZok = true := tk_all5 tkZ_0 tkZok tkZ_ok_0_0 tkZ_ok_0_1 tkZ_ok_0_2 tkZ_ok_0_3 tkZ_ok_0_4 (by decide +kernel)
def tkZ_1 : List ((Nat × Nat × List (List Instr)) × tkMd × List Nat) := tkT_1.zip (tkMt_1.zip tkP_1)
theorem tkZ_ok_1_0 : ((tkZ_1.drop 0).take 10).all tkZok = true := by decide +kernel
theorem tkZ_ok_1_1 : ((tkZ_1.drop 10).take 10).all tkZok = true := by decide +kernel
theorem tkZ_ok_1_2 : ((tkZ_1.drop 20).take 10).all tkZok = true := by decide +kernel
theorem tkZ_ok_1_3 : ((tkZ_1.drop 30).take 10).all tkZok = true := by decide +kernel
theorem tkZ_ok_1_4 : ((tkZ_1.drop 40).take 10).all tkZok = true := by decide +kernel
theorem tkZ_ok_1 : tkZ_1.all tkZok = true := tk_all5 tkZ_1 tkZok tkZ_ok_1_0 tkZ_ok_1_1 tkZ_ok_1_2 tkZ_ok_1_3 tkZ_ok_1_4 (by decide +kernel)
def tkZ_2 : List ((Nat × Nat × List (List Instr)) × tkMd × List Nat) := tkT_2.zip (tkMt_2.zip tkP_2)
theorem tkZ_ok_2_0 : ((tkZ_2.drop 0).take 10).all tkZok = true := by decide +kernel
theorem tkZ_ok_2_1 : ((tkZ_2.drop 10).take 10).all tkZok = true := by decide +kernel
theorem tkZ_ok_2_2 : ((tkZ_2.drop 20).take 10).all tkZok = true := by decide +kernel
theorem tkZ_ok_2_3 : ((tkZ_2.drop 30).take 10).all tkZok = true := by decide +kernel
theorem tkZ_ok_2_4 : ((tkZ_2.drop 40).take 10).all tkZok = true := by decide +kernel
theorem tkZ_ok_2 : tkZ_2.all tkZok = true := tk_all5 tkZ_2 tkZok tkZ_ok_2_0 tkZ_ok_2_1 tkZ_ok_2_2 tkZ_ok_2_3 tkZ_ok_2_4 (by decide +kernel)
def tkZ_3 : List ((Nat × Nat × List (List Instr)) × tkMd × List Nat) := tkT_3.zip (tkMt_3.zip tkP_3)
theorem tkZ_ok_3_0 : ((tkZ_3.drop 0).take 10).all tkZok = true := by decide +kernel
theorem tkZ_ok_3_1 : ((tkZ_3.drop 10).take 10).all tkZok = true := by decide +kernel
theorem tkZ_ok_3_2 : ((tkZ_3.drop 20).take 10).all tkZok = true := by decide +kernel
theorem tkZ_ok_3_3 : ((tkZ_3.drop 30).take 10).all tkZok = true := by decide +kernel
theorem tkZ_ok_3_4 : ((tkZ_3.drop 40).take 10).all tkZok = true := by decide +kernel
theorem tkZ_ok_3 : tkZ_3.all tkZok = true := tk_all5 tkZ_3 tkZok tkZ_ok_3_0 tkZ_ok_3_1 tkZ_ok_3_2 tkZ_ok_3_3 tkZ_ok_3_4 (by decide +kernel)
def tkZ_4 : List ((Nat × Nat × List (List Instr)) × tkMd × List Nat) := tkT_4.zip (tkMt_4.zip tkP_4)
theorem tkZ_ok_4_0 : ((tkZ_4.drop 0).take 10).all tkZok = true := by decide +kernel
theorem tkZ_ok_4_1 : ((tkZ_4.drop 10).take 10).all tkZok = true := by decide +kernel
theorem tkZ_ok_4_2 : ((tkZ_4.drop 20).take 10).all tkZok = true := by decide +kernel
theorem tkZ_ok_4_3 : ((tkZ_4.drop 30).take 10).all tkZok = true := by decide +kernel
theorem tkZ_ok_4_4 : ((tkZ_4.drop 40).take 10).all tkZok = true := by decide +kernel
theorem tkZ_ok_4 : tkZ_4.all tkZok = true := tk_all5 tkZ_4 tkZok tkZ_ok_4_0 tkZ_ok_4_1 tkZ_ok_4_2 tkZ_ok_4_3 tkZ_ok_4_4 (by decide +kernel)
def tkT : List (Nat × Nat × List (List Instr)) := tkT_0 ++ (tkT_1 ++ (tkT_2 ++ (tkT_3 ++ (tkT_4))))
def tkP : List (List Nat) := tkP_0 ++ (tkP_1 ++ (tkP_2 ++ (tkP_3 ++ (tkP_4))))
theorem tkZ_all : (tkT.zip (tkMt.zip tkP)).all tkZok = true := by
  have e : tkT.zip (tkMt.zip tkP) = tkZ_0 ++ (tkZ_1 ++ (tkZ_2 ++ (tkZ_3 ++ (tkZ_4)))) := by
    unfold tkT tkMt tkP
    rw [List.zip_append (by decide +kernel), List.zip_append (by decide +kernel), List.zip_append (by decide +kernel), List.zip_append (by decide +kernel), List.zip_append (by decide +kernel), List.zip_append (by decide +kernel), List.zip_append (by decide +kernel), List.zip_append (by decide +kernel)]
    rfl
  rw [e]
  simp only [List.all_append, tkZ_ok_0, tkZ_ok_1, tkZ_ok_2, tkZ_ok_3, tkZ_ok_4, Bool.and_self]
theorem tkT_ok : tkOk tkT := by
  intro mi x hx
  have l1 : tkT.length = 237 := by decide +kernel
  have l2 : tkMt.length = 237 := by decide +kernel
  have l3 : tkP.length = 237 := by decide +kernel
  have hlt : mi < 237 := by rw [← l1]; exact (List.getElem?_eq_some_iff.mp hx).1
  obtain ⟨md, hmd⟩ : ∃ md, tkMt[mi]? = some md := ⟨_, List.getElem?_eq_getElem (by omega)⟩
  obtain ⟨pcs, hpc⟩ : ∃ pcs, tkP[mi]? = some pcs := ⟨_, List.getElem?_eq_getElem (by omega)⟩
  have hz : (tkT.zip (tkMt.zip tkP))[mi]? = some (x, md, pcs) := by
    rw [List.getElem?_zip_eq_some]
    exact ⟨hx, List.getElem?_zip_eq_some.mpr ⟨hmd, hpc⟩⟩
  have hk := List.all_eq_true.mp tkZ_all _ (List.mem_of_getElem? hz)
  unfold tkZok at hk
  simp only [Bool.and_eq_true, decide_eq_true_eq] at hk
  exact ⟨md, pcs, hmd, hk.1.1.1, hk.1.1.2, hk.1.2, hk.2⟩
