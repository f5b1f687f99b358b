/-! the cells that the constructors made are those of the small machine -/
def adsL (h0 h1 : Nat) (q r : Nat → Nat) : List Nat := h0 :: q 0 :: q 23 :: q 46 :: q 48 :: q 50 :: q 53 :: q 58 :: q 65 :: q 70 :: q 74 :: q 77 :: q 75 :: h1 :: q 47 :: q 49 :: q 76 :: q 51 :: q 52 :: q 79 :: q 3 :: q 4 :: q 5 :: q 6 :: q 1 :: q 2 :: q 7 :: q 8 :: q 9 :: q 10 :: q 11 :: q 12 :: q 13 :: q 14 :: q 15 :: q 16 :: q 17 :: q 18 :: q 19 :: q 20 :: q 21 :: q 22 :: q 26 :: q 27 :: q 28 :: q 29 :: q 24 :: q 25 :: q 30 :: q 31 :: q 32 :: q 33 :: q 34 :: q 35 :: q 36 :: q 37 :: q 38 :: q 39 :: q 40 :: q 41 :: q 42 :: q 43 :: q 44 :: q 45 :: q 54 :: q 55 :: q 56 :: q 57 :: q 59 :: q 60 :: q 61 :: q 62 :: q 63 :: q 64 :: q 66 :: q 67 :: q 68 :: q 69 :: q 71 :: q 72 :: q 73 :: q 80 :: q 81 :: q 82 :: q 83 :: q 84 :: q 78 :: r 0 :: r 1 :: r 2 :: r 3 :: r 4 :: r 5 :: r 6 :: r 7 :: r 8 :: r 9 :: r 10 :: r 11 :: r 12 :: r 13 :: r 14 :: r 15 :: r 16 :: r 17 :: r 18 :: r 19 :: r 20 :: r 21 :: r 22 :: r 23 :: r 24 :: r 25 :: r 26 :: r 27 :: r 28 :: r 29 :: r 30 :: r 31 :: r 32 :: r 33 :: r 34 :: r 35 :: r 36 :: r 37 :: r 38 :: r 39 :: r 40 :: []
def ads0 (b h0 h1 : Nat) (q r : Nat → Nat) (k : Nat) : Nat := if k = 1000 then b else (adsL h0 h1 q r).getD k 0
def wtL (cy : Nat → ClassId) (h0 h1 : Nat) (q r : Nat → Nat) : va_W := (h1, .inr (11, fsX11 r)) :: (((h0, .inr (10, fsX10 q)) :: ([] ++ nwX10 cy q)) ++ nwX11 cy r)
def piL : List Nat := 1 :: 2 :: 25 :: 48 :: 50 :: 52 :: 55 :: 60 :: 67 :: 72 :: 76 :: 79 :: 77 :: 0 :: 49 :: 51 :: 78 :: 53 :: 54 :: 81 :: 3 :: 6 :: 7 :: 8 :: 4 :: 5 :: 9 :: 10 :: 11 :: 12 :: 13 :: 14 :: 15 :: 16 :: 17 :: 18 :: 19 :: 20 :: 21 :: 22 :: 23 :: 24 :: 26 :: 29 :: 30 :: 31 :: 27 :: 28 :: 32 :: 33 :: 34 :: 35 :: 36 :: 37 :: 38 :: 39 :: 40 :: 41 :: 42 :: 43 :: 44 :: 45 :: 46 :: 47 :: 56 :: 57 :: 58 :: 59 :: 61 :: 62 :: 63 :: 64 :: 65 :: 66 :: 68 :: 69 :: 70 :: 71 :: 73 :: 74 :: 75 :: 82 :: 83 :: 84 :: 85 :: 86 :: 80 :: 87 :: 88 :: 89 :: 90 :: 91 :: 92 :: 93 :: 94 :: 95 :: 96 :: 97 :: 98 :: 99 :: 100 :: 101 :: 102 :: 103 :: 104 :: 105 :: 106 :: 107 :: 108 :: 109 :: 110 :: 111 :: 112 :: 113 :: 114 :: 115 :: 116 :: 117 :: 118 :: 119 :: 120 :: 121 :: 122 :: 123 :: 124 :: 125 :: 126 :: 127 :: []
theorem arrV_ext {cA : ClassId} {n : Nat} {f g : Nat → Value} (h : ∀ j, j < n → f j = g j) : arrV cA n f = arrV cA n g := by
  unfold arrV
  congr 1
  apply congrArg
  funext j
  exact h j.val j.isLt
set_option maxHeartbeats 1000000 in
set_option maxRecDepth 100000 in
theorem wt_P0 {D : va_G} {cy : Nat → ClassId} {b h0 h1 : Nat} {q r : Nat → Nat} {H : Heap} (hP : va_P D vwCl (wtL cy h0 h1 q r) H) : ∀ k, k < 4 → va_at D vwCl (ads0 b h0 h1 q r k, tkWc (ads0 b h0 h1 q r) cy (I0, J0) k) H := by
  intro k hk
  match k, hk with
  | 0, _ => exact hP 1 _ rfl
  | 1, _ => exact hP 2 _ rfl
  | 2, _ => exact hP 25 _ rfl
  | 3, _ => exact hP 48 _ rfl
