/-! the cells that the constructors made are those of the small machine -/
def adsL (h0 h1 : Nat) (q r : Nat → Nat) : List Nat := h0 :: q 0 :: q 23 :: q 46 :: q 48 :: q 50 :: q 53 :: q 58 :: q 65 :: q 70 :: q 74 :: q 77 :: q 75 :: h1 :: q 47 :: q 49 :: q 76 :: q 51 :: q 52 :: q 79 :: q 3 :: q 4 :: q 5 :: q 6 :: q 1 :: q 2 :: q 7 :: q 8 :: q 9 :: q 10 :: q 11 :: q 12 :: q 13 :: q 14 :: q 15 :: q 16 :: q 17 :: q 18 :: q 19 :: q 20 :: q 21 :: q 22 :: q 26 :: q 27 :: q 28 :: q 29 :: q 24 :: q 25 :: q 30 :: q 31 :: q 32 :: q 33 :: q 34 :: q 35 :: q 36 :: q 37 :: q 38 :: q 39 :: q 40 :: q 41 :: q 42 :: q 43 :: q 44 :: q 45 :: q 54 :: q 55 :: q 56 :: q 57 :: q 59 :: q 60 :: q 61 :: q 62 :: q 63 :: q 64 :: q 66 :: q 67 :: q 68 :: q 69 :: q 71 :: q 72 :: q 73 :: q 80 :: q 81 :: q 82 :: q 83 :: q 84 :: q 78 :: r 0 :: r 1 :: r 2 :: r 3 :: r 4 :: r 5 :: r 6 :: r 7 :: r 8 :: r 9 :: r 10 :: r 11 :: r 12 :: r 13 :: r 14 :: r 15 :: r 16 :: r 17 :: r 18 :: r 19 :: r 20 :: r 21 :: r 22 :: r 23 :: r 24 :: r 25 :: r 26 :: r 27 :: r 28 :: r 29 :: r 30 :: r 31 :: r 32 :: r 33 :: r 34 :: r 35 :: r 36 :: r 37 :: r 38 :: r 39 :: r 40 :: []
def ads0 (b h0 h1 : Nat) (q r : Nat → Nat) (k : Nat) : Nat := if k = 1000 then b else (adsL h0 h1 q r).getD k 0
def wtL (cy : Nat → ClassId) (h0 h1 : Nat) (q r : Nat → Nat) : va_W := (h1, .inr (11, fsX11 r)) :: (((h0, .inr (10, fsX10 q)) :: ([] ++ nwX10 cy q)) ++ nwX11 cy r)
def piL : List Nat := 1 :: 2 :: 25 :: 48 :: 50 :: 52 :: 55 :: 60 :: 67 :: 72 :: 76 :: 79 :: 77 :: 0 :: 49 :: 51 :: 78 :: 53 :: 54 :: 81 :: 3 :: 6 :: 7 :: 8 :: 4 :: 5 :: 9 :: 10 :: 11 :: 12 :: 13 :: 14 :: 15 :: 16 :: 17 :: 18 :: 19 :: 20 :: 21 :: 22 :: 23 :: 24 :: 26 :: 29 :: 30 :: 31 :: 27 :: 28 :: 32 :: 33 :: 34 :: 35 :: 36 :: 37 :: 38 :: 39 :: 40 :: 41 :: 42 :: 43 :: 44 :: 45 :: 46 :: 47 :: 56 :: 57 :: 58 :: 59 :: 61 :: 62 :: 63 :: 64 :: 65 :: 66 :: 68 :: 69 :: 70 :: 71 :: 73 :: 74 :: 75 :: 82 :: 83 :: 84 :: 85 :: 86 :: 80 :: 87 :: 88 :: 89 :: 90 :: 91 :: 92 :: 93 :: 94 :: 95 :: 96 :: 97 :: 98 :: 99 :: 100 :: 101 :: 102 :: 103 :: 104 :: 105 :: 106 :: 107 :: 108 :: 109 :: 110 :: 111 :: 112 :: 113 :: 114 :: 115 :: 116 :: 117 :: 118 :: 119 :: 120 :: 121 :: 122 :: 123 :: 124 :: 125 :: 126 :: 127 :: []
theorem arrV_ext {cA : ClassId} {n : Nat} {f g : Nat → Value} (h : ∀ j, j < n → f j = g j) : arrV cA n f = arrV cA n g := by
  unfold arrV
  congr 1
  apply congrArg
  funext j
  exact h j.val j.isLt
theorem vpr_ext {cA : ClassId} {n : Nat} {f g : Nat → Option Nat} (h : ∀ j, j < n → f j = g j) : vp_cell cA (n, .inr (.inr (.inr (.inr f)))) = vp_cell cA (n, .inr (.inr (.inr (.inr g)))) := by
  show arrV cA n (fun j => va_rf (f j)) = arrV cA n (fun j => va_rf (g j))
  exact arrV_ext (fun j hj => by rw [h j hj])
set_option maxHeartbeats 1000000 in
set_option maxRecDepth 100000 in
theorem wt_P0 {D : va_G} {cy : Nat → ClassId} {b h0 h1 : Nat} {q r : Nat → Nat} {H : Heap} (hP : va_P D vwCl (wtL cy h0 h1 q r) H) : ∀ k, 0 ≤ k ∧ k < 16 → va_at D vwCl (ads0 b h0 h1 q r k, tkWc (ads0 b h0 h1 q r) cy (I0, J0) k) H := by
  rintro k ⟨hk1, hk2⟩
  obtain ⟨j, rfl⟩ : ∃ j, k = 0 + j := ⟨k - 0, by omega⟩
  have hj : j < 16 := by omega
  clear hk1 hk2
  match j, hj with
  | 0, _ => exact hP 1 _ rfl
  | 1, _ => exact hP 2 _ rfl
  | 2, _ => exact hP 25 _ rfl
  | 3, _ => exact hP 48 _ rfl
  | 4, _ => exact hP 50 _ rfl
  | 5, _ => exact hP 52 _ rfl
  | 6, _ => exact hP 55 _ rfl
  | 7, _ => exact hP 60 _ rfl
  | 8, _ => exact hP 67 _ rfl
  | 9, _ => exact hP 72 _ rfl
  | 10, _ => exact hP 76 _ rfl
  | 11, _ => exact hP 79 _ rfl
  | 12, _ => exact hP 77 _ rfl
  | 13, _ => exact hP 0 _ rfl
  | 14, _ => exact hP 49 _ rfl
  | 15, _ => exact hP 51 _ rfl
  | j + 16, h => exact absurd h (by omega)
set_option maxHeartbeats 1000000 in
set_option maxRecDepth 100000 in
theorem wt_P1 {D : va_G} {cy : Nat → ClassId} {b h0 h1 : Nat} {q r : Nat → Nat} {H : Heap} (hP : va_P D vwCl (wtL cy h0 h1 q r) H) : ∀ k, 16 ≤ k ∧ k < 32 → va_at D vwCl (ads0 b h0 h1 q r k, tkWc (ads0 b h0 h1 q r) cy (I0, J0) k) H := by
  rintro k ⟨hk1, hk2⟩
  obtain ⟨j, rfl⟩ : ∃ j, k = 16 + j := ⟨k - 16, by omega⟩
  have hj : j < 16 := by omega
  clear hk1 hk2
  match j, hj with
  | 0, _ => exact hP 78 _ rfl
  | 1, _ => exact hP 53 _ rfl
  | 2, _ => exact hP 54 _ rfl
  | 3, _ => exact hP 81 _ rfl
  | 4, _ =>
    have h := hP 3 _ rfl
    show H[ads0 b h0 h1 q r 20]? = some (vp_cell (cy 3) (8, .inr (.inr (.inr (.inr (fun j => some (ads0 b h0 h1 q r (tkRf 20 j))))))))
    refine Eq.trans h (congrArg some (vpr_ext (fun j hj => ?_)))
    match j, hj with
    | 0, _ => rfl
    | 1, _ => rfl
    | 2, _ => rfl
    | 3, _ => rfl
    | 4, _ => rfl
    | 5, _ => rfl
    | 6, _ => rfl
    | 7, _ => rfl
    | j + 8, h => exact absurd h (by omega)
  | 5, _ => exact hP 6 _ rfl
  | 6, _ => exact hP 7 _ rfl
  | 7, _ => exact hP 8 _ rfl
  | 8, _ => exact hP 4 _ rfl
  | 9, _ => exact hP 5 _ rfl
  | 10, _ => exact hP 9 _ rfl
  | 11, _ => exact hP 10 _ rfl
  | 12, _ => exact hP 11 _ rfl
  | 13, _ => exact hP 12 _ rfl
  | 14, _ => exact hP 13 _ rfl
  | 15, _ => exact hP 14 _ rfl
  | j + 16, h => exact absurd h (by omega)
set_option maxHeartbeats 1000000 in
set_option maxRecDepth 100000 in
theorem wt_P2 {D : va_G} {cy : Nat → ClassId} {b h0 h1 : Nat} {q r : Nat → Nat} {H : Heap} (hP : va_P D vwCl (wtL cy h0 h1 q r) H) : ∀ k, 32 ≤ k ∧ k < 48 → va_at D vwCl (ads0 b h0 h1 q r k, tkWc (ads0 b h0 h1 q r) cy (I0, J0) k) H := by
  rintro k ⟨hk1, hk2⟩
  obtain ⟨j, rfl⟩ : ∃ j, k = 32 + j := ⟨k - 32, by omega⟩
  have hj : j < 16 := by omega
  clear hk1 hk2
  match j, hj with
  | 0, _ => exact hP 15 _ rfl
  | 1, _ => exact hP 16 _ rfl
  | 2, _ => exact hP 17 _ rfl
  | 3, _ => exact hP 18 _ rfl
  | 4, _ => exact hP 19 _ rfl
  | 5, _ => exact hP 20 _ rfl
  | 6, _ => exact hP 21 _ rfl
  | 7, _ => exact hP 22 _ rfl
  | 8, _ => exact hP 23 _ rfl
  | 9, _ => exact hP 24 _ rfl
  | 10, _ =>
    have h := hP 26 _ rfl
    show H[ads0 b h0 h1 q r 42]? = some (vp_cell (cy 3) (8, .inr (.inr (.inr (.inr (fun j => some (ads0 b h0 h1 q r (tkRf 42 j))))))))
    refine Eq.trans h (congrArg some (vpr_ext (fun j hj => ?_)))
    match j, hj with
    | 0, _ => rfl
    | 1, _ => rfl
    | 2, _ => rfl
    | 3, _ => rfl
    | 4, _ => rfl
    | 5, _ => rfl
    | 6, _ => rfl
    | 7, _ => rfl
    | j + 8, h => exact absurd h (by omega)
  | 11, _ => exact hP 29 _ rfl
  | 12, _ => exact hP 30 _ rfl
  | 13, _ => exact hP 31 _ rfl
  | 14, _ => exact hP 27 _ rfl
  | 15, _ => exact hP 28 _ rfl
  | j + 16, h => exact absurd h (by omega)
set_option maxHeartbeats 1000000 in
set_option maxRecDepth 100000 in
theorem wt_P3 {D : va_G} {cy : Nat → ClassId} {b h0 h1 : Nat} {q r : Nat → Nat} {H : Heap} (hP : va_P D vwCl (wtL cy h0 h1 q r) H) : ∀ k, 48 ≤ k ∧ k < 64 → va_at D vwCl (ads0 b h0 h1 q r k, tkWc (ads0 b h0 h1 q r) cy (I0, J0) k) H := by
  rintro k ⟨hk1, hk2⟩
  obtain ⟨j, rfl⟩ : ∃ j, k = 48 + j := ⟨k - 48, by omega⟩
  have hj : j < 16 := by omega
  clear hk1 hk2
  match j, hj with
  | 0, _ => exact hP 32 _ rfl
  | 1, _ => exact hP 33 _ rfl
  | 2, _ => exact hP 34 _ rfl
  | 3, _ => exact hP 35 _ rfl
  | 4, _ => exact hP 36 _ rfl
  | 5, _ => exact hP 37 _ rfl
  | 6, _ => exact hP 38 _ rfl
  | 7, _ => exact hP 39 _ rfl
  | 8, _ => exact hP 40 _ rfl
  | 9, _ => exact hP 41 _ rfl
  | 10, _ => exact hP 42 _ rfl
  | 11, _ => exact hP 43 _ rfl
  | 12, _ => exact hP 44 _ rfl
  | 13, _ => exact hP 45 _ rfl
  | 14, _ => exact hP 46 _ rfl
  | 15, _ => exact hP 47 _ rfl
  | j + 16, h => exact absurd h (by omega)
set_option maxHeartbeats 1000000 in
set_option maxRecDepth 100000 in
theorem wt_P4 {D : va_G} {cy : Nat → ClassId} {b h0 h1 : Nat} {q r : Nat → Nat} {H : Heap} (hP : va_P D vwCl (wtL cy h0 h1 q r) H) : ∀ k, 64 ≤ k ∧ k < 80 → va_at D vwCl (ads0 b h0 h1 q r k, tkWc (ads0 b h0 h1 q r) cy (I0, J0) k) H := by
  rintro k ⟨hk1, hk2⟩
  obtain ⟨j, rfl⟩ : ∃ j, k = 64 + j := ⟨k - 64, by omega⟩
  have hj : j < 16 := by omega
  clear hk1 hk2
  match j, hj with
  | 0, _ => exact hP 56 _ rfl
  | 1, _ => exact hP 57 _ rfl
  | 2, _ => exact hP 58 _ rfl
  | 3, _ => exact hP 59 _ rfl
  | 4, _ => exact hP 61 _ rfl
  | 5, _ => exact hP 62 _ rfl
  | 6, _ => exact hP 63 _ rfl
  | 7, _ => exact hP 64 _ rfl
  | 8, _ => exact hP 65 _ rfl
  | 9, _ => exact hP 66 _ rfl
  | 10, _ => exact hP 68 _ rfl
  | 11, _ => exact hP 69 _ rfl
  | 12, _ => exact hP 70 _ rfl
  | 13, _ => exact hP 71 _ rfl
  | 14, _ => exact hP 73 _ rfl
  | 15, _ => exact hP 74 _ rfl
  | j + 16, h => exact absurd h (by omega)
set_option maxHeartbeats 1000000 in
set_option maxRecDepth 100000 in
theorem wt_P5 {D : va_G} {cy : Nat → ClassId} {b h0 h1 : Nat} {q r : Nat → Nat} {H : Heap} (hP : va_P D vwCl (wtL cy h0 h1 q r) H) : ∀ k, 80 ≤ k ∧ k < 96 → va_at D vwCl (ads0 b h0 h1 q r k, tkWc (ads0 b h0 h1 q r) cy (I0, J0) k) H := by
  rintro k ⟨hk1, hk2⟩
  obtain ⟨j, rfl⟩ : ∃ j, k = 80 + j := ⟨k - 80, by omega⟩
  have hj : j < 16 := by omega
  clear hk1 hk2
  match j, hj with
  | 0, _ => exact hP 75 _ rfl
  | 1, _ => exact hP 82 _ rfl
  | 2, _ => exact hP 83 _ rfl
  | 3, _ => exact hP 84 _ rfl
  | 4, _ => exact hP 85 _ rfl
  | 5, _ => exact hP 86 _ rfl
  | 6, _ => exact hP 80 _ rfl
  | 7, _ => exact hP 87 _ rfl
  | 8, _ => exact hP 88 _ rfl
  | 9, _ => exact hP 89 _ rfl
  | 10, _ => exact hP 90 _ rfl
  | 11, _ => exact hP 91 _ rfl
  | 12, _ => exact hP 92 _ rfl
  | 13, _ => exact hP 93 _ rfl
  | 14, _ => exact hP 94 _ rfl
  | 15, _ => exact hP 95 _ rfl
  | j + 16, h => exact absurd h (by omega)
set_option maxHeartbeats 1000000 in
set_option maxRecDepth 100000 in
theorem wt_P6 {D : va_G} {cy : Nat → ClassId} {b h0 h1 : Nat} {q r : Nat → Nat} {H : Heap} (hP : va_P D vwCl (wtL cy h0 h1 q r) H) : ∀ k, 96 ≤ k ∧ k < 112 → va_at D vwCl (ads0 b h0 h1 q r k, tkWc (ads0 b h0 h1 q r) cy (I0, J0) k) H := by
  rintro k ⟨hk1, hk2⟩
  obtain ⟨j, rfl⟩ : ∃ j, k = 96 + j := ⟨k - 96, by omega⟩
  have hj : j < 16 := by omega
  clear hk1 hk2
  match j, hj with
  | 0, _ => exact hP 96 _ rfl
  | 1, _ => exact hP 97 _ rfl
  | 2, _ => exact hP 98 _ rfl
  | 3, _ => exact hP 99 _ rfl
  | 4, _ => exact hP 100 _ rfl
  | 5, _ => exact hP 101 _ rfl
  | 6, _ => exact hP 102 _ rfl
  | 7, _ => exact hP 103 _ rfl
  | 8, _ => exact hP 104 _ rfl
  | 9, _ => exact hP 105 _ rfl
  | 10, _ => exact hP 106 _ rfl
  | 11, _ => exact hP 107 _ rfl
  | 12, _ => exact hP 108 _ rfl
  | 13, _ => exact hP 109 _ rfl
  | 14, _ => exact hP 110 _ rfl
  | 15, _ => exact hP 111 _ rfl
  | j + 16, h => exact absurd h (by omega)
set_option maxHeartbeats 1000000 in
set_option maxRecDepth 100000 in
theorem wt_P7 {D : va_G} {cy : Nat → ClassId} {b h0 h1 : Nat} {q r : Nat → Nat} {H : Heap} (hP : va_P D vwCl (wtL cy h0 h1 q r) H) : ∀ k, 112 ≤ k ∧ k < 128 → va_at D vwCl (ads0 b h0 h1 q r k, tkWc (ads0 b h0 h1 q r) cy (I0, J0) k) H := by
  rintro k ⟨hk1, hk2⟩
  obtain ⟨j, rfl⟩ : ∃ j, k = 112 + j := ⟨k - 112, by omega⟩
  have hj : j < 16 := by omega
  clear hk1 hk2
  match j, hj with
  | 0, _ => exact hP 112 _ rfl
  | 1, _ => exact hP 113 _ rfl
  | 2, _ => exact hP 114 _ rfl
  | 3, _ => exact hP 115 _ rfl
  | 4, _ => exact hP 116 _ rfl
  | 5, _ => exact hP 117 _ rfl
  | 6, _ => exact hP 118 _ rfl
  | 7, _ => exact hP 119 _ rfl
  | 8, _ => exact hP 120 _ rfl
  | 9, _ => exact hP 121 _ rfl
  | 10, _ => exact hP 122 _ rfl
  | 11, _ => exact hP 123 _ rfl
  | 12, _ => exact hP 124 _ rfl
  | 13, _ => exact hP 125 _ rfl
  | 14, _ => exact hP 126 _ rfl
  | 15, _ => exact hP 127 _ rfl
  | j + 16, h => exact absurd h (by omega)
theorem wt_P {D : va_G} {cy : Nat → ClassId} {b h0 h1 : Nat} {q r : Nat → Nat} {H : Heap} (hP : va_P D vwCl (wtL cy h0 h1 q r) H) : va_P D vwCl (tkWs (ads0 b h0 h1 q r) cy (I0, J0)) H := by
  intro k x hx
  have hk : k < 128 := by
    have := (List.getElem?_eq_some_iff.mp hx).1
    unfold tkWs at this
    simpa using this
  rw [tkWs_at hk] at hx
  cases hx
  rcases (show (0 ≤ k ∧ k < 16) ∨ (16 ≤ k ∧ k < 32) ∨ (32 ≤ k ∧ k < 48) ∨ (48 ≤ k ∧ k < 64) ∨ (64 ≤ k ∧ k < 80) ∨ (80 ≤ k ∧ k < 96) ∨ (96 ≤ k ∧ k < 112) ∨ (112 ≤ k ∧ k < 128) by omega) with h | h | h | h | h | h | h | h
  · exact wt_P0 hP k h
  · exact wt_P1 hP k h
  · exact wt_P2 hP k h
  · exact wt_P3 hP k h
  · exact wt_P4 hP k h
  · exact wt_P5 hP k h
  · exact wt_P6 hP k h
  · exact wt_P7 hP k h
theorem pi_inj : ∀ i, i < 128 → ∀ j, j < 128 → piL.getD i 0 = piL.getD j 0 → i = j := by decide +kernel
theorem wt_a0 (cy : Nat → ClassId) (b h0 h1 : Nat) (q r : Nat → Nat) : ∀ j, j < 16 → ∃ e, (wtL cy h0 h1 q r)[piL.getD (0 + j) 0]? = some (ads0 b h0 h1 q r (0 + j), e) := by
  intro j hj
  match j, hj with
  | 0, _ => exact ⟨_, rfl⟩
  | 1, _ => exact ⟨_, rfl⟩
  | 2, _ => exact ⟨_, rfl⟩
  | 3, _ => exact ⟨_, rfl⟩
  | 4, _ => exact ⟨_, rfl⟩
  | 5, _ => exact ⟨_, rfl⟩
  | 6, _ => exact ⟨_, rfl⟩
  | 7, _ => exact ⟨_, rfl⟩
  | 8, _ => exact ⟨_, rfl⟩
  | 9, _ => exact ⟨_, rfl⟩
  | 10, _ => exact ⟨_, rfl⟩
  | 11, _ => exact ⟨_, rfl⟩
  | 12, _ => exact ⟨_, rfl⟩
  | 13, _ => exact ⟨_, rfl⟩
  | 14, _ => exact ⟨_, rfl⟩
  | 15, _ => exact ⟨_, rfl⟩
  | j + 16, h => exact absurd h (by omega)
theorem wt_a1 (cy : Nat → ClassId) (b h0 h1 : Nat) (q r : Nat → Nat) : ∀ j, j < 16 → ∃ e, (wtL cy h0 h1 q r)[piL.getD (16 + j) 0]? = some (ads0 b h0 h1 q r (16 + j), e) := by
  intro j hj
  match j, hj with
  | 0, _ => exact ⟨_, rfl⟩
  | 1, _ => exact ⟨_, rfl⟩
  | 2, _ => exact ⟨_, rfl⟩
  | 3, _ => exact ⟨_, rfl⟩
  | 4, _ => exact ⟨_, rfl⟩
  | 5, _ => exact ⟨_, rfl⟩
  | 6, _ => exact ⟨_, rfl⟩
  | 7, _ => exact ⟨_, rfl⟩
  | 8, _ => exact ⟨_, rfl⟩
  | 9, _ => exact ⟨_, rfl⟩
  | 10, _ => exact ⟨_, rfl⟩
  | 11, _ => exact ⟨_, rfl⟩
  | 12, _ => exact ⟨_, rfl⟩
  | 13, _ => exact ⟨_, rfl⟩
  | 14, _ => exact ⟨_, rfl⟩
  | 15, _ => exact ⟨_, rfl⟩
  | j + 16, h => exact absurd h (by omega)
theorem wt_a2 (cy : Nat → ClassId) (b h0 h1 : Nat) (q r : Nat → Nat) : ∀ j, j < 16 → ∃ e, (wtL cy h0 h1 q r)[piL.getD (32 + j) 0]? = some (ads0 b h0 h1 q r (32 + j), e) := by
  intro j hj
  match j, hj with
  | 0, _ => exact ⟨_, rfl⟩
  | 1, _ => exact ⟨_, rfl⟩
  | 2, _ => exact ⟨_, rfl⟩
  | 3, _ => exact ⟨_, rfl⟩
  | 4, _ => exact ⟨_, rfl⟩
  | 5, _ => exact ⟨_, rfl⟩
  | 6, _ => exact ⟨_, rfl⟩
  | 7, _ => exact ⟨_, rfl⟩
  | 8, _ => exact ⟨_, rfl⟩
  | 9, _ => exact ⟨_, rfl⟩
  | 10, _ => exact ⟨_, rfl⟩
  | 11, _ => exact ⟨_, rfl⟩
  | 12, _ => exact ⟨_, rfl⟩
  | 13, _ => exact ⟨_, rfl⟩
  | 14, _ => exact ⟨_, rfl⟩
  | 15, _ => exact ⟨_, rfl⟩
  | j + 16, h => exact absurd h (by omega)
theorem wt_a3 (cy : Nat → ClassId) (b h0 h1 : Nat) (q r : Nat → Nat) : ∀ j, j < 16 → ∃ e, (wtL cy h0 h1 q r)[piL.getD (48 + j) 0]? = some (ads0 b h0 h1 q r (48 + j), e) := by
  intro j hj
  match j, hj with
  | 0, _ => exact ⟨_, rfl⟩
  | 1, _ => exact ⟨_, rfl⟩
  | 2, _ => exact ⟨_, rfl⟩
  | 3, _ => exact ⟨_, rfl⟩
  | 4, _ => exact ⟨_, rfl⟩
  | 5, _ => exact ⟨_, rfl⟩
  | 6, _ => exact ⟨_, rfl⟩
  | 7, _ => exact ⟨_, rfl⟩
  | 8, _ => exact ⟨_, rfl⟩
  | 9, _ => exact ⟨_, rfl⟩
  | 10, _ => exact ⟨_, rfl⟩
  | 11, _ => exact ⟨_, rfl⟩
  | 12, _ => exact ⟨_, rfl⟩
  | 13, _ => exact ⟨_, rfl⟩
  | 14, _ => exact ⟨_, rfl⟩
  | 15, _ => exact ⟨_, rfl⟩
  | j + 16, h => exact absurd h (by omega)
theorem wt_a4 (cy : Nat → ClassId) (b h0 h1 : Nat) (q r : Nat → Nat) : ∀ j, j < 16 → ∃ e, (wtL cy h0 h1 q r)[piL.getD (64 + j) 0]? = some (ads0 b h0 h1 q r (64 + j), e) := by
  intro j hj
  match j, hj with
  | 0, _ => exact ⟨_, rfl⟩
  | 1, _ => exact ⟨_, rfl⟩
  | 2, _ => exact ⟨_, rfl⟩
  | 3, _ => exact ⟨_, rfl⟩
  | 4, _ => exact ⟨_, rfl⟩
  | 5, _ => exact ⟨_, rfl⟩
  | 6, _ => exact ⟨_, rfl⟩
  | 7, _ => exact ⟨_, rfl⟩
  | 8, _ => exact ⟨_, rfl⟩
  | 9, _ => exact ⟨_, rfl⟩
  | 10, _ => exact ⟨_, rfl⟩
  | 11, _ => exact ⟨_, rfl⟩
  | 12, _ => exact ⟨_, rfl⟩
  | 13, _ => exact ⟨_, rfl⟩
  | 14, _ => exact ⟨_, rfl⟩
  | 15, _ => exact ⟨_, rfl⟩
  | j + 16, h => exact absurd h (by omega)
theorem wt_a5 (cy : Nat → ClassId) (b h0 h1 : Nat) (q r : Nat → Nat) : ∀ j, j < 16 → ∃ e, (wtL cy h0 h1 q r)[piL.getD (80 + j) 0]? = some (ads0 b h0 h1 q r (80 + j), e) := by
  intro j hj
  match j, hj with
  | 0, _ => exact ⟨_, rfl⟩
  | 1, _ => exact ⟨_, rfl⟩
  | 2, _ => exact ⟨_, rfl⟩
  | 3, _ => exact ⟨_, rfl⟩
  | 4, _ => exact ⟨_, rfl⟩
  | 5, _ => exact ⟨_, rfl⟩
  | 6, _ => exact ⟨_, rfl⟩
  | 7, _ => exact ⟨_, rfl⟩
  | 8, _ => exact ⟨_, rfl⟩
  | 9, _ => exact ⟨_, rfl⟩
  | 10, _ => exact ⟨_, rfl⟩
  | 11, _ => exact ⟨_, rfl⟩
  | 12, _ => exact ⟨_, rfl⟩
  | 13, _ => exact ⟨_, rfl⟩
  | 14, _ => exact ⟨_, rfl⟩
  | 15, _ => exact ⟨_, rfl⟩
  | j + 16, h => exact absurd h (by omega)
theorem wt_a6 (cy : Nat → ClassId) (b h0 h1 : Nat) (q r : Nat → Nat) : ∀ j, j < 16 → ∃ e, (wtL cy h0 h1 q r)[piL.getD (96 + j) 0]? = some (ads0 b h0 h1 q r (96 + j), e) := by
  intro j hj
  match j, hj with
  | 0, _ => exact ⟨_, rfl⟩
  | 1, _ => exact ⟨_, rfl⟩
  | 2, _ => exact ⟨_, rfl⟩
  | 3, _ => exact ⟨_, rfl⟩
  | 4, _ => exact ⟨_, rfl⟩
  | 5, _ => exact ⟨_, rfl⟩
  | 6, _ => exact ⟨_, rfl⟩
  | 7, _ => exact ⟨_, rfl⟩
  | 8, _ => exact ⟨_, rfl⟩
  | 9, _ => exact ⟨_, rfl⟩
  | 10, _ => exact ⟨_, rfl⟩
  | 11, _ => exact ⟨_, rfl⟩
  | 12, _ => exact ⟨_, rfl⟩
  | 13, _ => exact ⟨_, rfl⟩
  | 14, _ => exact ⟨_, rfl⟩
  | 15, _ => exact ⟨_, rfl⟩
  | j + 16, h => exact absurd h (by omega)
theorem wt_a7 (cy : Nat → ClassId) (b h0 h1 : Nat) (q r : Nat → Nat) : ∀ j, j < 16 → ∃ e, (wtL cy h0 h1 q r)[piL.getD (112 + j) 0]? = some (ads0 b h0 h1 q r (112 + j), e) := by
  intro j hj
  match j, hj with
  | 0, _ => exact ⟨_, rfl⟩
  | 1, _ => exact ⟨_, rfl⟩
  | 2, _ => exact ⟨_, rfl⟩
  | 3, _ => exact ⟨_, rfl⟩
  | 4, _ => exact ⟨_, rfl⟩
  | 5, _ => exact ⟨_, rfl⟩
  | 6, _ => exact ⟨_, rfl⟩
  | 7, _ => exact ⟨_, rfl⟩
  | 8, _ => exact ⟨_, rfl⟩
  | 9, _ => exact ⟨_, rfl⟩
  | 10, _ => exact ⟨_, rfl⟩
  | 11, _ => exact ⟨_, rfl⟩
  | 12, _ => exact ⟨_, rfl⟩
  | 13, _ => exact ⟨_, rfl⟩
  | 14, _ => exact ⟨_, rfl⟩
  | 15, _ => exact ⟨_, rfl⟩
  | j + 16, h => exact absurd h (by omega)
theorem wt_a (cy : Nat → ClassId) (b h0 h1 : Nat) (q r : Nat → Nat) (k : Nat) (hk : k < 128) : ∃ e, (wtL cy h0 h1 q r)[piL.getD k 0]? = some (ads0 b h0 h1 q r k, e) := by
  rcases (show (0 ≤ k ∧ k < 16) ∨ (16 ≤ k ∧ k < 32) ∨ (32 ≤ k ∧ k < 48) ∨ (48 ≤ k ∧ k < 64) ∨ (64 ≤ k ∧ k < 80) ∨ (80 ≤ k ∧ k < 96) ∨ (96 ≤ k ∧ k < 112) ∨ (112 ≤ k ∧ k < 128) by omega) with h | h | h | h | h | h | h | h
  · have := wt_a0 cy b h0 h1 q r (k - 0) (by omega)
    rwa [show 0 + (k - 0) = k by omega] at this
  · have := wt_a1 cy b h0 h1 q r (k - 16) (by omega)
    rwa [show 16 + (k - 16) = k by omega] at this
  · have := wt_a2 cy b h0 h1 q r (k - 32) (by omega)
    rwa [show 32 + (k - 32) = k by omega] at this
  · have := wt_a3 cy b h0 h1 q r (k - 48) (by omega)
    rwa [show 48 + (k - 48) = k by omega] at this
  · have := wt_a4 cy b h0 h1 q r (k - 64) (by omega)
    rwa [show 64 + (k - 64) = k by omega] at this
  · have := wt_a5 cy b h0 h1 q r (k - 80) (by omega)
    rwa [show 80 + (k - 80) = k by omega] at this
  · have := wt_a6 cy b h0 h1 q r (k - 96) (by omega)
    rwa [show 96 + (k - 96) = k by omega] at this
  · have := wt_a7 cy b h0 h1 q r (k - 112) (by omega)
    rwa [show 112 + (k - 112) = k by omega] at this
theorem wt_inj {A : Nat → Prop} {cy : Nat → ClassId} {b h0 h1 : Nat} {q r : Nat → Nat} (hD : va_D A (wtL cy h0 h1 q r)) : (∀ i j, i < 128 → j < 128 → ads0 b h0 h1 q r i = ads0 b h0 h1 q r j → i = j) ∧ ∀ k, k < 128 → A (ads0 b h0 h1 q r k) := by
  refine ⟨fun i j hi hj e => ?_, fun k hk => ?_⟩
  · obtain ⟨e1, w1⟩ := wt_a cy b h0 h1 q r i hi
    obtain ⟨e2, w2⟩ := wt_a cy b h0 h1 q r j hj
    exact pi_inj i hi j hj (hD.1 _ _ _ _ w1 w2 e)
  · obtain ⟨e1, w1⟩ := wt_a cy b h0 h1 q r k hk
    exact hD.2 _ _ w1
