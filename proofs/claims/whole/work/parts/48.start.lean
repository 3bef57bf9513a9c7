def lT : List (Nat × Nat) := [(9, 0), (8, 0), (25, 0), (6, 0), (26, 0), (27, 0), (23, 0), (24, 0), (24, 1), (24, 2), (24, 3), (21, 0), (20, 0), (7, 0), (45, 0), (46, 0), (47, 0), (48, 0), (49, 0), (50, 0), (51, 0), (52, 0), (53, 0), (54, 0), (55, 0), (4, 0), (28, 0), (4, 1), (28, 1), (4, 2), (28, 2), (4, 3), (28, 3), (4, 4), (28, 4), (4, 5), (28, 5), (7, 1), (45, 1), (46, 1), (47, 1), (48, 1), (49, 1), (50, 1), (51, 1), (52, 1), (53, 1), (54, 1), (55, 1), (4, 6), (28, 6), (4, 7), (28, 7), (4, 8), (28, 8), (4, 9), (28, 9), (4, 10), (28, 10), (4, 11), (28, 11), (7, 2), (45, 2), (46, 2), (47, 2), (48, 2), (49, 2), (50, 2), (51, 2), (52, 2), (53, 2), (54, 2), (55, 2), (4, 12), (28, 12), (4, 13), (28, 13), (4, 14), (28, 14), (4, 15), (28, 15), (4, 16), (28, 16), (4, 17), (28, 17), (5, 0), (29, 0), (3, 0), (30, 0), (31, 0), (32, 0), (33, 0), (34, 0), (35, 0), (36, 0), (1, 0), (37, 0), (38, 0), (39, 0), (40, 0), (41, 0), (42, 0), (43, 0), (44, 0), (0, 0), (7, 3), (45, 3), (46, 3), (47, 3), (48, 3), (49, 3), (50, 3), (51, 3), (52, 3), (53, 3), (54, 3), (55, 3), (4, 18), (28, 18), (4, 19), (28, 19), (4, 20), (28, 20), (4, 21), (28, 21), (4, 22), (28, 22), (4, 23), (28, 23), (22, 0), (10, 0), (60, 0), (61, 0), (62, 0), (63, 0), (64, 0), (65, 0), (66, 0), (66, 1), (66, 2), (66, 3), (67, 0), (68, 0), (69, 0), (70, 0), (66, 4), (71, 0), (72, 0), (73, 0), (74, 0), (75, 0), (77, 0)]
set_option maxRecDepth 100000 in
set_option maxHeartbeats 4000000 in
theorem oc10_flat (Ω : rO) (a : Nat → Nat) : oc10 Ω a = [(a 0, .inr (10, [.int 0, .ref (a 1), .int 0, .int 0, .int 0, .ref (a 2), .ref (a 3), .ref (a 4), .ref (a 5), .ref (a 6), .int 0, .int 0, .ref (a 7), .ref (a 8), .ref (a 9), .ref (a 10), .ref (a 11), .int 0, .int 0, .int 0, .ref (a 12), .ref (a 13), .int 0, .ref (a 14), .int 0, .int 0, .int 0, .int 0, .int 0, .int 0, .int 0, .ref (a 15), .long 0, .ref (a 16), .ref (a 17), .ref (a 18), .ref (a 19), .ref (a 20)])), (a 1, .inl (Ω.2.1 2, 240, .inl (fun _ => 0))), (a 2, .inl (Ω.2.1 0, 4, .inl (fun _ => 0))), (a 3, .inl (Ω.2.1 0, 4, .inl (fun _ => 0))), (a 4, .inl (Ω.2.1 0, 4, .inl (fun _ => 0))), (a 5, .inl (Ω.2.1 0, 400, .inl (fun _ => 0))), (a 6, .inl (Ω.2.1 0, 5, .inl (fun _ => 0))), (a 7, .inl (Ω.2.1 0, 1554, .inl (fun _ => 0))), (a 8, .inl (Ω.2.1 0, 1554, .inl (fun _ => 0))), (a 9, .inl (Ω.2.1 0, 1554, .inl (fun _ => 0))), (a 10, .inl (Ω.2.1 0, 1554, .inl (fun _ => 0))), (a 11, .inl (Ω.2.1 0, 62160, .inl (fun _ => 0))), (a 12, .inl (Ω.2.1 1, 80, .inl (fun _ => 0))), (a 13, .inl (Ω.2.1 0, 80, .inl (fun _ => 0))), (a 14, .inl (Ω.2.1 0, 80, .inl (fun _ => 0))), (a 15, .inl (Ω.2.1 0, 1554, .inl (fun _ => 0))), (a 16, .inl (Ω.2.1 0, 80, .inl (fun _ => 0))), (a 17, .inl (Ω.2.1 0, 80, .inl (fun _ => 0))), (a 18, .inl (Ω.2.1 0, 80, .inl (fun _ => 0))), (a 19, .inl (Ω.2.1 0, 80, .inl (fun _ => 0))), (a 20, .inl (Ω.2.1 0, 80, .inl (fun _ => 0)))] := rfl
/-- the address of the i-th cell of the start -/
def lAd (a b : Nat → Nat) (q : Nat) (i : Nat) : Nat := ([a 0, a 1, a 2, a 3, a 4, a 5, a 6, a 6 + 1, a 6 + 2, a 6 + 3, a 6 + 4, a 7, a 8, a 9, a 10, a 11, a 12, a 13, a 14, a 15, a 16, a 17, a 18, a 19, a 20, a 21, a 22, a 23, a 24, a 25, a 26, a 27, a 28, a 29, a 30, a 31, a 32, a 33, a 34, a 35, a 36, a 37, a 38, a 39, a 40, a 41, a 42, a 43, a 44, a 45, a 46, a 47, a 48, a 49, a 50, a 51, a 52, a 53, a 54, a 55, a 56, a 57, a 58, a 59, a 60, a 61, a 62, a 63, a 64, a 65, a 66, a 67, a 68, a 69, a 70, a 71, a 72, a 73, a 74, a 75, a 76, a 77, a 78, a 79, a 80, a 81, a 82, a 83, a 84, a 85, a 86, a 87, a 88, a 89, a 90, a 91, a 92, a 93, a 94, a 95, a 96, a 97, a 98, a 99, a 100, a 101, a 102, a 103, a 104, a 105, a 106, a 107, a 108, a 109, a 110, a 111, a 112, a 113, a 114, a 115, a 116, a 117, a 118, a 119, a 120, a 121, a 122, a 123, a 124, a 125, b 0, b 1, b 2, b 3, b 4, b 5, b 6, b 7, b 8, b 9, b 10, b 11, b 12, b 13, b 14, b 15, b 16, b 17, b 18, b 19, b 20, q] : List Nat).getD i 0
theorem lJ_00 : lJ 0 0 = 0 := by decide
theorem lT_nodup : lT.Nodup := by decide +kernel
/-- the store of the start -/
def sg0 : rS := fun c _ => if c = 53 then fillR 8 (-1) (fun _ => 0) else fun _ => 0
def startO (Ω : rO) (a b : Nat → Nat) (q : Nat) : rO := (Ω.1, Ω.2.1, fun c k => if c = 99 then 0 else lAd a b q (lT.idxOf (c, k)), fun c k => (c, k) ∈ lT, oB Ω, Ω.2.2.2.2.2)
theorem ringF_z (Ω : rO) : ringF Ω (sg0 29 0) = fun _ => none := by
  funext i
  exact ringF_0 rfl
theorem arrV_congr {cA : ClassId} {N : Nat} {f g : Nat → Value} (h : ∀ j, j < N → f j = g j) : arrV cA N f = arrV cA N g := by
  unfold arrV
  congr 2
  funext j
  exact h j.val j.isLt
set_option maxRecDepth 100000 in
set_option maxHeartbeats 8000000 in
theorem hp_start {Ω : rO} {a b : Nat → Nat} {q : Nat} {H : Heap} (h9 : va_P Ω.1 vwCl (oc9 Ω a) H) (h10 : va_P Ω.1 vwCl (oc10 Ω b) H) (h77 : va_at Ω.1 vwCl (q, .inl (Ω.2.1 3, 1, .inr (.inl (fun _ => lJ (sg0 77 0 100) (sg0 77 0 200))))) H) : HP (startO Ω a b q) sg0 H := by
  have p0 := va_front h9
  have hb := va_back h9
  have p13 := va_back hb
  have hb := va_front hb
  have p12 := va_back hb
  have hb := va_front hb
  have p11 := va_back hb
  have hb := va_front hb
  have p10 := va_back hb
  have hb := va_front hb
  have p9 := va_back hb
  have hb := va_front hb
  have p8 := va_back hb
  have hb := va_front hb
  have p7 := va_back hb
  have hb := va_front hb
  have p6 := va_back hb
  have hb := va_front hb
  have p5 := va_back hb
  have hb := va_front hb
  have p4 := va_back hb
  have hb := va_front hb
  have p3 := va_back hb
  have hb := va_front hb
  have p2 := va_back hb
  have hb := va_front hb
  have p1 := va_back hb
  clear hb
  have p12a := va_front p12
  have p12b := va_back (va_back p12)
  rw [oc7_flat] at p6 p7 p8 p12b
  rw [oc10_flat] at h10
  have sc_at : va_at Ω.1 vwCl (a 6, .inl (Ω.2.1 5, 4, .inr (.inr (.inr (.inr (fun i => if i < 4 then some (a 6 + 1 + i) else none)))))) H → va_at Ω.1 vwCl (oA (startO Ω a b q) 23 0, cE (startO Ω a b q) 23 0 (sg0 23 0)) H := by
    intro h
    rw [cE_23]
    show H[a 6]? = some (vp_cell _ _)
    have h : H[a 6]? = some (vp_cell (Ω.2.1 5) (4, .inr (.inr (.inr (.inr (fun i => if i < 4 then some (a 6 + 1 + i) else none)))))) := h
    rw [h, vp_cell_q, vp_cell_q]
    congr 1
  have e10 : lJ (sg0 10 0 132) (sg0 10 0 232) = 0 := lJ_00
  have key : ∀ i, i < 152 → va_at Ω.1 vwCl (oA (startO Ω a b q) (lT.getD i (0, 0)).1 (lT.getD i (0, 0)).2, cE (startO Ω a b q) (lT.getD i (0, 0)).1 (lT.getD i (0, 0)).2 (sg0 (lT.getD i (0, 0)).1 (lT.getD i (0, 0)).2)) H := by
    intro i hi
    rcases (by omega : i = 0 ∨ i = 1 ∨ i = 2 ∨ i = 3 ∨ i = 4 ∨ i = 5 ∨ i = 6 ∨ i = 7 ∨ i = 8 ∨ i = 9 ∨ i = 10 ∨ i = 11 ∨ i = 12 ∨ i = 13 ∨ i = 14 ∨ i = 15 ∨ i = 16 ∨ i = 17 ∨ i = 18 ∨ i = 19 ∨ i = 20 ∨ i = 21 ∨ i = 22 ∨ i = 23 ∨ i = 24 ∨ i = 25 ∨ i = 26 ∨ i = 27 ∨ i = 28 ∨ i = 29 ∨ i = 30 ∨ i = 31 ∨ i = 32 ∨ i = 33 ∨ i = 34 ∨ i = 35 ∨ i = 36 ∨ i = 37 ∨ i = 38 ∨ i = 39 ∨ i = 40 ∨ i = 41 ∨ i = 42 ∨ i = 43 ∨ i = 44 ∨ i = 45 ∨ i = 46 ∨ i = 47 ∨ i = 48 ∨ i = 49 ∨ i = 50 ∨ i = 51 ∨ i = 52 ∨ i = 53 ∨ i = 54 ∨ i = 55 ∨ i = 56 ∨ i = 57 ∨ i = 58 ∨ i = 59 ∨ i = 60 ∨ i = 61 ∨ i = 62 ∨ i = 63 ∨ i = 64 ∨ i = 65 ∨ i = 66 ∨ i = 67 ∨ i = 68 ∨ i = 69 ∨ i = 70 ∨ i = 71 ∨ i = 72 ∨ i = 73 ∨ i = 74 ∨ i = 75 ∨ i = 76 ∨ i = 77 ∨ i = 78 ∨ i = 79 ∨ i = 80 ∨ i = 81 ∨ i = 82 ∨ i = 83 ∨ i = 84 ∨ i = 85 ∨ i = 86 ∨ i = 87 ∨ i = 88 ∨ i = 89 ∨ i = 90 ∨ i = 91 ∨ i = 92 ∨ i = 93 ∨ i = 94 ∨ i = 95 ∨ i = 96 ∨ i = 97 ∨ i = 98 ∨ i = 99 ∨ i = 100 ∨ i = 101 ∨ i = 102 ∨ i = 103 ∨ i = 104 ∨ i = 105 ∨ i = 106 ∨ i = 107 ∨ i = 108 ∨ i = 109 ∨ i = 110 ∨ i = 111 ∨ i = 112 ∨ i = 113 ∨ i = 114 ∨ i = 115 ∨ i = 116 ∨ i = 117 ∨ i = 118 ∨ i = 119 ∨ i = 120 ∨ i = 121 ∨ i = 122 ∨ i = 123 ∨ i = 124 ∨ i = 125 ∨ i = 126 ∨ i = 127 ∨ i = 128 ∨ i = 129 ∨ i = 130 ∨ i = 131 ∨ i = 132 ∨ i = 133 ∨ i = 134 ∨ i = 135 ∨ i = 136 ∨ i = 137 ∨ i = 138 ∨ i = 139 ∨ i = 140 ∨ i = 141 ∨ i = 142 ∨ i = 143 ∨ i = 144 ∨ i = 145 ∨ i = 146 ∨ i = 147 ∨ i = 148 ∨ i = 149 ∨ i = 150 ∨ i = 151) with rfl | rfl | rfl | rfl | rfl | rfl | rfl | rfl | rfl | rfl | rfl | rfl | rfl | rfl | rfl | rfl | rfl | rfl | rfl | rfl | rfl | rfl | rfl | rfl | rfl | rfl | rfl | rfl | rfl | rfl | rfl | rfl | rfl | rfl | rfl | rfl | rfl | rfl | rfl | rfl | rfl | rfl | rfl | rfl | rfl | rfl | rfl | rfl | rfl | rfl | rfl | rfl | rfl | rfl | rfl | rfl | rfl | rfl | rfl | rfl | rfl | rfl | rfl | rfl | rfl | rfl | rfl | rfl | rfl | rfl | rfl | rfl | rfl | rfl | rfl | rfl | rfl | rfl | rfl | rfl | rfl | rfl | rfl | rfl | rfl | rfl | rfl | rfl | rfl | rfl | rfl | rfl | rfl | rfl | rfl | rfl | rfl | rfl | rfl | rfl | rfl | rfl | rfl | rfl | rfl | rfl | rfl | rfl | rfl | rfl | rfl | rfl | rfl | rfl | rfl | rfl | rfl | rfl | rfl | rfl | rfl | rfl | rfl | rfl | rfl | rfl | rfl | rfl | rfl | rfl | rfl | rfl | rfl | rfl | rfl | rfl | rfl | rfl | rfl | rfl | rfl | rfl | rfl | rfl | rfl | rfl | rfl | rfl | rfl | rfl | rfl | rfl
    · show va_at Ω.1 vwCl (a 0, cE (startO Ω a b q) 9 0 (sg0 9 0)) H
      rw [cE_9]; exact p0 0 _ rfl
    · show va_at Ω.1 vwCl (a 1, cE (startO Ω a b q) 8 0 (sg0 8 0)) H
      rw [cE_8]; exact p1 0 _ rfl
    · show va_at Ω.1 vwCl (a 2, cE (startO Ω a b q) 25 0 (sg0 25 0)) H
      rw [cE_25]; exact p1 1 _ rfl
    · show va_at Ω.1 vwCl (a 3, cE (startO Ω a b q) 6 0 (sg0 6 0)) H
      rw [cE_6]; exact p2 0 _ rfl
    · show va_at Ω.1 vwCl (a 4, cE (startO Ω a b q) 26 0 (sg0 26 0)) H
      rw [cE_26]; exact p2 1 _ rfl
    · show va_at Ω.1 vwCl (a 5, cE (startO Ω a b q) 27 0 (sg0 27 0)) H
      rw [cE_27]; exact p2 2 _ rfl
    · exact sc_at (p3 0 _ rfl)
    · show va_at Ω.1 vwCl (a 6 + 1, cE (startO Ω a b q) 24 0 (sg0 24 0)) H
      rw [cE_24]; exact p3 1 _ rfl
    · show va_at Ω.1 vwCl (a 6 + 2, cE (startO Ω a b q) 24 1 (sg0 24 1)) H
      rw [cE_24]; exact p3 2 _ rfl
    · show va_at Ω.1 vwCl (a 6 + 3, cE (startO Ω a b q) 24 2 (sg0 24 2)) H
      rw [cE_24]; exact p3 3 _ rfl
    · show va_at Ω.1 vwCl (a 6 + 4, cE (startO Ω a b q) 24 3 (sg0 24 3)) H
      rw [cE_24]; exact p3 4 _ rfl
    · show va_at Ω.1 vwCl (a 7, cE (startO Ω a b q) 21 0 (sg0 21 0)) H
      rw [cE_21]; exact p4 0 _ rfl
    · show va_at Ω.1 vwCl (a 8, cE (startO Ω a b q) 20 0 (sg0 20 0)) H
      rw [cE_20]; exact p5 0 _ rfl
    · show va_at Ω.1 vwCl (a 9, cE (startO Ω a b q) 7 0 (sg0 7 0)) H
      rw [cE_7]; exact p6 0 _ rfl
    · show va_at Ω.1 vwCl (a 10, cE (startO Ω a b q) 45 0 (sg0 45 0)) H
      rw [cE_45]; exact p6 1 _ rfl
    · show va_at Ω.1 vwCl (a 11, cE (startO Ω a b q) 46 0 (sg0 46 0)) H
      rw [cE_46]; exact p6 2 _ rfl
    · show va_at Ω.1 vwCl (a 12, cE (startO Ω a b q) 47 0 (sg0 47 0)) H
      rw [cE_47]; exact p6 3 _ rfl
    · show va_at Ω.1 vwCl (a 13, cE (startO Ω a b q) 48 0 (sg0 48 0)) H
      rw [cE_48]; exact p6 4 _ rfl
    · show va_at Ω.1 vwCl (a 14, cE (startO Ω a b q) 49 0 (sg0 49 0)) H
      rw [cE_49]; exact p6 5 _ rfl
    · show va_at Ω.1 vwCl (a 15, cE (startO Ω a b q) 50 0 (sg0 50 0)) H
      rw [cE_50]; exact p6 6 _ rfl
    · show va_at Ω.1 vwCl (a 16, cE (startO Ω a b q) 51 0 (sg0 51 0)) H
      rw [cE_51]; exact p6 7 _ rfl
    · show va_at Ω.1 vwCl (a 17, cE (startO Ω a b q) 52 0 (sg0 52 0)) H
      rw [cE_52]; exact p6 8 _ rfl
    · show va_at Ω.1 vwCl (a 18, cE (startO Ω a b q) 53 0 (sg0 53 0)) H
      rw [cE_53]; exact p6 9 _ rfl
    · show va_at Ω.1 vwCl (a 19, cE (startO Ω a b q) 54 0 (sg0 54 0)) H
      rw [cE_54]; exact p6 10 _ rfl
    · show va_at Ω.1 vwCl (a 20, cE (startO Ω a b q) 55 0 (sg0 55 0)) H
      rw [cE_55]; exact p6 11 _ rfl
    · show va_at Ω.1 vwCl (a 21, cE (startO Ω a b q) 4 0 (sg0 4 0)) H
      rw [cE_4]; exact p6 12 _ rfl
    · show va_at Ω.1 vwCl (a 22, cE (startO Ω a b q) 28 0 (sg0 28 0)) H
      rw [cE_28]; exact p6 13 _ rfl
    · show va_at Ω.1 vwCl (a 23, cE (startO Ω a b q) 4 1 (sg0 4 1)) H
      rw [cE_4]; exact p6 14 _ rfl
    · show va_at Ω.1 vwCl (a 24, cE (startO Ω a b q) 28 1 (sg0 28 1)) H
      rw [cE_28]; exact p6 15 _ rfl
    · show va_at Ω.1 vwCl (a 25, cE (startO Ω a b q) 4 2 (sg0 4 2)) H
      rw [cE_4]; exact p6 16 _ rfl
    · show va_at Ω.1 vwCl (a 26, cE (startO Ω a b q) 28 2 (sg0 28 2)) H
      rw [cE_28]; exact p6 17 _ rfl
    · show va_at Ω.1 vwCl (a 27, cE (startO Ω a b q) 4 3 (sg0 4 3)) H
      rw [cE_4]; exact p6 18 _ rfl
    · show va_at Ω.1 vwCl (a 28, cE (startO Ω a b q) 28 3 (sg0 28 3)) H
      rw [cE_28]; exact p6 19 _ rfl
    · show va_at Ω.1 vwCl (a 29, cE (startO Ω a b q) 4 4 (sg0 4 4)) H
      rw [cE_4]; exact p6 20 _ rfl
    · show va_at Ω.1 vwCl (a 30, cE (startO Ω a b q) 28 4 (sg0 28 4)) H
      rw [cE_28]; exact p6 21 _ rfl
    · show va_at Ω.1 vwCl (a 31, cE (startO Ω a b q) 4 5 (sg0 4 5)) H
      rw [cE_4]; exact p6 22 _ rfl
    · show va_at Ω.1 vwCl (a 32, cE (startO Ω a b q) 28 5 (sg0 28 5)) H
      rw [cE_28]; exact p6 23 _ rfl
    · show va_at Ω.1 vwCl (a 33, cE (startO Ω a b q) 7 1 (sg0 7 1)) H
      rw [cE_7]; exact p7 0 _ rfl
    · show va_at Ω.1 vwCl (a 34, cE (startO Ω a b q) 45 1 (sg0 45 1)) H
      rw [cE_45]; exact p7 1 _ rfl
    · show va_at Ω.1 vwCl (a 35, cE (startO Ω a b q) 46 1 (sg0 46 1)) H
      rw [cE_46]; exact p7 2 _ rfl
    · show va_at Ω.1 vwCl (a 36, cE (startO Ω a b q) 47 1 (sg0 47 1)) H
      rw [cE_47]; exact p7 3 _ rfl
    · show va_at Ω.1 vwCl (a 37, cE (startO Ω a b q) 48 1 (sg0 48 1)) H
      rw [cE_48]; exact p7 4 _ rfl
    · show va_at Ω.1 vwCl (a 38, cE (startO Ω a b q) 49 1 (sg0 49 1)) H
      rw [cE_49]; exact p7 5 _ rfl
    · show va_at Ω.1 vwCl (a 39, cE (startO Ω a b q) 50 1 (sg0 50 1)) H
      rw [cE_50]; exact p7 6 _ rfl
    · show va_at Ω.1 vwCl (a 40, cE (startO Ω a b q) 51 1 (sg0 51 1)) H
      rw [cE_51]; exact p7 7 _ rfl
    · show va_at Ω.1 vwCl (a 41, cE (startO Ω a b q) 52 1 (sg0 52 1)) H
      rw [cE_52]; exact p7 8 _ rfl
    · show va_at Ω.1 vwCl (a 42, cE (startO Ω a b q) 53 1 (sg0 53 1)) H
      rw [cE_53]; exact p7 9 _ rfl
    · show va_at Ω.1 vwCl (a 43, cE (startO Ω a b q) 54 1 (sg0 54 1)) H
      rw [cE_54]; exact p7 10 _ rfl
    · show va_at Ω.1 vwCl (a 44, cE (startO Ω a b q) 55 1 (sg0 55 1)) H
      rw [cE_55]; exact p7 11 _ rfl
    · show va_at Ω.1 vwCl (a 45, cE (startO Ω a b q) 4 6 (sg0 4 6)) H
      rw [cE_4]; exact p7 12 _ rfl
    · show va_at Ω.1 vwCl (a 46, cE (startO Ω a b q) 28 6 (sg0 28 6)) H
      rw [cE_28]; exact p7 13 _ rfl
    · show va_at Ω.1 vwCl (a 47, cE (startO Ω a b q) 4 7 (sg0 4 7)) H
      rw [cE_4]; exact p7 14 _ rfl
    · show va_at Ω.1 vwCl (a 48, cE (startO Ω a b q) 28 7 (sg0 28 7)) H
      rw [cE_28]; exact p7 15 _ rfl
    · show va_at Ω.1 vwCl (a 49, cE (startO Ω a b q) 4 8 (sg0 4 8)) H
      rw [cE_4]; exact p7 16 _ rfl
    · show va_at Ω.1 vwCl (a 50, cE (startO Ω a b q) 28 8 (sg0 28 8)) H
      rw [cE_28]; exact p7 17 _ rfl
    · show va_at Ω.1 vwCl (a 51, cE (startO Ω a b q) 4 9 (sg0 4 9)) H
      rw [cE_4]; exact p7 18 _ rfl
    · show va_at Ω.1 vwCl (a 52, cE (startO Ω a b q) 28 9 (sg0 28 9)) H
      rw [cE_28]; exact p7 19 _ rfl
    · show va_at Ω.1 vwCl (a 53, cE (startO Ω a b q) 4 10 (sg0 4 10)) H
      rw [cE_4]; exact p7 20 _ rfl
    · show va_at Ω.1 vwCl (a 54, cE (startO Ω a b q) 28 10 (sg0 28 10)) H
      rw [cE_28]; exact p7 21 _ rfl
    · show va_at Ω.1 vwCl (a 55, cE (startO Ω a b q) 4 11 (sg0 4 11)) H
      rw [cE_4]; exact p7 22 _ rfl
    · show va_at Ω.1 vwCl (a 56, cE (startO Ω a b q) 28 11 (sg0 28 11)) H
      rw [cE_28]; exact p7 23 _ rfl
    · show va_at Ω.1 vwCl (a 57, cE (startO Ω a b q) 7 2 (sg0 7 2)) H
      rw [cE_7]; exact p8 0 _ rfl
    · show va_at Ω.1 vwCl (a 58, cE (startO Ω a b q) 45 2 (sg0 45 2)) H
      rw [cE_45]; exact p8 1 _ rfl
    · show va_at Ω.1 vwCl (a 59, cE (startO Ω a b q) 46 2 (sg0 46 2)) H
      rw [cE_46]; exact p8 2 _ rfl
    · show va_at Ω.1 vwCl (a 60, cE (startO Ω a b q) 47 2 (sg0 47 2)) H
      rw [cE_47]; exact p8 3 _ rfl
    · show va_at Ω.1 vwCl (a 61, cE (startO Ω a b q) 48 2 (sg0 48 2)) H
      rw [cE_48]; exact p8 4 _ rfl
    · show va_at Ω.1 vwCl (a 62, cE (startO Ω a b q) 49 2 (sg0 49 2)) H
      rw [cE_49]; exact p8 5 _ rfl
    · show va_at Ω.1 vwCl (a 63, cE (startO Ω a b q) 50 2 (sg0 50 2)) H
      rw [cE_50]; exact p8 6 _ rfl
    · show va_at Ω.1 vwCl (a 64, cE (startO Ω a b q) 51 2 (sg0 51 2)) H
      rw [cE_51]; exact p8 7 _ rfl
    · show va_at Ω.1 vwCl (a 65, cE (startO Ω a b q) 52 2 (sg0 52 2)) H
      rw [cE_52]; exact p8 8 _ rfl
    · show va_at Ω.1 vwCl (a 66, cE (startO Ω a b q) 53 2 (sg0 53 2)) H
      rw [cE_53]; exact p8 9 _ rfl
    · show va_at Ω.1 vwCl (a 67, cE (startO Ω a b q) 54 2 (sg0 54 2)) H
      rw [cE_54]; exact p8 10 _ rfl
    · show va_at Ω.1 vwCl (a 68, cE (startO Ω a b q) 55 2 (sg0 55 2)) H
      rw [cE_55]; exact p8 11 _ rfl
    · show va_at Ω.1 vwCl (a 69, cE (startO Ω a b q) 4 12 (sg0 4 12)) H
      rw [cE_4]; exact p8 12 _ rfl
    · show va_at Ω.1 vwCl (a 70, cE (startO Ω a b q) 28 12 (sg0 28 12)) H
      rw [cE_28]; exact p8 13 _ rfl
    · show va_at Ω.1 vwCl (a 71, cE (startO Ω a b q) 4 13 (sg0 4 13)) H
      rw [cE_4]; exact p8 14 _ rfl
    · show va_at Ω.1 vwCl (a 72, cE (startO Ω a b q) 28 13 (sg0 28 13)) H
      rw [cE_28]; exact p8 15 _ rfl
    · show va_at Ω.1 vwCl (a 73, cE (startO Ω a b q) 4 14 (sg0 4 14)) H
      rw [cE_4]; exact p8 16 _ rfl
    · show va_at Ω.1 vwCl (a 74, cE (startO Ω a b q) 28 14 (sg0 28 14)) H
      rw [cE_28]; exact p8 17 _ rfl
    · show va_at Ω.1 vwCl (a 75, cE (startO Ω a b q) 4 15 (sg0 4 15)) H
      rw [cE_4]; exact p8 18 _ rfl
    · show va_at Ω.1 vwCl (a 76, cE (startO Ω a b q) 28 15 (sg0 28 15)) H
      rw [cE_28]; exact p8 19 _ rfl
    · show va_at Ω.1 vwCl (a 77, cE (startO Ω a b q) 4 16 (sg0 4 16)) H
      rw [cE_4]; exact p8 20 _ rfl
    · show va_at Ω.1 vwCl (a 78, cE (startO Ω a b q) 28 16 (sg0 28 16)) H
      rw [cE_28]; exact p8 21 _ rfl
    · show va_at Ω.1 vwCl (a 79, cE (startO Ω a b q) 4 17 (sg0 4 17)) H
      rw [cE_4]; exact p8 22 _ rfl
    · show va_at Ω.1 vwCl (a 80, cE (startO Ω a b q) 28 17 (sg0 28 17)) H
      rw [cE_28]; exact p8 23 _ rfl
    · show va_at Ω.1 vwCl (a 81, cE (startO Ω a b q) 5 0 (sg0 5 0)) H
      rw [cE_5]; exact p9 0 _ rfl
    · show va_at Ω.1 vwCl (a 82, cE (startO Ω a b q) 29 0 (sg0 29 0)) H
      rw [cE_29, ringF_z]; exact p9 1 _ rfl
    · show va_at Ω.1 vwCl (a 83, cE (startO Ω a b q) 3 0 (sg0 3 0)) H
      rw [cE_3]; exact p10 0 _ rfl
    · show va_at Ω.1 vwCl (a 84, cE (startO Ω a b q) 30 0 (sg0 30 0)) H
      rw [cE_30]; exact p10 1 _ rfl
    · show va_at Ω.1 vwCl (a 85, cE (startO Ω a b q) 31 0 (sg0 31 0)) H
      rw [cE_31]; exact p10 2 _ rfl
    · show va_at Ω.1 vwCl (a 86, cE (startO Ω a b q) 32 0 (sg0 32 0)) H
      rw [cE_32]; exact p10 3 _ rfl
    · show va_at Ω.1 vwCl (a 87, cE (startO Ω a b q) 33 0 (sg0 33 0)) H
      rw [cE_33]; exact p10 4 _ rfl
    · show va_at Ω.1 vwCl (a 88, cE (startO Ω a b q) 34 0 (sg0 34 0)) H
      rw [cE_34]; exact p10 5 _ rfl
    · show va_at Ω.1 vwCl (a 89, cE (startO Ω a b q) 35 0 (sg0 35 0)) H
      rw [cE_35]; exact p10 6 _ rfl
    · show va_at Ω.1 vwCl (a 90, cE (startO Ω a b q) 36 0 (sg0 36 0)) H
      rw [cE_36]; exact p10 7 _ rfl
    · show va_at Ω.1 vwCl (a 91, cE (startO Ω a b q) 1 0 (sg0 1 0)) H
      rw [cE_1]; exact p11 0 _ rfl
    · show va_at Ω.1 vwCl (a 92, cE (startO Ω a b q) 37 0 (sg0 37 0)) H
      rw [cE_37]; exact p11 1 _ rfl
    · show va_at Ω.1 vwCl (a 93, cE (startO Ω a b q) 38 0 (sg0 38 0)) H
      rw [cE_38]; exact p11 2 _ rfl
    · show va_at Ω.1 vwCl (a 94, cE (startO Ω a b q) 39 0 (sg0 39 0)) H
      rw [cE_39]; exact p11 3 _ rfl
    · show va_at Ω.1 vwCl (a 95, cE (startO Ω a b q) 40 0 (sg0 40 0)) H
      rw [cE_40]; exact p11 4 _ rfl
    · show va_at Ω.1 vwCl (a 96, cE (startO Ω a b q) 41 0 (sg0 41 0)) H
      rw [cE_41]; exact p11 5 _ rfl
    · show va_at Ω.1 vwCl (a 97, cE (startO Ω a b q) 42 0 (sg0 42 0)) H
      rw [cE_42]; exact p11 6 _ rfl
    · show va_at Ω.1 vwCl (a 98, cE (startO Ω a b q) 43 0 (sg0 43 0)) H
      rw [cE_43]; exact p11 7 _ rfl
    · show va_at Ω.1 vwCl (a 99, cE (startO Ω a b q) 44 0 (sg0 44 0)) H
      rw [cE_44]; exact p11 8 _ rfl
    · show va_at Ω.1 vwCl (a 100, cE (startO Ω a b q) 0 0 (sg0 0 0)) H
      rw [cE_0]; exact p12a 0 _ rfl
    · show va_at Ω.1 vwCl (a 101, cE (startO Ω a b q) 7 3 (sg0 7 3)) H
      rw [cE_7]; exact p12b 0 _ rfl
    · show va_at Ω.1 vwCl (a 102, cE (startO Ω a b q) 45 3 (sg0 45 3)) H
      rw [cE_45]; exact p12b 1 _ rfl
    · show va_at Ω.1 vwCl (a 103, cE (startO Ω a b q) 46 3 (sg0 46 3)) H
      rw [cE_46]; exact p12b 2 _ rfl
    · show va_at Ω.1 vwCl (a 104, cE (startO Ω a b q) 47 3 (sg0 47 3)) H
      rw [cE_47]; exact p12b 3 _ rfl
    · show va_at Ω.1 vwCl (a 105, cE (startO Ω a b q) 48 3 (sg0 48 3)) H
      rw [cE_48]; exact p12b 4 _ rfl
    · show va_at Ω.1 vwCl (a 106, cE (startO Ω a b q) 49 3 (sg0 49 3)) H
      rw [cE_49]; exact p12b 5 _ rfl
    · show va_at Ω.1 vwCl (a 107, cE (startO Ω a b q) 50 3 (sg0 50 3)) H
      rw [cE_50]; exact p12b 6 _ rfl
    · show va_at Ω.1 vwCl (a 108, cE (startO Ω a b q) 51 3 (sg0 51 3)) H
      rw [cE_51]; exact p12b 7 _ rfl
    · show va_at Ω.1 vwCl (a 109, cE (startO Ω a b q) 52 3 (sg0 52 3)) H
      rw [cE_52]; exact p12b 8 _ rfl
    · show va_at Ω.1 vwCl (a 110, cE (startO Ω a b q) 53 3 (sg0 53 3)) H
      rw [cE_53]; exact p12b 9 _ rfl
    · show va_at Ω.1 vwCl (a 111, cE (startO Ω a b q) 54 3 (sg0 54 3)) H
      rw [cE_54]; exact p12b 10 _ rfl
    · show va_at Ω.1 vwCl (a 112, cE (startO Ω a b q) 55 3 (sg0 55 3)) H
      rw [cE_55]; exact p12b 11 _ rfl
    · show va_at Ω.1 vwCl (a 113, cE (startO Ω a b q) 4 18 (sg0 4 18)) H
      rw [cE_4]; exact p12b 12 _ rfl
    · show va_at Ω.1 vwCl (a 114, cE (startO Ω a b q) 28 18 (sg0 28 18)) H
      rw [cE_28]; exact p12b 13 _ rfl
    · show va_at Ω.1 vwCl (a 115, cE (startO Ω a b q) 4 19 (sg0 4 19)) H
      rw [cE_4]; exact p12b 14 _ rfl
    · show va_at Ω.1 vwCl (a 116, cE (startO Ω a b q) 28 19 (sg0 28 19)) H
      rw [cE_28]; exact p12b 15 _ rfl
    · show va_at Ω.1 vwCl (a 117, cE (startO Ω a b q) 4 20 (sg0 4 20)) H
      rw [cE_4]; exact p12b 16 _ rfl
    · show va_at Ω.1 vwCl (a 118, cE (startO Ω a b q) 28 20 (sg0 28 20)) H
      rw [cE_28]; exact p12b 17 _ rfl
    · show va_at Ω.1 vwCl (a 119, cE (startO Ω a b q) 4 21 (sg0 4 21)) H
      rw [cE_4]; exact p12b 18 _ rfl
    · show va_at Ω.1 vwCl (a 120, cE (startO Ω a b q) 28 21 (sg0 28 21)) H
      rw [cE_28]; exact p12b 19 _ rfl
    · show va_at Ω.1 vwCl (a 121, cE (startO Ω a b q) 4 22 (sg0 4 22)) H
      rw [cE_4]; exact p12b 20 _ rfl
    · show va_at Ω.1 vwCl (a 122, cE (startO Ω a b q) 28 22 (sg0 28 22)) H
      rw [cE_28]; exact p12b 21 _ rfl
    · show va_at Ω.1 vwCl (a 123, cE (startO Ω a b q) 4 23 (sg0 4 23)) H
      rw [cE_4]; exact p12b 22 _ rfl
    · show va_at Ω.1 vwCl (a 124, cE (startO Ω a b q) 28 23 (sg0 28 23)) H
      rw [cE_28]; exact p12b 23 _ rfl
    · show va_at Ω.1 vwCl (a 125, cE (startO Ω a b q) 22 0 (sg0 22 0)) H
      rw [cE_22]; exact p13 0 _ rfl
    · show va_at Ω.1 vwCl (b 0, cE (startO Ω a b q) 10 0 (sg0 10 0)) H
      rw [cE_10, e10]; exact h10 0 _ rfl
    · show va_at Ω.1 vwCl (b 1, cE (startO Ω a b q) 60 0 (sg0 60 0)) H
      rw [cE_60]; exact h10 1 _ rfl
    · show va_at Ω.1 vwCl (b 2, cE (startO Ω a b q) 61 0 (sg0 61 0)) H
      rw [cE_61]; exact h10 2 _ rfl
    · show va_at Ω.1 vwCl (b 3, cE (startO Ω a b q) 62 0 (sg0 62 0)) H
      rw [cE_62]; exact h10 3 _ rfl
    · show va_at Ω.1 vwCl (b 4, cE (startO Ω a b q) 63 0 (sg0 63 0)) H
      rw [cE_63]; exact h10 4 _ rfl
    · show va_at Ω.1 vwCl (b 5, cE (startO Ω a b q) 64 0 (sg0 64 0)) H
      rw [cE_64]; exact h10 5 _ rfl
    · show va_at Ω.1 vwCl (b 6, cE (startO Ω a b q) 65 0 (sg0 65 0)) H
      rw [cE_65]; exact h10 6 _ rfl
    · show va_at Ω.1 vwCl (b 7, cE (startO Ω a b q) 66 0 (sg0 66 0)) H
      rw [cE_66]; exact h10 7 _ rfl
    · show va_at Ω.1 vwCl (b 8, cE (startO Ω a b q) 66 1 (sg0 66 1)) H
      rw [cE_66]; exact h10 8 _ rfl
    · show va_at Ω.1 vwCl (b 9, cE (startO Ω a b q) 66 2 (sg0 66 2)) H
      rw [cE_66]; exact h10 9 _ rfl
    · show va_at Ω.1 vwCl (b 10, cE (startO Ω a b q) 66 3 (sg0 66 3)) H
      rw [cE_66]; exact h10 10 _ rfl
    · show va_at Ω.1 vwCl (b 11, cE (startO Ω a b q) 67 0 (sg0 67 0)) H
      rw [cE_67]; exact h10 11 _ rfl
    · show va_at Ω.1 vwCl (b 12, cE (startO Ω a b q) 68 0 (sg0 68 0)) H
      rw [cE_68]; exact h10 12 _ rfl
    · show va_at Ω.1 vwCl (b 13, cE (startO Ω a b q) 69 0 (sg0 69 0)) H
      rw [cE_69]; exact h10 13 _ rfl
    · show va_at Ω.1 vwCl (b 14, cE (startO Ω a b q) 70 0 (sg0 70 0)) H
      rw [cE_70]; exact h10 14 _ rfl
    · show va_at Ω.1 vwCl (b 15, cE (startO Ω a b q) 66 4 (sg0 66 4)) H
      rw [cE_66]; exact h10 15 _ rfl
    · show va_at Ω.1 vwCl (b 16, cE (startO Ω a b q) 71 0 (sg0 71 0)) H
      rw [cE_71]; exact h10 16 _ rfl
    · show va_at Ω.1 vwCl (b 17, cE (startO Ω a b q) 72 0 (sg0 72 0)) H
      rw [cE_72]; exact h10 17 _ rfl
    · show va_at Ω.1 vwCl (b 18, cE (startO Ω a b q) 73 0 (sg0 73 0)) H
      rw [cE_73]; exact h10 18 _ rfl
    · show va_at Ω.1 vwCl (b 19, cE (startO Ω a b q) 74 0 (sg0 74 0)) H
      rw [cE_74]; exact h10 19 _ rfl
    · show va_at Ω.1 vwCl (b 20, cE (startO Ω a b q) 75 0 (sg0 75 0)) H
      rw [cE_75]; exact h10 20 _ rfl
    · show va_at Ω.1 vwCl (q, cE (startO Ω a b q) 77 0 (sg0 77 0)) H
      rw [cE_77]; exact h77
  intro c k hL
  have hL : (c, k) ∈ lT := hL
  obtain ⟨i, hi, he⟩ := List.mem_iff_getElem.mp hL
  have h := key i hi
  have e : lT.getD i (0, 0) = (c, k) := by
    rw [List.getD_eq_getElem?_getD, List.getElem?_eq_getElem hi, he]
    rfl
  rw [e] at h
  exact h
