/-! the logical world: a cell is (c, k): c its kind, k which of that kind; its whole numbers are a row Nat → Int32 -/
abbrev rS : Type := Nat → Nat → Nat → Int32
abbrev rO : Type := va_G × (Nat → ClassId) × (Nat → Nat → Nat) × (Nat → Nat → Prop) × Nat × (Nat → Nat)
def oA (Ω : rO) (c k : Nat) : Nat := Ω.2.2.1 c k
def oL (Ω : rO) (c k : Nat) : Prop := Ω.2.2.2.1 c k
def oB (Ω : rO) : Nat := Ω.2.2.2.2.1
def oX (Ω : rO) (i : Nat) : Nat := Ω.2.2.2.2.2 i
def oN (Ω : rO) : Nat := oA Ω 99 0
def oF (Ω : rO) : Nat → Prop := fun q => (∃ c k, oL Ω c k ∧ oA Ω c k = q) ∨ (oB Ω ≤ q ∧ oN Ω ≤ q)
theorem oF.of {Ω : rO} {c k : Nat} (h : oL Ω c k) : oF Ω (oA Ω c k) := Or.inl ⟨c, k, h, rfl⟩
abbrev rf (Ω : rO) (c k : Nat) : Value := .ref (oA Ω c k)
def oT (Ω : rO) : List (ClassId × FieldType) := [(Ω.2.1 0, .int), (Ω.2.1 1, .boolean), (Ω.2.1 2, .byte), (Ω.2.1 3, .long), (Ω.2.1 4, .object "NurseryHeap$State"), (Ω.2.1 5, .array .int)]
/-- a long out of its two halves, and its halves -/
def lJ (hi lo : Int32) : Int64 := Int64.ofBitVec (hi.toBitVec ++ lo.toBitVec)
def lHi (x : Int64) : Int32 := Int32.ofBitVec (x.toBitVec.extractLsb' 32 32)
def lLo (x : Int64) : Int32 := Int32.ofBitVec (x.toBitVec.extractLsb' 0 32)
theorem lJ_split (x : Int64) : lJ (lHi x) (lLo x) = x := by
  apply Int64.toBitVec_inj.mp
  show (BitVec.extractLsb' 32 32 x.toBitVec ++ BitVec.extractLsb' 0 32 x.toBitVec) = x.toBitVec
  apply BitVec.eq_of_getLsbD_eq
  intro i hi
  rw [BitVec.getLsbD_append]
  by_cases h : i < 32
  · simp [h]
  · simp [h, show i - 32 < 32 by omega, show 32 + (i - 32) = i by omega]
/-- how long the row of a line is -/
def lnLen (k : Nat) : Nat := if k % 6 = 0 then 80 else if k % 6 = 1 then 40 else if k % 6 = 2 then 80 else 60
def aTy (c : Nat) : Nat := if c = 60 then 2 else if c = 68 then 1 else 0
def aLen (c k : Nat) : Nat := if c = 28 then lnLen k else ([4, 4, 4, 0, 80, 240, 4, 80, 0, 0, 80, 80, 80, 80, 80, 80, 80, 5, 80, 80, 80, 80, 80, 3, 128, 80, 80, 80, 80, 80, 80, 80, 320, 8, 3, 8, 0, 0, 0, 0, 240, 4, 4, 4, 400, 5, 1554, 62160, 80, 80, 80, 80, 80, 80, 80, 80] : List Nat).getD (c - 20) 0
def ringF (Ω : rO) (r : Nat → Int32) : Nat → Option Nat := fun i => if r i = 0 then none else some (oA Ω 7 (4 + i))
def oFb (Ω : rO) : Nat → Prop := fun q => oB Ω ≤ q
def cEo (Ω : rO) (c k : Nat) (r : Nat → Int32) : va_E := match c with
  | 0 => .inr (0, [rf Ω 20 0, rf Ω 1 0, rf Ω 7 3])
  | 1 => .inr (1, [rf Ω 20 0, rf Ω 3 0, rf Ω 37 0, rf Ω 38 0, rf Ω 39 0, rf Ω 40 0, rf Ω 41 0, rf Ω 42 0, rf Ω 43 0, rf Ω 44 0, .int (r 10), .int (r 11)])
  | 2 => .inr (2, [.long (lJ (r 100) (r 200)), .int (r 1), .int (r 2), .int (r 3), .int (r 4), .int (r 5)])
  | 3 => .inr (3, [rf Ω 30 0, rf Ω 31 0, rf Ω 32 0, rf Ω 33 0, rf Ω 34 0, rf Ω 35 0, rf Ω 36 0, .int (r 7)])
  | 4 => .inr (4, [rf Ω 28 k, .int (r 1)])
  | 5 => .inr (5, [rf Ω 29 0, .int (r 1), .int (r 2)])
  | 6 => .inr (6, [rf Ω 8 0, rf Ω 26 0, rf Ω 27 0, .int (r 3), .int (r 4), .int (r 5)])
  | 7 => .inr (7, [.int (r 0), .int (r 1), rf Ω 45 k, rf Ω 46 k, rf Ω 47 k, rf Ω 48 k, rf Ω 49 k, rf Ω 50 k, rf Ω 51 k, rf Ω 52 k, rf Ω 53 k, rf Ω 54 k, rf Ω 55 k, rf Ω 4 (6 * k + 0), rf Ω 4 (6 * k + 1), rf Ω 4 (6 * k + 2), rf Ω 4 (6 * k + 3), rf Ω 4 (6 * k + 4), rf Ω 4 (6 * k + 5)])
  | 8 => .inr (8, [rf Ω 25 0, .int (r 1)])
  | 9 => .inr (9, [rf Ω 8 0, rf Ω 6 0, rf Ω 23 0, rf Ω 21 0, .int (r 4), rf Ω 20 0, .int (r 6), .int (r 7), rf Ω 7 0, rf Ω 7 1, rf Ω 7 2, rf Ω 5 0, rf Ω 3 0, rf Ω 1 0, rf Ω 0 0, rf Ω 22 0])
  | _ => .inr (10, [.int (r 0), rf Ω 60 0, .int (r 2), .int (r 3), .int (r 4), rf Ω 61 0, rf Ω 62 0, rf Ω 63 0, rf Ω 64 0, rf Ω 65 0, .int (r 10), .int (r 11), rf Ω 66 0, rf Ω 66 1, rf Ω 66 2, rf Ω 66 3, rf Ω 67 0, .int (r 17), .int (r 18), .int (r 19), rf Ω 68 0, rf Ω 69 0, .int (r 22), rf Ω 70 0, .int (r 24), .int (r 25), .int (r 26), .int (r 27), .int (r 28), .int (r 29), .int (r 30), rf Ω 66 4, .long (lJ (r 132) (r 232)), rf Ω 71 0, rf Ω 72 0, rf Ω 73 0, rf Ω 74 0, rf Ω 75 0])
def cE (Ω : rO) (c k : Nat) (r : Nat → Int32) : va_E := if c < 20 then cEo Ω c k r else if c = 23 then .inl (Ω.2.1 5, 4, .inr (.inr (.inr (.inr (fun i => some (oA Ω 24 i)))))) else if c = 29 then .inl (Ω.2.1 4, 41, .inr (.inr (.inr (.inr (ringF Ω r))))) else if c = 77 then .inl (Ω.2.1 3, 1, .inr (.inl (fun _ => lJ (r 100) (r 200)))) else .inl (Ω.2.1 (aTy c), aLen c k, .inl r)
theorem cE_0 (Ω : rO) (k : Nat) (r : Nat → Int32) : cE Ω 0 k r = .inr (0, [rf Ω 20 0, rf Ω 1 0, rf Ω 7 3]) := rfl
theorem cE_1 (Ω : rO) (k : Nat) (r : Nat → Int32) : cE Ω 1 k r = .inr (1, [rf Ω 20 0, rf Ω 3 0, rf Ω 37 0, rf Ω 38 0, rf Ω 39 0, rf Ω 40 0, rf Ω 41 0, rf Ω 42 0, rf Ω 43 0, rf Ω 44 0, .int (r 10), .int (r 11)]) := rfl
theorem cE_2 (Ω : rO) (k : Nat) (r : Nat → Int32) : cE Ω 2 k r = .inr (2, [.long (lJ (r 100) (r 200)), .int (r 1), .int (r 2), .int (r 3), .int (r 4), .int (r 5)]) := rfl
theorem cE_3 (Ω : rO) (k : Nat) (r : Nat → Int32) : cE Ω 3 k r = .inr (3, [rf Ω 30 0, rf Ω 31 0, rf Ω 32 0, rf Ω 33 0, rf Ω 34 0, rf Ω 35 0, rf Ω 36 0, .int (r 7)]) := rfl
theorem cE_4 (Ω : rO) (k : Nat) (r : Nat → Int32) : cE Ω 4 k r = .inr (4, [rf Ω 28 k, .int (r 1)]) := rfl
theorem cE_5 (Ω : rO) (k : Nat) (r : Nat → Int32) : cE Ω 5 k r = .inr (5, [rf Ω 29 0, .int (r 1), .int (r 2)]) := rfl
theorem cE_6 (Ω : rO) (k : Nat) (r : Nat → Int32) : cE Ω 6 k r = .inr (6, [rf Ω 8 0, rf Ω 26 0, rf Ω 27 0, .int (r 3), .int (r 4), .int (r 5)]) := rfl
theorem cE_7 (Ω : rO) (k : Nat) (r : Nat → Int32) : cE Ω 7 k r = .inr (7, [.int (r 0), .int (r 1), rf Ω 45 k, rf Ω 46 k, rf Ω 47 k, rf Ω 48 k, rf Ω 49 k, rf Ω 50 k, rf Ω 51 k, rf Ω 52 k, rf Ω 53 k, rf Ω 54 k, rf Ω 55 k, rf Ω 4 (6 * k + 0), rf Ω 4 (6 * k + 1), rf Ω 4 (6 * k + 2), rf Ω 4 (6 * k + 3), rf Ω 4 (6 * k + 4), rf Ω 4 (6 * k + 5)]) := rfl
theorem cE_8 (Ω : rO) (k : Nat) (r : Nat → Int32) : cE Ω 8 k r = .inr (8, [rf Ω 25 0, .int (r 1)]) := rfl
theorem cE_9 (Ω : rO) (k : Nat) (r : Nat → Int32) : cE Ω 9 k r = .inr (9, [rf Ω 8 0, rf Ω 6 0, rf Ω 23 0, rf Ω 21 0, .int (r 4), rf Ω 20 0, .int (r 6), .int (r 7), rf Ω 7 0, rf Ω 7 1, rf Ω 7 2, rf Ω 5 0, rf Ω 3 0, rf Ω 1 0, rf Ω 0 0, rf Ω 22 0]) := rfl
theorem cE_10 (Ω : rO) (k : Nat) (r : Nat → Int32) : cE Ω 10 k r = .inr (10, [.int (r 0), rf Ω 60 0, .int (r 2), .int (r 3), .int (r 4), rf Ω 61 0, rf Ω 62 0, rf Ω 63 0, rf Ω 64 0, rf Ω 65 0, .int (r 10), .int (r 11), rf Ω 66 0, rf Ω 66 1, rf Ω 66 2, rf Ω 66 3, rf Ω 67 0, .int (r 17), .int (r 18), .int (r 19), rf Ω 68 0, rf Ω 69 0, .int (r 22), rf Ω 70 0, .int (r 24), .int (r 25), .int (r 26), .int (r 27), .int (r 28), .int (r 29), .int (r 30), rf Ω 66 4, .long (lJ (r 132) (r 232)), rf Ω 71 0, rf Ω 72 0, rf Ω 73 0, rf Ω 74 0, rf Ω 75 0]) := rfl
theorem cE_20 (Ω : rO) (k : Nat) (r : Nat → Int32) : cE Ω 20 k r = .inl (Ω.2.1 0, 4, .inl r) := rfl
theorem cE_21 (Ω : rO) (k : Nat) (r : Nat → Int32) : cE Ω 21 k r = .inl (Ω.2.1 0, 4, .inl r) := rfl
theorem cE_22 (Ω : rO) (k : Nat) (r : Nat → Int32) : cE Ω 22 k r = .inl (Ω.2.1 0, 4, .inl r) := rfl
theorem cE_24 (Ω : rO) (k : Nat) (r : Nat → Int32) : cE Ω 24 k r = .inl (Ω.2.1 0, 80, .inl r) := rfl
theorem cE_25 (Ω : rO) (k : Nat) (r : Nat → Int32) : cE Ω 25 k r = .inl (Ω.2.1 0, 240, .inl r) := rfl
theorem cE_26 (Ω : rO) (k : Nat) (r : Nat → Int32) : cE Ω 26 k r = .inl (Ω.2.1 0, 4, .inl r) := rfl
theorem cE_27 (Ω : rO) (k : Nat) (r : Nat → Int32) : cE Ω 27 k r = .inl (Ω.2.1 0, 80, .inl r) := rfl
theorem cE_30 (Ω : rO) (k : Nat) (r : Nat → Int32) : cE Ω 30 k r = .inl (Ω.2.1 0, 80, .inl r) := rfl
theorem cE_31 (Ω : rO) (k : Nat) (r : Nat → Int32) : cE Ω 31 k r = .inl (Ω.2.1 0, 80, .inl r) := rfl
theorem cE_32 (Ω : rO) (k : Nat) (r : Nat → Int32) : cE Ω 32 k r = .inl (Ω.2.1 0, 80, .inl r) := rfl
theorem cE_33 (Ω : rO) (k : Nat) (r : Nat → Int32) : cE Ω 33 k r = .inl (Ω.2.1 0, 80, .inl r) := rfl
theorem cE_34 (Ω : rO) (k : Nat) (r : Nat → Int32) : cE Ω 34 k r = .inl (Ω.2.1 0, 80, .inl r) := rfl
theorem cE_35 (Ω : rO) (k : Nat) (r : Nat → Int32) : cE Ω 35 k r = .inl (Ω.2.1 0, 80, .inl r) := rfl
theorem cE_36 (Ω : rO) (k : Nat) (r : Nat → Int32) : cE Ω 36 k r = .inl (Ω.2.1 0, 80, .inl r) := rfl
theorem cE_37 (Ω : rO) (k : Nat) (r : Nat → Int32) : cE Ω 37 k r = .inl (Ω.2.1 0, 5, .inl r) := rfl
theorem cE_38 (Ω : rO) (k : Nat) (r : Nat → Int32) : cE Ω 38 k r = .inl (Ω.2.1 0, 80, .inl r) := rfl
theorem cE_39 (Ω : rO) (k : Nat) (r : Nat → Int32) : cE Ω 39 k r = .inl (Ω.2.1 0, 80, .inl r) := rfl
theorem cE_40 (Ω : rO) (k : Nat) (r : Nat → Int32) : cE Ω 40 k r = .inl (Ω.2.1 0, 80, .inl r) := rfl
theorem cE_41 (Ω : rO) (k : Nat) (r : Nat → Int32) : cE Ω 41 k r = .inl (Ω.2.1 0, 80, .inl r) := rfl
theorem cE_42 (Ω : rO) (k : Nat) (r : Nat → Int32) : cE Ω 42 k r = .inl (Ω.2.1 0, 80, .inl r) := rfl
theorem cE_43 (Ω : rO) (k : Nat) (r : Nat → Int32) : cE Ω 43 k r = .inl (Ω.2.1 0, 3, .inl r) := rfl
theorem cE_44 (Ω : rO) (k : Nat) (r : Nat → Int32) : cE Ω 44 k r = .inl (Ω.2.1 0, 128, .inl r) := rfl
theorem cE_45 (Ω : rO) (k : Nat) (r : Nat → Int32) : cE Ω 45 k r = .inl (Ω.2.1 0, 80, .inl r) := rfl
theorem cE_46 (Ω : rO) (k : Nat) (r : Nat → Int32) : cE Ω 46 k r = .inl (Ω.2.1 0, 80, .inl r) := rfl
theorem cE_47 (Ω : rO) (k : Nat) (r : Nat → Int32) : cE Ω 47 k r = .inl (Ω.2.1 0, 80, .inl r) := rfl
theorem cE_48 (Ω : rO) (k : Nat) (r : Nat → Int32) : cE Ω 48 k r = .inl (Ω.2.1 0, 80, .inl r) := rfl
theorem cE_49 (Ω : rO) (k : Nat) (r : Nat → Int32) : cE Ω 49 k r = .inl (Ω.2.1 0, 80, .inl r) := rfl
theorem cE_50 (Ω : rO) (k : Nat) (r : Nat → Int32) : cE Ω 50 k r = .inl (Ω.2.1 0, 80, .inl r) := rfl
theorem cE_51 (Ω : rO) (k : Nat) (r : Nat → Int32) : cE Ω 51 k r = .inl (Ω.2.1 0, 80, .inl r) := rfl
theorem cE_52 (Ω : rO) (k : Nat) (r : Nat → Int32) : cE Ω 52 k r = .inl (Ω.2.1 0, 320, .inl r) := rfl
theorem cE_53 (Ω : rO) (k : Nat) (r : Nat → Int32) : cE Ω 53 k r = .inl (Ω.2.1 0, 8, .inl r) := rfl
theorem cE_54 (Ω : rO) (k : Nat) (r : Nat → Int32) : cE Ω 54 k r = .inl (Ω.2.1 0, 3, .inl r) := rfl
theorem cE_55 (Ω : rO) (k : Nat) (r : Nat → Int32) : cE Ω 55 k r = .inl (Ω.2.1 0, 8, .inl r) := rfl
theorem cE_60 (Ω : rO) (k : Nat) (r : Nat → Int32) : cE Ω 60 k r = .inl (Ω.2.1 2, 240, .inl r) := rfl
theorem cE_61 (Ω : rO) (k : Nat) (r : Nat → Int32) : cE Ω 61 k r = .inl (Ω.2.1 0, 4, .inl r) := rfl
theorem cE_62 (Ω : rO) (k : Nat) (r : Nat → Int32) : cE Ω 62 k r = .inl (Ω.2.1 0, 4, .inl r) := rfl
theorem cE_63 (Ω : rO) (k : Nat) (r : Nat → Int32) : cE Ω 63 k r = .inl (Ω.2.1 0, 4, .inl r) := rfl
theorem cE_64 (Ω : rO) (k : Nat) (r : Nat → Int32) : cE Ω 64 k r = .inl (Ω.2.1 0, 400, .inl r) := rfl
theorem cE_65 (Ω : rO) (k : Nat) (r : Nat → Int32) : cE Ω 65 k r = .inl (Ω.2.1 0, 5, .inl r) := rfl
theorem cE_66 (Ω : rO) (k : Nat) (r : Nat → Int32) : cE Ω 66 k r = .inl (Ω.2.1 0, 1554, .inl r) := rfl
theorem cE_67 (Ω : rO) (k : Nat) (r : Nat → Int32) : cE Ω 67 k r = .inl (Ω.2.1 0, 62160, .inl r) := rfl
theorem cE_68 (Ω : rO) (k : Nat) (r : Nat → Int32) : cE Ω 68 k r = .inl (Ω.2.1 1, 80, .inl r) := rfl
theorem cE_69 (Ω : rO) (k : Nat) (r : Nat → Int32) : cE Ω 69 k r = .inl (Ω.2.1 0, 80, .inl r) := rfl
theorem cE_70 (Ω : rO) (k : Nat) (r : Nat → Int32) : cE Ω 70 k r = .inl (Ω.2.1 0, 80, .inl r) := rfl
theorem cE_71 (Ω : rO) (k : Nat) (r : Nat → Int32) : cE Ω 71 k r = .inl (Ω.2.1 0, 80, .inl r) := rfl
theorem cE_72 (Ω : rO) (k : Nat) (r : Nat → Int32) : cE Ω 72 k r = .inl (Ω.2.1 0, 80, .inl r) := rfl
theorem cE_73 (Ω : rO) (k : Nat) (r : Nat → Int32) : cE Ω 73 k r = .inl (Ω.2.1 0, 80, .inl r) := rfl
theorem cE_74 (Ω : rO) (k : Nat) (r : Nat → Int32) : cE Ω 74 k r = .inl (Ω.2.1 0, 80, .inl r) := rfl
theorem cE_75 (Ω : rO) (k : Nat) (r : Nat → Int32) : cE Ω 75 k r = .inl (Ω.2.1 0, 80, .inl r) := rfl
theorem cE_28 (Ω : rO) (k : Nat) (r : Nat → Int32) : cE Ω 28 k r = .inl (Ω.2.1 0, lnLen k, .inl r) := rfl
theorem cE_23 (Ω : rO) (k : Nat) (r : Nat → Int32) : cE Ω 23 k r = .inl (Ω.2.1 5, 4, .inr (.inr (.inr (.inr (fun i => some (oA Ω 24 i)))))) := rfl
theorem cE_77 (Ω : rO) (k : Nat) (r : Nat → Int32) : cE Ω 77 k r = .inl (Ω.2.1 3, 1, .inr (.inl (fun _ => lJ (r 100) (r 200)))) := rfl
theorem cE_29 (Ω : rO) (k : Nat) (r : Nat → Int32) : cE Ω 29 k r = .inl (Ω.2.1 4, 41, .inr (.inr (.inr (.inr (ringF Ω r))))) := rfl
theorem cP_1_10 (Ω : rO) (k : Nat) (r : Nat → Int32) (v : Int32) : cE Ω 1 k (upd r 10 v) = .inr (1, [rf Ω 20 0, rf Ω 3 0, rf Ω 37 0, rf Ω 38 0, rf Ω 39 0, rf Ω 40 0, rf Ω 41 0, rf Ω 42 0, rf Ω 43 0, rf Ω 44 0, .int v, .int (r 11)]) := rfl
theorem cP_1_11 (Ω : rO) (k : Nat) (r : Nat → Int32) (v : Int32) : cE Ω 1 k (upd r 11 v) = .inr (1, [rf Ω 20 0, rf Ω 3 0, rf Ω 37 0, rf Ω 38 0, rf Ω 39 0, rf Ω 40 0, rf Ω 41 0, rf Ω 42 0, rf Ω 43 0, rf Ω 44 0, .int (r 10), .int v]) := rfl
theorem cP_2_1 (Ω : rO) (k : Nat) (r : Nat → Int32) (v : Int32) : cE Ω 2 k (upd r 1 v) = .inr (2, [.long (lJ (r 100) (r 200)), .int v, .int (r 2), .int (r 3), .int (r 4), .int (r 5)]) := rfl
theorem cP_2_2 (Ω : rO) (k : Nat) (r : Nat → Int32) (v : Int32) : cE Ω 2 k (upd r 2 v) = .inr (2, [.long (lJ (r 100) (r 200)), .int (r 1), .int v, .int (r 3), .int (r 4), .int (r 5)]) := rfl
theorem cP_2_3 (Ω : rO) (k : Nat) (r : Nat → Int32) (v : Int32) : cE Ω 2 k (upd r 3 v) = .inr (2, [.long (lJ (r 100) (r 200)), .int (r 1), .int (r 2), .int v, .int (r 4), .int (r 5)]) := rfl
theorem cP_2_4 (Ω : rO) (k : Nat) (r : Nat → Int32) (v : Int32) : cE Ω 2 k (upd r 4 v) = .inr (2, [.long (lJ (r 100) (r 200)), .int (r 1), .int (r 2), .int (r 3), .int v, .int (r 5)]) := rfl
theorem cP_2_5 (Ω : rO) (k : Nat) (r : Nat → Int32) (v : Int32) : cE Ω 2 k (upd r 5 v) = .inr (2, [.long (lJ (r 100) (r 200)), .int (r 1), .int (r 2), .int (r 3), .int (r 4), .int v]) := rfl
theorem cP_3_7 (Ω : rO) (k : Nat) (r : Nat → Int32) (v : Int32) : cE Ω 3 k (upd r 7 v) = .inr (3, [rf Ω 30 0, rf Ω 31 0, rf Ω 32 0, rf Ω 33 0, rf Ω 34 0, rf Ω 35 0, rf Ω 36 0, .int v]) := rfl
theorem cP_4_1 (Ω : rO) (k : Nat) (r : Nat → Int32) (v : Int32) : cE Ω 4 k (upd r 1 v) = .inr (4, [rf Ω 28 k, .int v]) := rfl
theorem cP_5_1 (Ω : rO) (k : Nat) (r : Nat → Int32) (v : Int32) : cE Ω 5 k (upd r 1 v) = .inr (5, [rf Ω 29 0, .int v, .int (r 2)]) := rfl
theorem cP_5_2 (Ω : rO) (k : Nat) (r : Nat → Int32) (v : Int32) : cE Ω 5 k (upd r 2 v) = .inr (5, [rf Ω 29 0, .int (r 1), .int v]) := rfl
theorem cP_6_3 (Ω : rO) (k : Nat) (r : Nat → Int32) (v : Int32) : cE Ω 6 k (upd r 3 v) = .inr (6, [rf Ω 8 0, rf Ω 26 0, rf Ω 27 0, .int v, .int (r 4), .int (r 5)]) := rfl
theorem cP_6_4 (Ω : rO) (k : Nat) (r : Nat → Int32) (v : Int32) : cE Ω 6 k (upd r 4 v) = .inr (6, [rf Ω 8 0, rf Ω 26 0, rf Ω 27 0, .int (r 3), .int v, .int (r 5)]) := rfl
theorem cP_6_5 (Ω : rO) (k : Nat) (r : Nat → Int32) (v : Int32) : cE Ω 6 k (upd r 5 v) = .inr (6, [rf Ω 8 0, rf Ω 26 0, rf Ω 27 0, .int (r 3), .int (r 4), .int v]) := rfl
theorem cP_7_0 (Ω : rO) (k : Nat) (r : Nat → Int32) (v : Int32) : cE Ω 7 k (upd r 0 v) = .inr (7, [.int v, .int (r 1), rf Ω 45 k, rf Ω 46 k, rf Ω 47 k, rf Ω 48 k, rf Ω 49 k, rf Ω 50 k, rf Ω 51 k, rf Ω 52 k, rf Ω 53 k, rf Ω 54 k, rf Ω 55 k, rf Ω 4 (6 * k + 0), rf Ω 4 (6 * k + 1), rf Ω 4 (6 * k + 2), rf Ω 4 (6 * k + 3), rf Ω 4 (6 * k + 4), rf Ω 4 (6 * k + 5)]) := rfl
theorem cP_7_1 (Ω : rO) (k : Nat) (r : Nat → Int32) (v : Int32) : cE Ω 7 k (upd r 1 v) = .inr (7, [.int (r 0), .int v, rf Ω 45 k, rf Ω 46 k, rf Ω 47 k, rf Ω 48 k, rf Ω 49 k, rf Ω 50 k, rf Ω 51 k, rf Ω 52 k, rf Ω 53 k, rf Ω 54 k, rf Ω 55 k, rf Ω 4 (6 * k + 0), rf Ω 4 (6 * k + 1), rf Ω 4 (6 * k + 2), rf Ω 4 (6 * k + 3), rf Ω 4 (6 * k + 4), rf Ω 4 (6 * k + 5)]) := rfl
theorem cP_8_1 (Ω : rO) (k : Nat) (r : Nat → Int32) (v : Int32) : cE Ω 8 k (upd r 1 v) = .inr (8, [rf Ω 25 0, .int v]) := rfl
theorem cP_9_4 (Ω : rO) (k : Nat) (r : Nat → Int32) (v : Int32) : cE Ω 9 k (upd r 4 v) = .inr (9, [rf Ω 8 0, rf Ω 6 0, rf Ω 23 0, rf Ω 21 0, .int v, rf Ω 20 0, .int (r 6), .int (r 7), rf Ω 7 0, rf Ω 7 1, rf Ω 7 2, rf Ω 5 0, rf Ω 3 0, rf Ω 1 0, rf Ω 0 0, rf Ω 22 0]) := rfl
theorem cP_9_6 (Ω : rO) (k : Nat) (r : Nat → Int32) (v : Int32) : cE Ω 9 k (upd r 6 v) = .inr (9, [rf Ω 8 0, rf Ω 6 0, rf Ω 23 0, rf Ω 21 0, .int (r 4), rf Ω 20 0, .int v, .int (r 7), rf Ω 7 0, rf Ω 7 1, rf Ω 7 2, rf Ω 5 0, rf Ω 3 0, rf Ω 1 0, rf Ω 0 0, rf Ω 22 0]) := rfl
theorem cP_9_7 (Ω : rO) (k : Nat) (r : Nat → Int32) (v : Int32) : cE Ω 9 k (upd r 7 v) = .inr (9, [rf Ω 8 0, rf Ω 6 0, rf Ω 23 0, rf Ω 21 0, .int (r 4), rf Ω 20 0, .int (r 6), .int v, rf Ω 7 0, rf Ω 7 1, rf Ω 7 2, rf Ω 5 0, rf Ω 3 0, rf Ω 1 0, rf Ω 0 0, rf Ω 22 0]) := rfl
theorem cP_10_0 (Ω : rO) (k : Nat) (r : Nat → Int32) (v : Int32) : cE Ω 10 k (upd r 0 v) = .inr (10, [.int v, rf Ω 60 0, .int (r 2), .int (r 3), .int (r 4), rf Ω 61 0, rf Ω 62 0, rf Ω 63 0, rf Ω 64 0, rf Ω 65 0, .int (r 10), .int (r 11), rf Ω 66 0, rf Ω 66 1, rf Ω 66 2, rf Ω 66 3, rf Ω 67 0, .int (r 17), .int (r 18), .int (r 19), rf Ω 68 0, rf Ω 69 0, .int (r 22), rf Ω 70 0, .int (r 24), .int (r 25), .int (r 26), .int (r 27), .int (r 28), .int (r 29), .int (r 30), rf Ω 66 4, .long (lJ (r 132) (r 232)), rf Ω 71 0, rf Ω 72 0, rf Ω 73 0, rf Ω 74 0, rf Ω 75 0]) := rfl
theorem cP_10_2 (Ω : rO) (k : Nat) (r : Nat → Int32) (v : Int32) : cE Ω 10 k (upd r 2 v) = .inr (10, [.int (r 0), rf Ω 60 0, .int v, .int (r 3), .int (r 4), rf Ω 61 0, rf Ω 62 0, rf Ω 63 0, rf Ω 64 0, rf Ω 65 0, .int (r 10), .int (r 11), rf Ω 66 0, rf Ω 66 1, rf Ω 66 2, rf Ω 66 3, rf Ω 67 0, .int (r 17), .int (r 18), .int (r 19), rf Ω 68 0, rf Ω 69 0, .int (r 22), rf Ω 70 0, .int (r 24), .int (r 25), .int (r 26), .int (r 27), .int (r 28), .int (r 29), .int (r 30), rf Ω 66 4, .long (lJ (r 132) (r 232)), rf Ω 71 0, rf Ω 72 0, rf Ω 73 0, rf Ω 74 0, rf Ω 75 0]) := rfl
theorem cP_10_3 (Ω : rO) (k : Nat) (r : Nat → Int32) (v : Int32) : cE Ω 10 k (upd r 3 v) = .inr (10, [.int (r 0), rf Ω 60 0, .int (r 2), .int v, .int (r 4), rf Ω 61 0, rf Ω 62 0, rf Ω 63 0, rf Ω 64 0, rf Ω 65 0, .int (r 10), .int (r 11), rf Ω 66 0, rf Ω 66 1, rf Ω 66 2, rf Ω 66 3, rf Ω 67 0, .int (r 17), .int (r 18), .int (r 19), rf Ω 68 0, rf Ω 69 0, .int (r 22), rf Ω 70 0, .int (r 24), .int (r 25), .int (r 26), .int (r 27), .int (r 28), .int (r 29), .int (r 30), rf Ω 66 4, .long (lJ (r 132) (r 232)), rf Ω 71 0, rf Ω 72 0, rf Ω 73 0, rf Ω 74 0, rf Ω 75 0]) := rfl
theorem cP_10_4 (Ω : rO) (k : Nat) (r : Nat → Int32) (v : Int32) : cE Ω 10 k (upd r 4 v) = .inr (10, [.int (r 0), rf Ω 60 0, .int (r 2), .int (r 3), .int v, rf Ω 61 0, rf Ω 62 0, rf Ω 63 0, rf Ω 64 0, rf Ω 65 0, .int (r 10), .int (r 11), rf Ω 66 0, rf Ω 66 1, rf Ω 66 2, rf Ω 66 3, rf Ω 67 0, .int (r 17), .int (r 18), .int (r 19), rf Ω 68 0, rf Ω 69 0, .int (r 22), rf Ω 70 0, .int (r 24), .int (r 25), .int (r 26), .int (r 27), .int (r 28), .int (r 29), .int (r 30), rf Ω 66 4, .long (lJ (r 132) (r 232)), rf Ω 71 0, rf Ω 72 0, rf Ω 73 0, rf Ω 74 0, rf Ω 75 0]) := rfl
theorem cP_10_10 (Ω : rO) (k : Nat) (r : Nat → Int32) (v : Int32) : cE Ω 10 k (upd r 10 v) = .inr (10, [.int (r 0), rf Ω 60 0, .int (r 2), .int (r 3), .int (r 4), rf Ω 61 0, rf Ω 62 0, rf Ω 63 0, rf Ω 64 0, rf Ω 65 0, .int v, .int (r 11), rf Ω 66 0, rf Ω 66 1, rf Ω 66 2, rf Ω 66 3, rf Ω 67 0, .int (r 17), .int (r 18), .int (r 19), rf Ω 68 0, rf Ω 69 0, .int (r 22), rf Ω 70 0, .int (r 24), .int (r 25), .int (r 26), .int (r 27), .int (r 28), .int (r 29), .int (r 30), rf Ω 66 4, .long (lJ (r 132) (r 232)), rf Ω 71 0, rf Ω 72 0, rf Ω 73 0, rf Ω 74 0, rf Ω 75 0]) := rfl
theorem cP_10_11 (Ω : rO) (k : Nat) (r : Nat → Int32) (v : Int32) : cE Ω 10 k (upd r 11 v) = .inr (10, [.int (r 0), rf Ω 60 0, .int (r 2), .int (r 3), .int (r 4), rf Ω 61 0, rf Ω 62 0, rf Ω 63 0, rf Ω 64 0, rf Ω 65 0, .int (r 10), .int v, rf Ω 66 0, rf Ω 66 1, rf Ω 66 2, rf Ω 66 3, rf Ω 67 0, .int (r 17), .int (r 18), .int (r 19), rf Ω 68 0, rf Ω 69 0, .int (r 22), rf Ω 70 0, .int (r 24), .int (r 25), .int (r 26), .int (r 27), .int (r 28), .int (r 29), .int (r 30), rf Ω 66 4, .long (lJ (r 132) (r 232)), rf Ω 71 0, rf Ω 72 0, rf Ω 73 0, rf Ω 74 0, rf Ω 75 0]) := rfl
theorem cP_10_17 (Ω : rO) (k : Nat) (r : Nat → Int32) (v : Int32) : cE Ω 10 k (upd r 17 v) = .inr (10, [.int (r 0), rf Ω 60 0, .int (r 2), .int (r 3), .int (r 4), rf Ω 61 0, rf Ω 62 0, rf Ω 63 0, rf Ω 64 0, rf Ω 65 0, .int (r 10), .int (r 11), rf Ω 66 0, rf Ω 66 1, rf Ω 66 2, rf Ω 66 3, rf Ω 67 0, .int v, .int (r 18), .int (r 19), rf Ω 68 0, rf Ω 69 0, .int (r 22), rf Ω 70 0, .int (r 24), .int (r 25), .int (r 26), .int (r 27), .int (r 28), .int (r 29), .int (r 30), rf Ω 66 4, .long (lJ (r 132) (r 232)), rf Ω 71 0, rf Ω 72 0, rf Ω 73 0, rf Ω 74 0, rf Ω 75 0]) := rfl
theorem cP_10_18 (Ω : rO) (k : Nat) (r : Nat → Int32) (v : Int32) : cE Ω 10 k (upd r 18 v) = .inr (10, [.int (r 0), rf Ω 60 0, .int (r 2), .int (r 3), .int (r 4), rf Ω 61 0, rf Ω 62 0, rf Ω 63 0, rf Ω 64 0, rf Ω 65 0, .int (r 10), .int (r 11), rf Ω 66 0, rf Ω 66 1, rf Ω 66 2, rf Ω 66 3, rf Ω 67 0, .int (r 17), .int v, .int (r 19), rf Ω 68 0, rf Ω 69 0, .int (r 22), rf Ω 70 0, .int (r 24), .int (r 25), .int (r 26), .int (r 27), .int (r 28), .int (r 29), .int (r 30), rf Ω 66 4, .long (lJ (r 132) (r 232)), rf Ω 71 0, rf Ω 72 0, rf Ω 73 0, rf Ω 74 0, rf Ω 75 0]) := rfl
theorem cP_10_19 (Ω : rO) (k : Nat) (r : Nat → Int32) (v : Int32) : cE Ω 10 k (upd r 19 v) = .inr (10, [.int (r 0), rf Ω 60 0, .int (r 2), .int (r 3), .int (r 4), rf Ω 61 0, rf Ω 62 0, rf Ω 63 0, rf Ω 64 0, rf Ω 65 0, .int (r 10), .int (r 11), rf Ω 66 0, rf Ω 66 1, rf Ω 66 2, rf Ω 66 3, rf Ω 67 0, .int (r 17), .int (r 18), .int v, rf Ω 68 0, rf Ω 69 0, .int (r 22), rf Ω 70 0, .int (r 24), .int (r 25), .int (r 26), .int (r 27), .int (r 28), .int (r 29), .int (r 30), rf Ω 66 4, .long (lJ (r 132) (r 232)), rf Ω 71 0, rf Ω 72 0, rf Ω 73 0, rf Ω 74 0, rf Ω 75 0]) := rfl
theorem cP_10_22 (Ω : rO) (k : Nat) (r : Nat → Int32) (v : Int32) : cE Ω 10 k (upd r 22 v) = .inr (10, [.int (r 0), rf Ω 60 0, .int (r 2), .int (r 3), .int (r 4), rf Ω 61 0, rf Ω 62 0, rf Ω 63 0, rf Ω 64 0, rf Ω 65 0, .int (r 10), .int (r 11), rf Ω 66 0, rf Ω 66 1, rf Ω 66 2, rf Ω 66 3, rf Ω 67 0, .int (r 17), .int (r 18), .int (r 19), rf Ω 68 0, rf Ω 69 0, .int v, rf Ω 70 0, .int (r 24), .int (r 25), .int (r 26), .int (r 27), .int (r 28), .int (r 29), .int (r 30), rf Ω 66 4, .long (lJ (r 132) (r 232)), rf Ω 71 0, rf Ω 72 0, rf Ω 73 0, rf Ω 74 0, rf Ω 75 0]) := rfl
theorem cP_10_24 (Ω : rO) (k : Nat) (r : Nat → Int32) (v : Int32) : cE Ω 10 k (upd r 24 v) = .inr (10, [.int (r 0), rf Ω 60 0, .int (r 2), .int (r 3), .int (r 4), rf Ω 61 0, rf Ω 62 0, rf Ω 63 0, rf Ω 64 0, rf Ω 65 0, .int (r 10), .int (r 11), rf Ω 66 0, rf Ω 66 1, rf Ω 66 2, rf Ω 66 3, rf Ω 67 0, .int (r 17), .int (r 18), .int (r 19), rf Ω 68 0, rf Ω 69 0, .int (r 22), rf Ω 70 0, .int v, .int (r 25), .int (r 26), .int (r 27), .int (r 28), .int (r 29), .int (r 30), rf Ω 66 4, .long (lJ (r 132) (r 232)), rf Ω 71 0, rf Ω 72 0, rf Ω 73 0, rf Ω 74 0, rf Ω 75 0]) := rfl
theorem cP_10_25 (Ω : rO) (k : Nat) (r : Nat → Int32) (v : Int32) : cE Ω 10 k (upd r 25 v) = .inr (10, [.int (r 0), rf Ω 60 0, .int (r 2), .int (r 3), .int (r 4), rf Ω 61 0, rf Ω 62 0, rf Ω 63 0, rf Ω 64 0, rf Ω 65 0, .int (r 10), .int (r 11), rf Ω 66 0, rf Ω 66 1, rf Ω 66 2, rf Ω 66 3, rf Ω 67 0, .int (r 17), .int (r 18), .int (r 19), rf Ω 68 0, rf Ω 69 0, .int (r 22), rf Ω 70 0, .int (r 24), .int v, .int (r 26), .int (r 27), .int (r 28), .int (r 29), .int (r 30), rf Ω 66 4, .long (lJ (r 132) (r 232)), rf Ω 71 0, rf Ω 72 0, rf Ω 73 0, rf Ω 74 0, rf Ω 75 0]) := rfl
theorem cP_10_26 (Ω : rO) (k : Nat) (r : Nat → Int32) (v : Int32) : cE Ω 10 k (upd r 26 v) = .inr (10, [.int (r 0), rf Ω 60 0, .int (r 2), .int (r 3), .int (r 4), rf Ω 61 0, rf Ω 62 0, rf Ω 63 0, rf Ω 64 0, rf Ω 65 0, .int (r 10), .int (r 11), rf Ω 66 0, rf Ω 66 1, rf Ω 66 2, rf Ω 66 3, rf Ω 67 0, .int (r 17), .int (r 18), .int (r 19), rf Ω 68 0, rf Ω 69 0, .int (r 22), rf Ω 70 0, .int (r 24), .int (r 25), .int v, .int (r 27), .int (r 28), .int (r 29), .int (r 30), rf Ω 66 4, .long (lJ (r 132) (r 232)), rf Ω 71 0, rf Ω 72 0, rf Ω 73 0, rf Ω 74 0, rf Ω 75 0]) := rfl
theorem cP_10_27 (Ω : rO) (k : Nat) (r : Nat → Int32) (v : Int32) : cE Ω 10 k (upd r 27 v) = .inr (10, [.int (r 0), rf Ω 60 0, .int (r 2), .int (r 3), .int (r 4), rf Ω 61 0, rf Ω 62 0, rf Ω 63 0, rf Ω 64 0, rf Ω 65 0, .int (r 10), .int (r 11), rf Ω 66 0, rf Ω 66 1, rf Ω 66 2, rf Ω 66 3, rf Ω 67 0, .int (r 17), .int (r 18), .int (r 19), rf Ω 68 0, rf Ω 69 0, .int (r 22), rf Ω 70 0, .int (r 24), .int (r 25), .int (r 26), .int v, .int (r 28), .int (r 29), .int (r 30), rf Ω 66 4, .long (lJ (r 132) (r 232)), rf Ω 71 0, rf Ω 72 0, rf Ω 73 0, rf Ω 74 0, rf Ω 75 0]) := rfl
theorem cP_10_28 (Ω : rO) (k : Nat) (r : Nat → Int32) (v : Int32) : cE Ω 10 k (upd r 28 v) = .inr (10, [.int (r 0), rf Ω 60 0, .int (r 2), .int (r 3), .int (r 4), rf Ω 61 0, rf Ω 62 0, rf Ω 63 0, rf Ω 64 0, rf Ω 65 0, .int (r 10), .int (r 11), rf Ω 66 0, rf Ω 66 1, rf Ω 66 2, rf Ω 66 3, rf Ω 67 0, .int (r 17), .int (r 18), .int (r 19), rf Ω 68 0, rf Ω 69 0, .int (r 22), rf Ω 70 0, .int (r 24), .int (r 25), .int (r 26), .int (r 27), .int v, .int (r 29), .int (r 30), rf Ω 66 4, .long (lJ (r 132) (r 232)), rf Ω 71 0, rf Ω 72 0, rf Ω 73 0, rf Ω 74 0, rf Ω 75 0]) := rfl
theorem cP_10_29 (Ω : rO) (k : Nat) (r : Nat → Int32) (v : Int32) : cE Ω 10 k (upd r 29 v) = .inr (10, [.int (r 0), rf Ω 60 0, .int (r 2), .int (r 3), .int (r 4), rf Ω 61 0, rf Ω 62 0, rf Ω 63 0, rf Ω 64 0, rf Ω 65 0, .int (r 10), .int (r 11), rf Ω 66 0, rf Ω 66 1, rf Ω 66 2, rf Ω 66 3, rf Ω 67 0, .int (r 17), .int (r 18), .int (r 19), rf Ω 68 0, rf Ω 69 0, .int (r 22), rf Ω 70 0, .int (r 24), .int (r 25), .int (r 26), .int (r 27), .int (r 28), .int v, .int (r 30), rf Ω 66 4, .long (lJ (r 132) (r 232)), rf Ω 71 0, rf Ω 72 0, rf Ω 73 0, rf Ω 74 0, rf Ω 75 0]) := rfl
theorem cP_10_30 (Ω : rO) (k : Nat) (r : Nat → Int32) (v : Int32) : cE Ω 10 k (upd r 30 v) = .inr (10, [.int (r 0), rf Ω 60 0, .int (r 2), .int (r 3), .int (r 4), rf Ω 61 0, rf Ω 62 0, rf Ω 63 0, rf Ω 64 0, rf Ω 65 0, .int (r 10), .int (r 11), rf Ω 66 0, rf Ω 66 1, rf Ω 66 2, rf Ω 66 3, rf Ω 67 0, .int (r 17), .int (r 18), .int (r 19), rf Ω 68 0, rf Ω 69 0, .int (r 22), rf Ω 70 0, .int (r 24), .int (r 25), .int (r 26), .int (r 27), .int (r 28), .int (r 29), .int v, rf Ω 66 4, .long (lJ (r 132) (r 232)), rf Ω 71 0, rf Ω 72 0, rf Ω 73 0, rf Ω 74 0, rf Ω 75 0]) := rfl
theorem cL_2 (Ω : rO) (k : Nat) (r : Nat → Int32) (v : Int64) : cE Ω 2 k (upd (upd r 100 (lHi v)) 200 (lLo v)) = .inr (2, [.long v, .int (r 1), .int (r 2), .int (r 3), .int (r 4), .int (r 5)]) := by
  have h : cE Ω 2 k (upd (upd r 100 (lHi v)) 200 (lLo v)) = .inr (2, [.long (lJ (lHi v) (lLo v)), .int (r 1), .int (r 2), .int (r 3), .int (r 4), .int (r 5)]) := rfl
  rw [h, lJ_split]
theorem cL_10 (Ω : rO) (k : Nat) (r : Nat → Int32) (v : Int64) : cE Ω 10 k (upd (upd r 132 (lHi v)) 232 (lLo v)) = .inr (10, [.int (r 0), rf Ω 60 0, .int (r 2), .int (r 3), .int (r 4), rf Ω 61 0, rf Ω 62 0, rf Ω 63 0, rf Ω 64 0, rf Ω 65 0, .int (r 10), .int (r 11), rf Ω 66 0, rf Ω 66 1, rf Ω 66 2, rf Ω 66 3, rf Ω 67 0, .int (r 17), .int (r 18), .int (r 19), rf Ω 68 0, rf Ω 69 0, .int (r 22), rf Ω 70 0, .int (r 24), .int (r 25), .int (r 26), .int (r 27), .int (r 28), .int (r 29), .int (r 30), rf Ω 66 4, .long v, rf Ω 71 0, rf Ω 72 0, rf Ω 73 0, rf Ω 74 0, rf Ω 75 0]) := by
  have h : cE Ω 10 k (upd (upd r 132 (lHi v)) 232 (lLo v)) = .inr (10, [.int (r 0), rf Ω 60 0, .int (r 2), .int (r 3), .int (r 4), rf Ω 61 0, rf Ω 62 0, rf Ω 63 0, rf Ω 64 0, rf Ω 65 0, .int (r 10), .int (r 11), rf Ω 66 0, rf Ω 66 1, rf Ω 66 2, rf Ω 66 3, rf Ω 67 0, .int (r 17), .int (r 18), .int (r 19), rf Ω 68 0, rf Ω 69 0, .int (r 22), rf Ω 70 0, .int (r 24), .int (r 25), .int (r 26), .int (r 27), .int (r 28), .int (r 29), .int (r 30), rf Ω 66 4, .long (lJ (lHi v) (lLo v)), rf Ω 71 0, rf Ω 72 0, rf Ω 73 0, rf Ω 74 0, rf Ω 75 0]) := rfl
  rw [h, lJ_split]
/-- what a cell refers to -/
def kids (c k : Nat) : List (Nat × Nat) := match c with
  | 0 => [(20, 0), (1, 0), (7, 3)]
  | 1 => [(20, 0), (3, 0), (37, 0), (38, 0), (39, 0), (40, 0), (41, 0), (42, 0), (43, 0), (44, 0)]
  | 2 => []
  | 3 => [(30, 0), (31, 0), (32, 0), (33, 0), (34, 0), (35, 0), (36, 0)]
  | 4 => [(28, k)]
  | 5 => [(29, 0)]
  | 6 => [(8, 0), (26, 0), (27, 0)]
  | 7 => [(45, k), (46, k), (47, k), (48, k), (49, k), (50, k), (51, k), (52, k), (53, k), (54, k), (55, k), (4, (6 * k + 0)), (4, (6 * k + 1)), (4, (6 * k + 2)), (4, (6 * k + 3)), (4, (6 * k + 4)), (4, (6 * k + 5))]
  | 8 => [(25, 0)]
  | 9 => [(8, 0), (6, 0), (23, 0), (21, 0), (20, 0), (7, 0), (7, 1), (7, 2), (5, 0), (3, 0), (1, 0), (0, 0), (22, 0)]
  | 10 => [(60, 0), (61, 0), (62, 0), (63, 0), (64, 0), (65, 0), (66, 0), (66, 1), (66, 2), (66, 3), (67, 0), (68, 0), (69, 0), (70, 0), (66, 4), (71, 0), (72, 0), (73, 0), (74, 0), (75, 0)]
  | 23 => [(24, 0), (24, 1), (24, 2), (24, 3)]
  | _ => []
def wStr (Ω : rO) (U : State) : Prop := vk_R "NurseryHeap$Reader" 39 "esoa" (oX Ω 10) U ∧ vk_R "NurseryHeap$Reader" 67 "nwlxmje" (oX Ω 11) U ∧ vk_R "NurseryHeapModel" 119 "esoa" (oX Ω 10) U ∧ vk_R "NurseryHeapModel" 138 "nwlxmje" (oX Ω 11) U
theorem wStr_warm {Ω : rO} {s U : State} (hW : s.WarmedH U.vm) (h : wStr Ω s) : wStr Ω U := ⟨h.1.warm hW, h.2.1.warm hW, h.2.2.1.warm hW, h.2.2.2.warm hW⟩
theorem wStr_same {Ω : rO} {s U : State} (hv : U.vm = s.vm) (h : wStr Ω s) : wStr Ω U := ⟨h.1.same hv, h.2.1.same hv, h.2.2.1.same hv, h.2.2.2.same hv⟩
