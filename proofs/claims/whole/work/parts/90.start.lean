/-! the start keeps the law's sentence -/
def W0 : Wd := (emS, emS, [], fun _ => 0, false, false, [], [], fun _ => 0)
theorem sg0_o {c k i : Nat} (h : ¬ c = 53) : sg0 c k i = 0 := by
  unfold sg0
  rw [if_neg h]
theorem sg0_r {k i : Nat} (h : i < 8) : sg0 53 k i = -1 := by
  unfold sg0
  rw [if_pos rfl]
  unfold fillR
  rw [if_pos h]
theorem Ln_0 {σ : rS} {j : Nat} (h : σ 4 j 1 = 0) : Ln σ j [] := ⟨h, Nat.zero_le _, fun i hi => absurd hi (Nat.not_lt_zero _)⟩
theorem start_CW : CW sg0 W0 := by
  refine ⟨⟨⟨sg0_o (by decide), fun i hi => absurd hi (Nat.not_lt_zero _), fun r hr => sg0_r hr, fun s _ => sg0_o (by decide), fun t _ => sg0_o (by decide), sg0_o (by decide), Ln_0 (sg0_o (by decide)), Ln_0 (sg0_o (by decide)), Ln_0 (sg0_o (by decide))⟩, Ln_0 (sg0_o (by decide)), Ln_0 (sg0_o (by decide)), Ln_0 (sg0_o (by decide))⟩, fun h => absurd h (by decide), ⟨0, by decide, sg0_o (by decide), sg0_o (by decide), fun i hi => absurd hi (Nat.not_lt_zero _)⟩, fun i _ => sg0_o (by decide), sg0_o (by decide), sg0_o (by decide), ⟨sg0_o (by decide), fun i hi => absurd hi (Nat.not_lt_zero _)⟩, ⟨sg0_o (by decide), fun i hi => absurd hi (Nat.not_lt_zero _)⟩, fun i _ => sg0_o (by decide)⟩
theorem start_MW : MW sg0 W0 := by
  refine ⟨⟨⟨sg0_o (by decide), fun i hi => absurd hi (Nat.not_lt_zero _), fun r hr => sg0_o (by decide), ⟨sg0_o (by decide), fun i hi => absurd hi (Nat.not_lt_zero _)⟩, ⟨sg0_o (by decide), fun i hi => absurd hi (Nat.not_lt_zero _)⟩, ⟨sg0_o (by decide), fun i hi => absurd hi (Nat.not_lt_zero _)⟩, fun t _ => sg0_o (by decide), sg0_o (by decide)⟩, sg0_o (by decide), fun i hi => absurd hi (Nat.not_lt_zero _)⟩, fun h => absurd h (by decide), ⟨0, by decide, sg0_o (by decide), sg0_o (by decide), fun i hi => absurd hi (Nat.not_lt_zero _)⟩, fun i _ => sg0_o (by decide), sg0_o (by decide), sg0_o (by decide), ⟨sg0_o (by decide), fun i hi => absurd hi (Nat.not_lt_zero _)⟩, ⟨sg0_o (by decide), fun i hi => absurd hi (Nat.not_lt_zero _)⟩, fun i _ => sg0_o (by decide)⟩
theorem em_Inv (R : Nat → Nat) (b : Nat) : Inv R b emA := by
  have nn : ∀ {i : Nat} {p : Prop}, i < hn emA → p := fun h => absurd h (Nat.not_lt_zero _)
  refine ⟨⟨Nat.zero_le _, fun i hi => nn hi, fun r j _ h => (nomatch h), fun j (hj : j ∈ ([] : List Nat)) => (List.not_mem_nil hj).elim, fun q (hq : q ∈ ([] : List (Nat × Nat))) => (List.not_mem_nil hq).elim, fun i j _ hj => nn hj⟩, fun s _ => Nat.zero_le _, ⟨0, Nat.zero_le _, rfl, fun i hi => nn hi⟩, fun i hi => nn hi, ⟨List.nodup_nil, fun j (hj : j ∈ ([] : List Nat)) => (List.not_mem_nil hj).elim⟩, ⟨List.nodup_nil, fun i f hi _ => nn hi⟩, Nat.zero_le _, fun x (hx : x ∈ ([] : List Nat)) => (List.not_mem_nil hx).elim⟩
theorem IW_start : IW 0 sg0 := by
  refine ⟨W0, start_CW, start_MW, ⟨em_Inv _ _, Nat.zero_le _⟩, fun h => absurd h (by decide), ⟨Nat.zero_le _, fun S (hS : S ∈ ([] : List Sta)) => (List.not_mem_nil hS).elim⟩, ⟨Nat.zero_le _, Nat.zero_le _, Nat.zero_le _, Nat.zero_le _, fun h => absurd h (by decide)⟩, fun h => absurd h (by decide), ⟨Nat.zero_le _, fun x (hx : x ∈ ([] : List Nat)) => (List.not_mem_nil hx).elim⟩, Nat.zero_le _, fun q (hq : q ∈ ([] : List (Nat × (Nat → Int32)))) => (List.not_mem_nil hq).elim⟩
