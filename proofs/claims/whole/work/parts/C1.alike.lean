/-! alike: the two ways as values -/
abbrev AP : Type := (Nat → Option Nat) × (Nat → Option Nat) × List Nat
def like (A : Hp) (a c : Nat) : Bool := decide (hkd A a = hkd A c ∧ hdt A a = hdt A c ∧ hsz A a = hsz A c)
def setS (ck : Nat → Nat → Bool) (P : AP) (a c : Nat) : Bool × AP := if P.1 a = none ∧ P.2.1 c = none then (if ck a c = true then (true, (upx P.1 a (some c), upx P.2.1 c (some a), P.2.2 ++ [a])) else (false, P)) else (decide (P.1 a = some c ∧ P.2.1 c = some a), P)
def setP (ck : Nat → Nat → Bool) (P : AP) (l r : Option Nat) : Bool × AP := match l with
  | none => (decide (r = none), P)
  | some a => match r with
    | none => (false, P)
    | some c => setS ck P a c
def fldP (ck : Nat → Nat → Bool) (A : Hp) (a c : Nat) : Nat → Nat → AP → Bool × AP
  | 0, _, P => (true, P)
  | n + 1, g, P => if (setP ck P (hlk A a g) (hlk A c g)).1 = true then fldP ck A a c n (g + 1) (setP ck P (hlk A a g) (hlk A c g)).2 else (false, (setP ck P (hlk A a g) (hlk A c g)).2)
def qA (P : AP) (i : Nat) : Nat := P.2.2.getD i 0
def qB (P : AP) (i : Nat) : Nat := (P.1 (qA P i)).getD 0
def ct (_ _ : Nat) : Bool := true
def loopC (A : Hp) : Nat → Nat → AP → Bool
  | 0, _, _ => true
  | n + 1, i, P => if i < P.2.2.length then (if like A (qA P i) (qB P i) = true then (if (fldP ct A (qA P i) (qB P i) (hsz A (qA P i)) 0 P).1 = true then loopC A n (i + 1) (fldP ct A (qA P i) (qB P i) (hsz A (qA P i)) 0 P).2 else false) else false) else true
def loopM (A : Hp) : Nat → Nat → AP → Bool
  | 0, _, _ => true
  | n + 1, i, P => if i < P.2.2.length then (if (fldP (like A) A (qA P i) (qB P i) (hsz A (qA P i)) 0 P).1 = true then loopM A n (i + 1) (fldP (like A) A (qA P i) (qB P i) (hsz A (qA P i)) 0 P).2 else false) else true
/-- what holds of the pairs set -/
def wfP (A : Hp) (P : AP) : Prop := P.2.2.Nodup ∧ (∀ a ∈ P.2.2, a < hn A ∧ ∃ c, P.1 a = some c) ∧ (∀ a c, P.1 a = some c → c < hn A ∧ a ∈ P.2.2)
def ExP (P P' : AP) : Prop := (∃ T, P'.2.2 = P.2.2 ++ T) ∧ ∀ a c, P.1 a = some c → P'.1 a = some c
theorem ExP.rfl {P : AP} : ExP P P := ⟨⟨[], (List.append_nil _).symm⟩, fun _ _ h => h⟩
theorem ExP.trans {P P' P'' : AP} (h : ExP P P') (h' : ExP P' P'') : ExP P P'' := by
  obtain ⟨⟨T, e⟩, k⟩ := h
  obtain ⟨⟨T', e'⟩, k'⟩ := h'
  exact ⟨⟨T ++ T', by rw [e', e, List.append_assoc]⟩, fun a c ha => k' a c (k a c ha)⟩
section alk1
variable {A : Hp} {ck : Nat → Nat → Bool}
theorem setS_ex {P : AP} {a c : Nat} : ExP P (setS ck P a c).2 := by
  unfold setS
  by_cases h : P.1 a = none ∧ P.2.1 c = none
  · rw [if_pos h]
    by_cases k : ck a c = true
    · rw [if_pos k]
      refine ⟨⟨[a], by rfl⟩, fun b d hb => ?_⟩
      show upx P.1 a (some c) b = some d
      rw [upx_ne (fun e => by rw [e, h.1] at hb; cases hb)]
      exact hb
    · rw [if_neg k]; exact ExP.rfl
  · rw [if_neg h]; exact ExP.rfl
theorem setP_ex {P : AP} {l r : Option Nat} : ExP P (setP ck P l r).2 := by
  cases l with
  | none => exact ExP.rfl
  | some a => cases r with
    | none => exact ExP.rfl
    | some c => exact setS_ex
theorem fldP_ex {a c : Nat} : ∀ (n g : Nat) (P : AP), ExP P (fldP ck A a c n g P).2
  | 0, g, P => ExP.rfl
  | n + 1, g, P => by
    unfold fldP
    by_cases h : (setP ck P (hlk A a g) (hlk A c g)).1 = true
    · rw [if_pos h]; exact setP_ex.trans (fldP_ex n (g + 1) _)
    · rw [if_neg h]; exact setP_ex
theorem setS_wf {P : AP} {a c : Nat} (h : wfP A P) (ha : a < hn A) (hc : c < hn A) : wfP A (setS ck P a c).2 := by
  unfold setS
  by_cases z : P.1 a = none ∧ P.2.1 c = none
  · rw [if_pos z]
    by_cases k : ck a c = true
    · rw [if_pos k]
      obtain ⟨h1, h2, h3⟩ := h
      have na : ¬ a ∈ P.2.2 := fun m => by
        obtain ⟨-, d, hd⟩ := h2 a m
        rw [z.1] at hd; cases hd
      refine ⟨snoc_nodup h1 na, fun b hb => ?_, fun b d hb => ?_⟩
      · rcases List.mem_append.mp hb with hb | hb
        · obtain ⟨g1, d, hd⟩ := h2 b hb
          exact ⟨g1, d, (upx_ne (show ¬ b = a from fun e => na (e ▸ hb))).trans hd⟩
        · have e := List.mem_singleton.mp hb
          subst e
          exact ⟨ha, c, upx_same⟩
      · have hb : upx P.1 a (some c) b = some d := hb
        by_cases e : b = a
        · subst e
          rw [upx_same] at hb
          cases hb
          exact ⟨hc, List.mem_append_right _ (List.mem_singleton.mpr rfl)⟩
        · rw [upx_ne e] at hb
          exact ⟨(h3 b d hb).1, List.mem_append_left _ (h3 b d hb).2⟩
    · rw [if_neg k]; exact h
  · rw [if_neg z]; exact h
theorem setP_wf {P : AP} {l r : Option Nat} (h : wfP A P) (hl : ∀ a, l = some a → a < hn A) (hr : ∀ c, r = some c → c < hn A) : wfP A (setP ck P l r).2 := by
  cases l with
  | none => exact h
  | some a => cases r with
    | none => exact h
    | some c => exact setS_wf h (hl a rfl) (hr c rfl)
theorem fldP_wf (w : OK A) {a c : Nat} (ha : a < hn A) (hc : c < hn A) : ∀ (n g : Nat) (P : AP), g + n ≤ hsz A a → g + n ≤ hsz A c → wfP A P → wfP A (fldP ck A a c n g P).2
  | 0, g, P, _, _, h => h
  | n + 1, g, P, h1, h2, h => by
    unfold fldP
    have h' : wfP A (setP ck P (hlk A a g) (hlk A c g)).2 := setP_wf h (fun j hj => w.lk ha (by omega) hj) (fun j hj => w.lk hc (by omega) hj)
    by_cases k : (setP ck P (hlk A a g) (hlk A c g)).1 = true
    · rw [if_pos k]; exact fldP_wf w ha hc n (g + 1) _ (by omega) (by omega) h'
    · rw [if_neg k]; exact h'
/-- an unlike pair waits at place j or behind -/
def Doom (A : Hp) (P : AP) (j : Nat) : Prop := ∃ p, j ≤ p ∧ p < P.2.2.length ∧ ¬ like A (qA P p) (qB P p) = true
theorem getD_app {L T : List Nat} {p : Nat} (h : p < L.length) : (L ++ T).getD p 0 = L.getD p 0 := by
  rw [List.getD_eq_getElem?_getD, List.getD_eq_getElem?_getD, List.getElem?_append_left h]
theorem qA_ex {P P' : AP} (e : ExP P P') {p : Nat} (h : p < P.2.2.length) : qA P' p = qA P p := by
  obtain ⟨⟨T, e⟩, -⟩ := e
  unfold qA
  rw [e]
  exact getD_app h
theorem qA_mem {P : AP} {p : Nat} (h : p < P.2.2.length) : qA P p ∈ P.2.2 := by
  unfold qA
  rw [List.getD_eq_getElem?_getD, List.getElem?_eq_getElem h]; exact List.getElem_mem h
theorem qB_ex {P P' : AP} (w : wfP A P) (e : ExP P P') {p : Nat} (h : p < P.2.2.length) : qB P' p = qB P p := by
  obtain ⟨-, c, hc⟩ := w.2.1 _ (qA_mem h)
  unfold qB
  rw [qA_ex e h, e.2 _ _ hc, hc]
theorem ExP.len {P P' : AP} (e : ExP P P') : P.2.2.length ≤ P'.2.2.length := by
  obtain ⟨⟨T, e⟩, -⟩ := e
  rw [e, List.length_append]; omega
theorem Doom.ex {P P' : AP} {j : Nat} (d : Doom A P j) (w : wfP A P) (e : ExP P P') : Doom A P' j := by
  obtain ⟨p, h1, h2, h3⟩ := d
  have := e.len
  refine ⟨p, h1, by omega, ?_⟩
  rw [qA_ex e h2, qB_ex w e h2]
  exact h3
theorem like_sz {a c : Nat} (h : like A a c = true) : hsz A a = hsz A c := (of_decide_eq_true h).2.2
theorem wf_B {P : AP} (w : wfP A P) {p : Nat} (h : p < P.2.2.length) : qA P p < hn A ∧ P.1 (qA P p) = some (qB P p) ∧ qB P p < hn A := by
  obtain ⟨h1, c, hc⟩ := w.2.1 _ (qA_mem h)
  have e : qB P p = c := by unfold qB; rw [hc]; rfl
  rw [e]
  exact ⟨h1, hc, (w.2.2 _ _ hc).1⟩
theorem doomC (w : OK A) : ∀ (n i : Nat) (P : AP), wfP A P → (∃ p, i ≤ p ∧ p < i + n ∧ p < P.2.2.length ∧ ¬ like A (qA P p) (qB P p) = true) → loopC A n i P = false
  | 0, i, P, _, ⟨p, h1, h2, _, _⟩ => by omega
  | n + 1, i, P, hw, ⟨p, h1, h2, h3, h4⟩ => by
    unfold loopC
    rw [if_pos (show i < P.2.2.length by omega)]
    by_cases k : like A (qA P i) (qB P i) = true
    · rw [if_pos k]
      have hne : ¬ p = i := fun e => h4 (e ▸ k)
      obtain ⟨b1, b2, b3⟩ := wf_B hw (p := i) (by omega)
      have hx : ExP P (fldP ct A (qA P i) (qB P i) (hsz A (qA P i)) 0 P).2 := fldP_ex _ _ _
      by_cases c : (fldP ct A (qA P i) (qB P i) (hsz A (qA P i)) 0 P).1 = true
      · rw [if_pos c]
        have hl := hx.len
        refine doomC w n (i + 1) _ (fldP_wf w b1 b3 _ _ _ (by omega) (by rw [← like_sz k]; omega) hw) ⟨p, by omega, by omega, by omega, ?_⟩
        rw [qA_ex hx h3, qB_ex hw hx h3]
        exact h4
      · rw [if_neg c]
    · rw [if_neg k]
/-- one step, both ways -/
theorem setS_agr {P : AP} {a c : Nat} : ((setS (like A) P a c).1 = true ∧ setS ct P a c = setS (like A) P a c) ∨ ((setS (like A) P a c).1 = false ∧ ((setS ct P a c).1 = false ∨ Doom A (setS ct P a c).2 P.2.2.length)) := by
  unfold setS
  by_cases h : P.1 a = none ∧ P.2.1 c = none
  · rw [if_pos h, if_pos h, if_pos (show ct a c = true from rfl)]
    by_cases k : like A a c = true
    · rw [if_pos k]; exact Or.inl ⟨rfl, rfl⟩
    · rw [if_neg k]
      refine Or.inr ⟨rfl, Or.inr ⟨P.2.2.length, Nat.le_refl _, ?_, ?_⟩⟩
      · show _ < (P.2.2 ++ [a]).length
        rw [List.length_append, List.length_singleton]; omega
      · have e1 : qA (upx P.1 a (some c), upx P.2.1 c (some a), P.2.2 ++ [a]) P.2.2.length = a := by
          unfold qA
          show (P.2.2 ++ [a]).getD P.2.2.length 0 = a
          rw [List.getD_eq_getElem?_getD, List.getElem?_append_right (Nat.le_refl _), Nat.sub_self]
          rfl
        have e2 : qB (upx P.1 a (some c), upx P.2.1 c (some a), P.2.2 ++ [a]) P.2.2.length = c := by
          unfold qB
          rw [e1]
          show (upx P.1 a (some c) a).getD 0 = c
          rw [upx_same]; rfl
        rw [e1, e2]
        exact k
  · rw [if_neg h, if_neg h]
    by_cases k : P.1 a = some c ∧ P.2.1 c = some a
    · exact Or.inl ⟨decide_eq_true k, rfl⟩
    · exact Or.inr ⟨decide_eq_false k, Or.inl (decide_eq_false k)⟩
theorem setP_agr {P : AP} {l r : Option Nat} : ((setP (like A) P l r).1 = true ∧ setP ct P l r = setP (like A) P l r) ∨ ((setP (like A) P l r).1 = false ∧ ((setP ct P l r).1 = false ∨ Doom A (setP ct P l r).2 P.2.2.length)) := by
  cases l with
  | none =>
    show (decide (r = none) = true ∧ _) ∨ (decide (r = none) = false ∧ _)
    by_cases h : r = none
    · exact Or.inl ⟨decide_eq_true h, rfl⟩
    · exact Or.inr ⟨decide_eq_false h, Or.inl (decide_eq_false h)⟩
  | some a => cases r with
    | none => exact Or.inr ⟨rfl, Or.inl rfl⟩
    | some c => exact setS_agr
theorem fldP_agr (w : OK A) {a c : Nat} (ha : a < hn A) (hc : c < hn A) : ∀ (n g : Nat) (P : AP), g + n ≤ hsz A a → g + n ≤ hsz A c → wfP A P → ((fldP (like A) A a c n g P).1 = true ∧ fldP ct A a c n g P = fldP (like A) A a c n g P) ∨ ((fldP (like A) A a c n g P).1 = false ∧ ((fldP ct A a c n g P).1 = false ∨ Doom A (fldP ct A a c n g P).2 P.2.2.length))
  | 0, g, P, _, _, _ => Or.inl ⟨rfl, rfl⟩
  | n + 1, g, P, h1, h2, hw => by
    have wC : wfP A (setP ct P (hlk A a g) (hlk A c g)).2 := setP_wf hw (fun j hj => w.lk ha (by omega) hj) (fun j hj => w.lk hc (by omega) hj)
    have ex := setP_ex (ck := ct) (P := P) (l := hlk A a g) (r := hlk A c g)
    unfold fldP
    rcases setP_agr (A := A) (P := P) (l := hlk A a g) (r := hlk A c g) with ⟨e1, e2⟩ | ⟨e1, e2⟩
    · rw [e2] at wC ex
      rw [e2, if_pos e1, if_pos e1]
      rcases fldP_agr w ha hc n (g + 1) _ (by omega) (by omega) wC with h | ⟨h, h'⟩
      · exact Or.inl h
      · refine Or.inr ⟨h, h'.imp id ?_⟩
        rintro ⟨p, p1, p2, p3⟩
        have := ex.len
        exact ⟨p, by omega, p2, p3⟩
    · rw [if_neg (show ¬ (setP (like A) P (hlk A a g) (hlk A c g)).1 = true by rw [e1]; exact Bool.false_ne_true)]
      refine Or.inr ⟨rfl, ?_⟩
      by_cases k : (setP ct P (hlk A a g) (hlk A c g)).1 = true
      · rw [if_pos k]
        rcases e2 with e2 | e2
        · rw [k] at e2; cases e2
        · exact Or.inr (e2.ex wC (fldP_ex _ _ _))
      · rw [if_neg k]; exact Or.inl rfl
def ALk (A : Hp) (P : AP) : Prop := ∀ p, p < P.2.2.length → like A (qA P p) (qB P p) = true
theorem setP_al {P : AP} {l r : Option Nat} (hw : wfP A P) (h : ALk A P) : ALk A (setP (like A) P l r).2 := by
  have ex := setP_ex (ck := like A) (P := P) (l := l) (r := r)
  intro p hp
  by_cases q : p < P.2.2.length
  · rw [qA_ex ex q, qB_ex hw ex q]; exact h p q
  · cases l with
    | none => exact absurd hp q
    | some a => cases r with
      | none => exact absurd hp q
      | some c =>
        have hp : p < (setS (like A) P a c).2.2.2.length := hp
        show like A (qA (setS (like A) P a c).2 p) (qB (setS (like A) P a c).2 p) = true
        unfold setS at hp ⊢
        by_cases z : P.1 a = none ∧ P.2.1 c = none
        · rw [if_pos z] at hp ⊢
          by_cases k : like A a c = true
          · rw [if_pos k] at hp ⊢
            have hp : p < (P.2.2 ++ [a]).length := hp
            rw [List.length_append, List.length_singleton] at hp
            have ep : p = P.2.2.length := by omega
            subst ep
            have e1 : qA (upx P.1 a (some c), upx P.2.1 c (some a), P.2.2 ++ [a]) P.2.2.length = a := by
              unfold qA
              show (P.2.2 ++ [a]).getD P.2.2.length 0 = a
              rw [List.getD_eq_getElem?_getD, List.getElem?_append_right (Nat.le_refl _), Nat.sub_self]
              rfl
            have e2 : qB (upx P.1 a (some c), upx P.2.1 c (some a), P.2.2 ++ [a]) P.2.2.length = c := by
              unfold qB
              rw [e1]
              show (upx P.1 a (some c) a).getD 0 = c
              rw [upx_same]; rfl
            show like A (qA (upx P.1 a (some c), upx P.2.1 c (some a), P.2.2 ++ [a]) P.2.2.length) (qB (upx P.1 a (some c), upx P.2.1 c (some a), P.2.2 ++ [a]) P.2.2.length) = true
            rw [e1, e2]; exact k
          · rw [if_neg k] at hp; exact absurd hp q
        · rw [if_neg z] at hp; exact absurd hp q
theorem fldP_al (w : OK A) {a c : Nat} (ha : a < hn A) (hc : c < hn A) : ∀ (n g : Nat) (P : AP), g + n ≤ hsz A a → g + n ≤ hsz A c → wfP A P → ALk A P → ALk A (fldP (like A) A a c n g P).2
  | 0, g, P, _, _, _, h => h
  | n + 1, g, P, h1, h2, hw, h => by
    unfold fldP
    have h' : wfP A (setP (like A) P (hlk A a g) (hlk A c g)).2 := setP_wf hw (fun j hj => w.lk ha (by omega) hj) (fun j hj => w.lk hc (by omega) hj)
    by_cases k : (setP (like A) P (hlk A a g) (hlk A c g)).1 = true
    · rw [if_pos k]; exact fldP_al w ha hc n (g + 1) _ (by omega) (by omega) h' (setP_al hw h)
    · rw [if_neg k]; exact setP_al hw h
theorem wfP_len (w : OK A) {P : AP} (h : wfP A P) : P.2.2.length ≤ 78 := by
  have := nodup_le h.1 (fun a ha => (h.2.1 a ha).1)
  have := w.n
  omega
theorem loop_eq (w : OK A) : ∀ (n i : Nat) (P : AP), i + n = 80 → wfP A P → ALk A P → loopC A n i P = loopM A n i P
  | 0, i, P, _, _, _ => rfl
  | n + 1, i, P, h80, hw, h => by
    unfold loopC loopM
    by_cases hi : i < P.2.2.length
    · obtain ⟨b1, b2, b3⟩ := wf_B hw hi
      have k := h i hi
      have sz := like_sz k
      rw [if_pos hi, if_pos hi, if_pos k]
      have hwC : wfP A (fldP ct A (qA P i) (qB P i) (hsz A (qA P i)) 0 P).2 := fldP_wf w b1 b3 _ _ _ (by omega) (by omega) hw
      rcases fldP_agr w b1 b3 (hsz A (qA P i)) 0 P (by omega) (by omega) hw with ⟨e1, e2⟩ | ⟨e1, e2⟩
      · rw [e2, if_pos e1, if_pos e1]
        exact loop_eq w n (i + 1) _ (by omega) (e2 ▸ hwC) (fldP_al w b1 b3 _ _ _ (by omega) (by omega) hw h)
      · rw [if_neg (show ¬ (fldP (like A) A (qA P i) (qB P i) (hsz A (qA P i)) 0 P).1 = true by rw [e1]; exact Bool.false_ne_true)]
        by_cases c : (fldP ct A (qA P i) (qB P i) (hsz A (qA P i)) 0 P).1 = true
        · rw [if_pos c]
          rcases e2 with e2 | ⟨p, p1, p2, p3⟩
          · rw [c] at e2; cases e2
          · have := wfP_len w hwC
            exact doomC w n (i + 1) _ hwC ⟨p, by omega, by omega, p2, p3⟩
        · rw [if_neg c]
    · rw [if_neg hi, if_neg hi]
end alk1
