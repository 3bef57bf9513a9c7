/-! fields, arrays, calls for 'Run' -/
theorem HP.one {Ω : rO} {σ : rS} {H : Heap} {c k : Nat} {x : va_E} (h : HP Ω σ H) (hL : oL Ω c k) (hc : cE Ω c k (σ c k) = x) : va_P Ω.1 vwCl [(oA Ω c k, x)] H := by
  intro i q hq
  cases i with
  | zero =>
    have e : (oA Ω c k, x) = q := Option.some.inj hq
    subst e
    subst hc
    exact h c k hL
  | succ i => cases hq
/-- a field that may be read at own's pool entry i: field j of class ci -/
def Fok (own : String) (i ci j : Nat) : Prop := ∃ (C : String) (T : u_T) (N : Nat), vwCl[ci]? = some (C, T, N) ∧ (∀ w ∈ u_ws C T N, w ∈ TT) ∧ j < N ∧ Cond.fieldLink own i (T j).1 (T j).2.1 (T j).2.2.1 ∈ TT
/-- a field that may be written -/
def Pok (own : String) (i ci j : Nat) (ty : FieldType) : Prop := ∃ (C : String) (T : u_T) (N : Nat) (ty0 : Nat → FieldType), vwCl[ci]? = some (C, T, N) ∧ (∀ w ∈ u_ws C T N, w ∈ TT) ∧ j < N ∧ Cond.fieldLink own i (T j).1 (T j).2.1 (T j).2.2.1 ∈ TT ∧
  (∀ k, k < N → parseFieldDescriptor (T k).2.2.1 = some (ty0 k)) ∧ (∀ a, a < N → ∀ b, b < N → a ≠ b → (T a).2.1 ≠ (T b).2.1) ∧ (T j).2.2.2 = false ∧ parseFieldDescriptor (T j).2.2.1 = some ty
section RM
variable {l : Launch} {Ω : rO} {cc : ByteArray} {own : String} {nL : Nat} {ret : Option FieldType} {rm : Room} {K : Int32 → rS → Prop} {Q : List Frame → Array Value → State → State → Prop} {kc ks : Nat} {pc : Nat} {lv : List (Option Value)} {st : List Value} {σ : rS}
theorem R_get {i ci j c k : Nat} {fs : List Value} {v : Value} (hF : Fok own i ci j) (hL : oL Ω c k) (hc : cE Ω c k (σ c k) = .inr (ci, fs)) (hv : fs[j]? = some v) (hd : decode cc pc = .ok (.getfield i, 3))
    (kk : RunG l Ω cc own nL ret rm Q kc ks (pc + 3) lv (v :: st) σ) : RunG l Ω cc own nL ret rm Q kc ks pc lv (rf Ω c k :: st) σ := fun p e s m args below meth c0 B H locs ls hP hS hl => by
  obtain ⟨C, T, N, h1, h2, h3, h4⟩ := hF
  exact va_get (ws := [(oA Ω c k, .inr (ci, fs))]) B.1 B.2.1 B.2.2.2.2.2.1 h2 B.2.2.2.2.1 B.2.2.2.2.2.2.2.1 (hP.one hL hc) 0 rfl h1 j h3 (B.2.2.2.2.2.1 _ h4) (fun _ h => h) hv hd (kk p e s m args below meth c0 B H locs ls hP hS hl)
theorem R_putV {i ci j c k : Nat} {ty : FieldType} {fs : List Value} {v : Value} {g : Nat → Int32} (hF : Pok own i ci j ty) (hL : oL Ω c k) (hc : cE Ω c k (σ c k) = .inr (ci, fs)) (hc2 : cE Ω c k g = .inr (ci, fs.set j v)) (hlen : j < fs.length) (hn : narrow ty v = v) (hfit : fits ty v = true) (hd : decode cc pc = .ok (.putfield i, 3))
    (kk : RunG l Ω cc own nL ret rm Q kc ks (pc + 3) lv st (wrR σ c k g)) : RunG l Ω cc own nL ret rm Q kc ks pc lv (v :: rf Ω c k :: st) σ := fun p e s m args below meth c0 B H locs ls hP hS hl => by
  obtain ⟨C, T, N, ty0, h1, h2, h3, h4, hty, hnm, hfin, hdsc⟩ := hF
  have hts := B.2.2.2.2.2.1
  have hK := B.2.2.2.2.2.2.2.1
  have hW := B.2.2.2.2.2.2.2.2.2.1
  have hP0 := hP c k hL
  rw [hc] at hP0
  have hap := va_apart (own := own) hts h2 ty0 hty hnm hK h1
  obtain ⟨r, q0, cell, q1, q2, q3, q4⟩ := hP0
  have hr : r = (C, T, N) := Option.some.inj (q0.symm.trans h1)
  subst hr
  obtain ⟨hSl, hfc, kC, hkC, hkind⟩ := hK.1 ci _ h1
  obtain ⟨cf, kf, fi, f, hi, hsl⟩ := hSl j h3
  have hlay := hts _ (h2 _ (u_in_lay h3))
  unfold u_lay at hlay
  rw [if_neg (by rw [hfin]; decide)] at hlay
  have hst := (u_facts hfc hkC (u_lays hts h2 h3) hi).1
  have h6 := u_store hfc hkC hkind hlay hi hdsc hn hfit
  refine W.putK B.1 B.2.1 (f := f) ⟨B.2.2.2.2.1, hts _ h4, ⟨_, _, _, hi⟩, hst⟩ (by rw [q2]; exact h6) q1 q3 (by rw [hsl]; exact k2_hasslot (q4 j h3)) rfl rfl hd fun H' e1 e2 e3 => ?_
  rw [hsl] at e1 ⊢
  exact kk p e s m args below meth c0 B H' _ ls (HP.set hW hP hL (by rw [hc2]; exact ⟨_, h1, t_OB.to (V := updV (vp_V fs) j v) ⟨_, e1, q2, q3, t_set q4 hap h3 v⟩ (fun j _ => vp_updV_set hlen v j)⟩) e3) (hS.put e2 e3 (oF.of hL)) hl
/-- an int field -/
theorem R_put {i ci j c k : Nat} {fs : List Value} {v : Int32} (hF : Pok own i ci j .int) (hL : oL Ω c k) (hc : cE Ω c k (σ c k) = .inr (ci, fs)) (hc2 : cE Ω c k (upd (σ c k) j v) = .inr (ci, fs.set j (.int v))) (hlen : j < fs.length) (hd : decode cc pc = .ok (.putfield i, 3))
    (kk : RunG l Ω cc own nL ret rm Q kc ks (pc + 3) lv st (wr σ c k j v)) : RunG l Ω cc own nL ret rm Q kc ks pc lv (.int v :: rf Ω c k :: st) σ := R_putV hF hL hc hc2 hlen rfl rfl hd kk
/-- a boolean field -/
theorem R_putz {i ci j c k : Nat} {fs : List Value} {v : Int32} (hF : Pok own i ci j .boolean) (hL : oL Ω c k) (hc : cE Ω c k (σ c k) = .inr (ci, fs)) (hc2 : cE Ω c k (upd (σ c k) j v) = .inr (ci, fs.set j (.int v))) (hlen : j < fs.length) (hv : v = 0 ∨ v = 1) (hd : decode cc pc = .ok (.putfield i, 3))
    (kk : RunG l Ω cc own nL ret rm Q kc ks (pc + 3) lv st (wr σ c k j v)) : RunG l Ω cc own nL ret rm Q kc ks pc lv (.int v :: rf Ω c k :: st) σ := R_putV hF hL hc hc2 hlen (by rcases hv with rfl | rfl <;> decide) (by rcases hv with rfl | rfl <;> decide) hd kk
theorem R_iald {c k n : Nat} {i : Int32} (hL : oL Ω c k) (hc : cE Ω c k (σ c k) = .inl (Ω.2.1 0, n, .inl (σ c k))) (hin : vp_in i n) (hd : decode cc pc = .ok (.iaload, 1))
    (kk : RunG l Ω cc own nL ret rm Q kc ks (pc + 1) lv (.int (σ c k (ix i)) :: st) σ) : RunG l Ω cc own nL ret rm Q kc ks pc lv (.int i :: rf Ω c k :: st) σ := fun p e s m args below meth c0 B H locs ls hP hS hl =>
  va_iald (ws := [(oA Ω c k, .inl (Ω.2.1 0, n, .inl (σ c k)))]) B.1 B.2.1 B.2.2.2.2.2.2.2.1 (hP.one hL hc) 0 0 rfl rfl hin hd (kk p e s m args below meth c0 B H locs ls hP hS hl)
theorem R_zald {c k n : Nat} {i : Int32} (hL : oL Ω c k) (hc : cE Ω c k (σ c k) = .inl (Ω.2.1 1, n, .inl (σ c k))) (hin : vp_in i n) (hd : decode cc pc = .ok (.baload, 1))
    (kk : RunG l Ω cc own nL ret rm Q kc ks (pc + 1) lv (.int (σ c k (ix i)) :: st) σ) : RunG l Ω cc own nL ret rm Q kc ks pc lv (.int i :: rf Ω c k :: st) σ := fun p e s m args below meth c0 B H locs ls hP hS hl =>
  va_zald (ws := [(oA Ω c k, .inl (Ω.2.1 1, n, .inl (σ c k)))]) B.1 B.2.1 B.2.2.2.2.2.2.2.1 (hP.one hL hc) 0 1 rfl rfl hin hd (kk p e s m args below meth c0 B H locs ls hP hS hl)
theorem R_bald {c k n : Nat} {i : Int32} (hL : oL Ω c k) (hc : cE Ω c k (σ c k) = .inl (Ω.2.1 2, n, .inl (σ c k))) (hin : vp_in i n) (hd : decode cc pc = .ok (.baload, 1))
    (kk : RunG l Ω cc own nL ret rm Q kc ks (pc + 1) lv (.int (σ c k (ix i)) :: st) σ) : RunG l Ω cc own nL ret rm Q kc ks pc lv (.int i :: rf Ω c k :: st) σ := fun p e s m args below meth c0 B H locs ls hP hS hl =>
  va_bald (ws := [(oA Ω c k, .inl (Ω.2.1 2, n, .inl (σ c k)))]) B.1 B.2.1 B.2.2.2.2.2.2.2.1 (hP.one hL hc) 0 2 rfl rfl hin hd (kk p e s m args below meth c0 B H locs ls hP hS hl)
theorem rcell_upd {cA : ClassId} {n : Nat} {f : Nat → Int32} {i : Nat} {x : Int32} : arrV cA n (updV (fun j => .int (f j)) i (.int x)) = arrV cA n (fun j => .int (upd f i x j)) := by
  congr 1
  funext q
  by_cases hq : q = i
  · subst hq
    simp [updV, upd]
  · simp [updV, upd, hq]
theorem R_iast {c k n : Nat} {i x : Int32} (hL : oL Ω c k) (hc : ∀ r, cE Ω c k r = .inl (Ω.2.1 0, n, .inl r)) (hin : vp_in i n) (hd : decode cc pc = .ok (.iastore, 1))
    (kk : RunG l Ω cc own nL ret rm Q kc ks (pc + 1) lv st (wr σ c k (ix i) x)) : RunG l Ω cc own nL ret rm Q kc ks pc lv (.int x :: .int i :: rf Ω c k :: st) σ := fun p e s m args below meth c0 B H locs ls hP hS hl => by
  have hK := B.2.2.2.2.2.2.2.1
  have hW := B.2.2.2.2.2.2.2.2.2.1
  have hP0 : va_at Ω.1 vwCl (oA Ω c k, .inl (Ω.2.1 0, n, .inl (σ c k))) H := by rw [← hc]; exact hP c k hL
  refine W.iast B.1 B.2.1 hP0 ((hK.2 0 (Ω.2.1 0, .int) rfl).1 n (fun j => .int (σ c k j))) (fun q => by cases q) (by show ¬ (i < 0 ∨ (arrV _ _ _).slots.size ≤ _); rw [arrV_size]; exact hin) rfl rfl hd fun H1 e1 z oq => ?_
  refine kk p e s m args below meth c0 B H1 _ ls (HP.set hW hP hL ?_ oq) (hS.put z oq (oF.of hL)) hl
  rw [hc]
  show H1[_]? = some (vp_cell _ _)
  rw [e1, vp_cell_i, vp_cell_i, arrV_store, rcell_upd]
theorem R_zast {c k n : Nat} {i x : Int32} (hL : oL Ω c k) (hc : ∀ r, cE Ω c k r = .inl (Ω.2.1 1, n, .inl r)) (hin : vp_in i n) (hx : x = 0 ∨ x = 1) (hd : decode cc pc = .ok (.bastore, 1))
    (kk : RunG l Ω cc own nL ret rm Q kc ks (pc + 1) lv st (wr σ c k (ix i) x)) : RunG l Ω cc own nL ret rm Q kc ks pc lv (.int x :: .int i :: rf Ω c k :: st) σ := fun p e s m args below meth c0 B H locs ls hP hS hl => by
  have hK := B.2.2.2.2.2.2.2.1
  have hW := B.2.2.2.2.2.2.2.2.2.1
  have hP0 : va_at Ω.1 vwCl (oA Ω c k, .inl (Ω.2.1 1, n, .inl (σ c k))) H := by rw [← hc]; exact hP c k hL
  refine W.zast B.1 B.2.1 hP0 ((hK.2 1 (Ω.2.1 1, .boolean) rfl).1 n (fun j => .int (σ c k j))) (fun q => by cases q) (by show ¬ (i < 0 ∨ (arrV _ _ _).slots.size ≤ _); rw [arrV_size]; exact hin) rfl rfl hd fun H1 e1 z oq => ?_
  refine kk p e s m args below meth c0 B H1 _ ls (HP.set hW hP hL ?_ oq) (hS.put z oq (oF.of hL)) hl
  rw [hc]
  show H1[_]? = some (vp_cell _ _)
  have hnx : narrow .boolean (.int x) = .int x := by rcases hx with rfl | rfl <;> decide
  rw [e1, hnx, vp_cell_i, vp_cell_i, arrV_store, rcell_upd]
theorem R_bast {c k n : Nat} {i x : Int32} (hL : oL Ω c k) (hc : ∀ r, cE Ω c k r = .inl (Ω.2.1 2, n, .inl r)) (hin : vp_in i n) (hx : narrow .byte (.int x) = .int x) (hd : decode cc pc = .ok (.bastore, 1))
    (kk : RunG l Ω cc own nL ret rm Q kc ks (pc + 1) lv st (wr σ c k (ix i) x)) : RunG l Ω cc own nL ret rm Q kc ks pc lv (.int x :: .int i :: rf Ω c k :: st) σ := fun p e s m args below meth c0 B H locs ls hP hS hl => by
  have hK := B.2.2.2.2.2.2.2.1
  have hW := B.2.2.2.2.2.2.2.2.2.1
  have hP0 : va_at Ω.1 vwCl (oA Ω c k, .inl (Ω.2.1 2, n, .inl (σ c k))) H := by rw [← hc]; exact hP c k hL
  refine W.bast B.1 B.2.1 hP0 ((hK.2 2 (Ω.2.1 2, .byte) rfl).1 n (fun j => .int (σ c k j))) (fun q => by cases q) (by show ¬ (i < 0 ∨ (arrV _ _ _).slots.size ≤ _); rw [arrV_size]; exact hin) rfl rfl hd fun H1 e1 z oq => ?_
  refine kk p e s m args below meth c0 B H1 _ ls (HP.set hW hP hL ?_ oq) (hS.put z oq (oF.of hL)) hl
  rw [hc]
  show H1[_]? = some (vp_cell _ _)
  rw [e1, hx, vp_cell_i, vp_cell_i, arrV_store, rcell_upd]
theorem R_alen {c k t0 : Nat} {a : ClassId} {x : vp_A} {ty : FieldType} {v : Int32} (hL : oL Ω c k) (hc : cE Ω c k (σ c k) = .inl (a, x)) (ht : (oT Ω)[t0]? = some (a, ty)) (hv : Int32.ofNat x.1 = v) (hd : decode cc pc = .ok (.arraylength, 1))
    (kk : RunG l Ω cc own nL ret rm Q kc ks (pc + 1) lv (.int v :: st) σ) : RunG l Ω cc own nL ret rm Q kc ks pc lv (rf Ω c k :: st) σ := fun p e s m args below meth c0 B H locs ls hP hS hl =>
  va_alen (ws := [(oA Ω c k, .inl (a, x))]) B.1 B.2.1 B.2.2.2.2.2.2.2.1 (hP.one hL hc) 0 t0 rfl ht hv hd (kk p e s m args below meth c0 B H locs ls hP hS hl)
/-- scripts[i] -/
theorem R_scripts {i : Int32} (hL : oL Ω 23 0) (hin : vp_in i 4) (hd : decode cc pc = .ok (.aaload, 1))
    (kk : RunG l Ω cc own nL ret rm Q kc ks (pc + 1) lv (rf Ω 24 (ix i) :: st) σ) : RunG l Ω cc own nL ret rm Q kc ks pc lv (.int i :: rf Ω 23 0 :: st) σ := fun p e s m args below meth c0 B H locs ls hP hS hl => by
  have hlt : i.toNatClampNeg < 4 := Nat.not_le.mp fun q => hin (Or.inr q)
  have hK := B.2.2.2.2.2.2.2.1
  have h0 : va_at Ω.1 vwCl (oA Ω 23 0, .inl (Ω.2.1 5, 4, .inr (.inr (.inr (.inr (fun i => some (oA Ω 24 i))))))) H := hP 23 0 hL
  exact W.aald (v := rf Ω 24 (ix i)) (ty := .array .int) B.1 B.2.1 h0 ((hK.2 5 (Ω.2.1 5, .array .int) rfl).1 4 (fun j => va_rf (some (oA Ω 24 j)))) rfl (fun q => by cases q) (by show ¬ (i < 0 ∨ (arrV _ _ _).slots.size ≤ _); rw [arrV_size]; exact hin) (by show (arrV _ _ _).slots[_]? = _; rw [arrV_read _ _ hlt]; rfl) rfl rfl hd (kk p e s m args below meth c0 B H locs ls hP hS hl)
end RM
