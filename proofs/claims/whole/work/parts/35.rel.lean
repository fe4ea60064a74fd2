/-! THE RELATION between the class's cells and the reference's -/
def RT (i : jI) (ns ng : Nat) (A B G P : Nat → Nat) (fr : Bool) : Prop := TM i ns A B G P fr ∧ TC i ns A B G P fr ∧ (∀ s, s < ns → P s ≤ 9) ∧ (i 37 5 = nI ng ∧ i 3 1 = nI ng ∧ ng ≤ 3) ∧ (∀ s, s < ns → G s ≤ ng) ∧ (∀ g, g < ng → ∃ s, s < ns ∧ G s = g + 1 ∧ i 8 g = nI s) ∧ ∀ s t, s < ns → t < ns → G s = G t → G s ≠ 0 → s = t
def RN (k : Nat) (i : jI) (ns nt : Nat) : Prop := i 37 7 = nI nt ∧ i 0 7 = nI nt ∧ nt ≤ k ∧ (nt = 0 ↔ ns = 0)
def RWk (i : jI) (w kd st : Nat) : Prop := kd < 5 ∧ st < 378 ∧ i 42 w = nI kd ∧ i (32 + w) 0 = nI kd ∧ i 43 w = nI st ∧ i (32 + w) 1 = nI (enc st) ∧ i (32 + w) 2 = i 44 w
def RW (i : jI) (nw : Nat) : Prop := i 37 8 = nI nw ∧ i 0 3 = nI nw ∧ nw ≤ 5 ∧ ∀ w, w < nw → ∃ kd st, RWk i w kd st
def RQ (i : jI) (np ng : Nat) : Prop := i 37 12 = nI np ∧ i 0 5 = nI np ∧ np ≤ 6 ∧ ∀ q, q < np → ∃ v, v < 4 * ng ∧ i 45 q = nI v ∧ i 10 q = nI v
def RD (i : jI) (dn : Nat) : Prop := i 37 14 = nI dn ∧ i 0 8 = nI dn ∧ dn ≤ 40
def RP (i : jI) (pl : Nat) : Prop := i 37 15 = nI pl ∧ i 1 1 = nI pl ∧ pl ≤ 50 ∧ ∀ q, q < pl → ∃ c, 0 < c ∧ c < 127 ∧ i 46 q = nI c ∧ i 2 q = nI c
/-- the image: none; or of an earlier town; or of this one -/
def RI (i : jI) (ns ng nt nw : Nat) : Prop := (i 37 42 = 0 ∧ i 11 0 = 0) ∨ ∃ kt, 0 < kt ∧ kt ≤ nt ∧ i 37 42 = 1 ∧ i 37 43 = nI kt ∧ i 11 0 = nI kt ∧ (kt = nt → ∃ kw kp, kw ≤ nw ∧ kp ≤ 6 ∧ i 37 44 = nI kw ∧ i 11 1 = nI kw ∧ i 37 45 = nI kp ∧ i 11 4 = nI kp ∧ (∀ w, w < kw → ∃ st, st < 378 ∧ i 61 w = nI st ∧ i 12 w = nI (enc st) ∧ i 13 w = i 62 w) ∧ (∀ q, q < kp → ∃ v, v < 4 * ng ∧ i 64 q = nI v ∧ i 14 q = nI v) ∧ ∀ s, s < ns → ∃ p, p ≤ 9 ∧ i 63 s = nI p ∧ i 15 s = nI p)
def Rp (k : Nat) (i : jI) : Prop := ∃ (ns ng nt nw np dn pl : Nat) (A B G P : Nat → Nat) (fr : Bool), RT i ns ng A B G P fr ∧ RN k i ns nt ∧ (0 < nw → 0 < ns) ∧ RW i nw ∧ RQ i np ng ∧ RD i dn ∧ RP i pl ∧ RI i ns ng nt nw
section Cong
variable {i i' : jI} {ns ng nt nw np dn pl k : Nat} {A B G P : Nat → Nat} {fr : Bool}
def EqT (i i' : jI) : Prop := (∀ a, (3 ≤ a ∧ a ≤ 8) ∨ (38 ≤ a ∧ a ≤ 41) → i' a = i a) ∧ i' 37 0 = i 37 0 ∧ i' 37 5 = i 37 5 ∧ i' 37 6 = i 37 6
theorem TM.cong (e : EqT i i') (h : TM i ns A B G P fr) : TM i' ns A B G P fr := by
  obtain ⟨e1, e2, e3, e4⟩ := e
  obtain ⟨h1, h2, h3, h4⟩ := h
  refine ⟨e2.trans h1, h2, e4.trans h3, fun s hs => ?_⟩
  rw [e1 38 (by omega), e1 39 (by omega), e1 40 (by omega), e1 41 (by omega)]
  exact h4 s hs
theorem TC.cong (e : EqT i i') (h : TC i ns A B G P fr) : TC i' ns A B G P fr := by
  obtain ⟨e1, e2, e3, e4⟩ := e
  obtain ⟨h1, h2, h3, h4⟩ := h
  refine ⟨by rw [e1 3 (by omega)]; exact h1, h2, by rw [e1 3 (by omega)]; exact h3, fun s hs => ?_⟩
  rw [e1 4 (by omega), e1 5 (by omega), e1 6 (by omega), e1 7 (by omega)]
  exact h4 s hs
theorem RT.cong (e : EqT i i') (h : RT i ns ng A B G P fr) : RT i' ns ng A B G P fr := by
  obtain ⟨h1, h2, h3, ⟨h4, h5, h6⟩, h7, h8, h9⟩ := h
  refine ⟨h1.cong e, h2.cong e, h3, ⟨e.2.2.1.trans h4, by rw [e.1 3 (by omega)]; exact h5, h6⟩, h7, fun g hg => ?_, h9⟩
  rw [e.1 8 (by omega)]
  exact h8 g hg
def EqN (i i' : jI) : Prop := i' 37 7 = i 37 7 ∧ i' 0 7 = i 0 7
theorem RN.cong (e : EqN i i') (h : RN k i ns nt) : RN k i' ns nt := ⟨e.1.trans h.1, e.2.trans h.2.1, h.2.2⟩
theorem RN.up {k2 : Nat} (hk : k ≤ k2) (h : RN k i ns nt) : RN k2 i ns nt := ⟨h.1, h.2.1, Nat.le_trans h.2.2.1 hk, h.2.2.2⟩
def EqW (i i' : jI) : Prop := (∀ a, (32 ≤ a ∧ a ≤ 36) ∨ (42 ≤ a ∧ a ≤ 44) → i' a = i a) ∧ i' 37 8 = i 37 8 ∧ i' 0 3 = i 0 3
theorem RWk.cong {w kd st : Nat} (hw : w < 5) (e : ∀ a, (32 ≤ a ∧ a ≤ 36) ∨ (42 ≤ a ∧ a ≤ 44) → i' a = i a) (h : RWk i w kd st) : RWk i' w kd st := by
  unfold RWk
  rw [e 42 (by omega), e 43 (by omega), e 44 (by omega), e (32 + w) (by omega)]
  exact h
theorem RW.cong (e : EqW i i') (h : RW i nw) : RW i' nw := by
  obtain ⟨e1, e2, e3⟩ := e
  obtain ⟨h1, h2, h3, h4⟩ := h
  refine ⟨e2.trans h1, e3.trans h2, h3, fun w hw => ?_⟩
  obtain ⟨kd, st, h⟩ := h4 w hw
  exact ⟨kd, st, h.cong (by omega) e1⟩
def EqQ (i i' : jI) : Prop := i' 45 = i 45 ∧ i' 10 = i 10 ∧ i' 37 12 = i 37 12 ∧ i' 0 5 = i 0 5
theorem RQ.cong (e : EqQ i i') (h : RQ i np ng) : RQ i' np ng := by
  obtain ⟨e1, e2, e3, e4⟩ := e
  obtain ⟨h1, h2, h3, h4⟩ := h
  refine ⟨e3.trans h1, e4.trans h2, h3, ?_⟩
  rw [e1, e2]
  exact h4
def EqD (i i' : jI) : Prop := i' 37 14 = i 37 14 ∧ i' 0 8 = i 0 8
theorem RD.cong (e : EqD i i') (h : RD i dn) : RD i' dn := ⟨e.1.trans h.1, e.2.trans h.2.1, h.2.2⟩
def EqP (i i' : jI) : Prop := i' 46 = i 46 ∧ i' 2 = i 2 ∧ i' 37 15 = i 37 15 ∧ i' 1 1 = i 1 1
theorem RP.cong (e : EqP i i') (h : RP i pl) : RP i' pl := by
  obtain ⟨e1, e2, e3, e4⟩ := e
  obtain ⟨h1, h2, h3, h4⟩ := h
  refine ⟨e3.trans h1, e4.trans h2, h3, ?_⟩
  rw [e1, e2]
  exact h4
def EqI (i i' : jI) : Prop := (∀ a, (11 ≤ a ∧ a ≤ 15) ∨ (61 ≤ a ∧ a ≤ 64) → i' a = i a) ∧ i' 37 42 = i 37 42 ∧ i' 37 43 = i 37 43 ∧ i' 37 44 = i 37 44 ∧ i' 37 45 = i 37 45
theorem RI.cong (e : EqI i i') (h : RI i ns ng nt nw) : RI i' ns ng nt nw := by
  obtain ⟨e1, e2, e3, e4, e5⟩ := e
  unfold RI
  rw [e1 11 (by omega), e1 12 (by omega), e1 13 (by omega), e1 14 (by omega), e1 15 (by omega), e1 61 (by omega), e1 62 (by omega), e1 63 (by omega), e1 64 (by omega), e2, e3, e4, e5]
  exact h
/-- all that the relation speaks of is as it was -/
def Sm (i i' : jI) : Prop := EqT i i' ∧ EqN i i' ∧ EqW i i' ∧ EqQ i i' ∧ EqD i i' ∧ EqP i i' ∧ EqI i i'
theorem Rp.sm (e : Sm i i') (h : Rp k i) : Rp k i' := by
  obtain ⟨e1, e2, e3, e4, e5, e6, e7⟩ := e
  obtain ⟨ns, ng, nt, nw, np, dn, pl, A, B, G, P, fr, h1, h2, h3, h4, h5, h6, h7, h8⟩ := h
  exact ⟨ns, ng, nt, nw, np, dn, pl, A, B, G, P, fr, h1.cong e1, h2.cong e2, h3, h4.cong e3, h5.cong e4, h6.cong e5, h7.cong e6, h8.cong e7⟩
theorem Rp.up {k2 : Nat} (hk : k ≤ k2) (h : Rp k i) : Rp k2 i := by
  obtain ⟨ns, ng, nt, nw, np, dn, pl, A, B, G, P, fr, h1, h2, h3⟩ := h
  exact ⟨ns, ng, nt, nw, np, dn, pl, A, B, G, P, fr, h1, h2.up hk, h3⟩
theorem Sm.rf : Sm i i := ⟨⟨fun _ _ => rfl, rfl, rfl, rfl⟩, ⟨rfl, rfl⟩, ⟨fun _ _ => rfl, rfl, rfl⟩, ⟨rfl, rfl, rfl, rfl⟩, ⟨rfl, rfl⟩, ⟨rfl, rfl, rfl, rfl⟩, ⟨fun _ _ => rfl, rfl, rfl, rfl, rfl⟩⟩
theorem Rp.zero (hz : ∀ a f, i a f = 0) : Rp 0 i := by
  have n0 : (0 : Int32) = nI 0 := by decide
  refine ⟨0, 0, 0, 0, 0, 0, 0, fun _ => 0, fun _ => 0, fun _ => 0, fun _ => 0, false, ⟨⟨(hz _ _).trans n0, by decide, hz _ _, fun s hs => absurd hs (Nat.not_lt_zero s)⟩, ⟨(hz _ _).trans n0, by decide, hz _ _, fun s hs => absurd hs (Nat.not_lt_zero s)⟩, fun s hs => absurd hs (Nat.not_lt_zero s), ⟨(hz _ _).trans n0, (hz _ _).trans n0, by decide⟩, fun s hs => absurd hs (Nat.not_lt_zero s), fun s hs => absurd hs (Nat.not_lt_zero s), fun s t hs => absurd hs (Nat.not_lt_zero s)⟩, ⟨(hz _ _).trans n0, (hz _ _).trans n0, by decide, Iff.rfl⟩, fun h => absurd h (by decide), ⟨(hz _ _).trans n0, (hz _ _).trans n0, by decide, fun s hs => absurd hs (Nat.not_lt_zero s)⟩, ⟨(hz _ _).trans n0, (hz _ _).trans n0, by decide, fun s hs => absurd hs (Nat.not_lt_zero s)⟩, ⟨(hz _ _).trans n0, (hz _ _).trans n0, by decide⟩, ⟨(hz _ _).trans n0, (hz _ _).trans n0, by decide, fun s hs => absurd hs (Nat.not_lt_zero s)⟩, Or.inl ⟨hz _ _, hz _ _⟩⟩
end Cong
