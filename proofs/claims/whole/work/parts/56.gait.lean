/-! the town as a graph: labels below ns are streets, label ns is a skip -/
def mtr (st : Nat) : Nat := mmv st (st % 7) (1 - st / 7 % 2)
theorem mtr_lt (st : Nat) (h : st < 378) : mtr st < 378 := mmv_lt st h _ (Nat.mod_lt _ (by decide)) _ (by omega)
def mes (A B G T : Nat → Nat) (fr : Bool) (ns : Nat) (sk : Bool) (st a : Nat) : Option Nat := if a < ns then mbeh A B G T fr st a else if sk = true then some (mtr st) else none
def mwg (w : Nat → Nat) (ns S a : Nat) : Nat := if a < ns then w a else S
/-- what a town's streets are like -/
def Tok (ns : Nat) (A B G : Nat → Nat) : Prop := ns ≤ 10 ∧ ∀ s, s < ns → A s < 7 ∧ B s < 7 ∧ A s ≠ B s ∧ G s ≤ 3
section Graph
variable {len : Nat → Nat} {r : jR} {i i' : jI} {j : jL} {ns st k : Nat} {A B G P T w : Nat → Nat} {fr sk : Bool}
theorem TC.tok (h : TC i ns A B G P fr) : Tok ns A B G := ⟨h.2.1, fun s hs => ⟨(h.2.2.2 s hs).2.1, (h.2.2.2 s hs).2.2.1, (h.2.2.2 s hs).2.2.2.1, (h.2.2.2 s hs).2.2.2.2.2⟩⟩
theorem TM.tok (h : TM i ns A B G P fr) : Tok ns A B G := ⟨h.2.1, fun s hs => ⟨(h.2.2.2 s hs).2.1, (h.2.2.2 s hs).2.2.1, (h.2.2.2 s hs).2.2.2.1, (h.2.2.2 s hs).2.2.2.2.2⟩⟩
theorem TC.frm (e : ∀ a f, 3 ≤ a → a ≤ 8 → i' a f = i a f) (h : TC i ns A B G P fr) : TC i' ns A B G P fr := by
  obtain ⟨h1, h2, h3, h4⟩ := h
  refine ⟨(e 3 0 (by decide) (by decide)).trans h1, h2, (e 3 2 (by decide) (by decide)).trans h3, fun s hs => ?_⟩
  rw [e 4 s (by decide) (by decide), e 5 s (by decide) (by decide), e 6 s (by decide) (by decide), e 7 s (by decide) (by decide)]
  exact h4 s hs
theorem TM.frm (e : ∀ a f, (38 ≤ a ∧ a ≤ 41) ∨ (a = 37 ∧ (f = 0 ∨ f = 6)) → i' a f = i a f) (h : TM i ns A B G P fr) : TM i' ns A B G P fr := by
  obtain ⟨h1, h2, h3, h4⟩ := h
  refine ⟨(e 37 0 (by omega)).trans h1, h2, (e 37 6 (by omega)).trans h3, fun s hs => ?_⟩
  rw [e 38 s (by omega), e 39 s (by omega), e 40 s (by omega), e 41 s (by omega)]
  exact h4 s hs
theorem mes_lt (ht : Tok ns A B G) (hst : st < 378) {a y : Nat} (h : mes A B G T fr ns sk st a = some y) : y < 378 := by
  unfold mes at h
  split at h
  · rename_i ha
    obtain ⟨h1, h2, -, h3⟩ := ht.2 a ha
    exact mbeh_lt hst h1 h2 h3 h
  · split at h
    · cases h; exact mtr_lt st hst
    · cases h
/-- the gait: steps in cell a, turns in cell b -/
def ga (i : jI) (a b ns : Nat) (w T : Nat → Nat) : Prop := ∀ s, s < ns → i a s = nI (w s) ∧ i b s = nI (T s)
def hg2 (r : jR) (len : Nat → Nat) (g a b : Nat) : Prop := r g 0 = some a ∧ r g 1 = some b ∧ len a = 10 ∧ len b = 10 ∧ a ≠ b ∧ 8 < a ∧ 8 < b
theorem sp_pave {Q : jI → jL → Prop} {g a b s p : Nat} (hG : hg2 r len g a b) (hk : k < 5) (hp : p < 16) (hs : s < 10) (hQ : ∀ i', (∀ z f, z ≠ a → z ≠ b → i' z f = i z f) → i' a s = nI (mstep k p) → i' b s = nI (mturn k p) → (∀ t, t ≠ s → i' a t = i a t ∧ i' b t = i b t) → Q i' j) : J_X2_pave len r Q i j g (nI k) (nI s) (nI p) := by
  obtain ⟨g1, g2, l1, l2, n1, n2, n3⟩ := hG
  have es : (nI s).toNatClampNeg = s := nI_clamp (by omega)
  rw [J_X2_pave]
  refine ⟨a, g1, sp_stepsOf hk hp ⟨by rw [l1]; exact vp_in_nI hs (by decide), fun i1 e1 => ⟨b, g2, sp_turnOf hk hp ⟨by rw [l2]; exact vp_in_nI hs (by decide), fun i2 e2 => ?_⟩⟩⟩⟩
  rw [es] at e1 e2
  refine hQ i2 (fun z f h1 h2 => ?_) ?_ ?_ (fun t ht => ⟨?_, ?_⟩)
  · rw [e2, ju_ne h2, e1, ju_ne h1]
  · rw [e2, ju_ne n1, e1, ju_eq, pk_us]
  · rw [e2, ju_eq, pk_us]
  · rw [e2, ju_ne n1, e1, ju_eq, pk_un ht]
  · rw [e2, ju_eq, pk_un ht, e1, ju_ne (fun z => n1 z.symm)]
theorem lp_gait {Q : jI → jL → Prop} {i0 : jI} {g a b : Nat} (hg : Gr r len) (hG : hg2 r len g a b) (tc : TC i0 ns A B G P fr) (hk : k < 5) (hQ : ∀ i', (∀ z f, z ≠ a → z ≠ b → i' z f = i0 z f) → ga i' a b ns (fun s => mstep k (P s)) (fun s => mturn k (P s)) → Q i' j) : ∀ (m x : Nat) (i : jI), x + m = ns → (∀ z f, z ≠ a → z ≠ b → i z f = i0 z f) → ga i a b x (fun s => mstep k (P s)) (fun s => mturn k (P s)) → J_X2_take_L2 len r Q (m + 1) i j g (nI k) 3 (nI x) := by
  have hn := tc.2.1
  intro m
  induction m with
  | zero =>
    intro x i hx h1 h2
    have hx' : x = ns := by omega
    subst hx'
    rw [J_X2_take_L2]
    dsimp only
    rw [h1 3 0 (by have := hG.2.2.2.2.2; omega) (by have := hG.2.2.2.2.2; omega), tc.1]
    exact ⟨fun _ => hQ i h1 h2, fun hh => absurd (nI_le (Nat.le_refl _) (by omega)) hh⟩
  | succ m ih =>
    intro x i hx h1 h2
    obtain ⟨g1, g2, l1, l2, n1, n2, n3⟩ := id hG
    obtain ⟨⟨c0, c1, c2, c3⟩, cA, cB, -, cP, cG⟩ := tc.2.2.2 x (by omega)
    rw [J_X2_take_L2]
    dsimp only
    rw [h1 3 0 (by omega) (by omega), tc.1]
    refine ⟨fun hh => absurd hh (nI_ge (by omega) (by omega)), fun _ => ⟨_, hg.1 _ (by decide) _ (by decide) _ rfl, by rw [hg.2 _ (by decide)]; exact vp_in_nI (by simp only [LL]; omega) (by decide), ?_⟩⟩
    rw [nI_clamp (by omega), h1 6 x (by omega) (by omega), c2]
    refine sp_pave hG hk (by omega) (by omega) (fun i' e1 e2 e3 e4 v ev => ?_)
    rw [nI_1] at ev
    subst ev
    refine ih (x + 1) i' (by omega) (fun z f z1 z2 => (e1 z f z1 z2).trans (h1 z f z1 z2)) (fun s hs => ?_)
    by_cases e : s = x
    · subst e; exact ⟨e2, e3⟩
    · rw [(e4 s e).1, (e4 s e).2]; exact h2 s (by omega)
theorem sp_gait {Q : jI → jL → Prop} {g a b : Nat} (hg : Gr r len) (hG : hg2 r len g a b) (tc : TC i ns A B G P fr) (hk : k < 5) (hQ : ∀ i', (∀ z f, z ≠ a → z ≠ b → i' z f = i z f) → ga i' a b ns (fun s => mstep k (P s)) (fun s => mturn k (P s)) → Q i' j) : J_X2_take len r Q i j g (nI k) 3 := by
  rw [J_X2_take]
  exact ⟨ns + 1, lp_gait hg hG tc hk hQ ns 0 i (by omega) (fun _ _ _ _ => rfl) (fun s hs => by omega)⟩
theorem hg16 (hg : Gr r len) : hg2 r len 16 17 18 := ⟨hg.1 _ (by decide) _ (by decide) _ rfl, hg.1 _ (by decide) _ (by decide) _ rfl, hg.2 _ (by decide), hg.2 _ (by decide), by decide, by decide, by decide⟩
theorem hg19 (hg : Gr r len) : hg2 r len 19 20 21 := ⟨hg.1 _ (by decide) _ (by decide) _ rfl, hg.1 _ (by decide) _ (by decide) _ rfl, hg.2 _ (by decide), hg.2 _ (by decide), by decide, by decide, by decide⟩
theorem hg23 (hg : Gr r len) : hg3 r len 23 24 25 26 896 := ⟨hg.1 _ (by decide) _ (by decide) _ rfl, hg.1 _ (by decide) _ (by decide) _ rfl, hg.1 _ (by decide) _ (by decide) _ rfl, hg.2 _ (by decide), hg.2 _ (by decide), hg.2 _ (by decide), by decide, by decide, by decide, by decide, by decide, by decide, by decide⟩
end Graph
/-! the class's numbers as a graph -/
def dc (x : Nat) : Nat := x / 128 + 7 * (x / 64 % 2) + 14 * (x % 4) + 42 * (x / 4 % 4) + 126 * (x / 16 % 4)
theorem dc_enc : ∀ a, a < 378 → dc (enc a) = a := by decide +kernel
theorem enc_pl : ∀ a, a < 378 → enc a / 128 = a % 7 := by decide +kernel
def ces (es : Nat → Nat → Option Nat) (x a : Nat) : Option Nat := if dc x < 378 then (es (dc x) a).map enc else none
section CG
variable {es : Nat → Nat → Option Nat} {m st : Nat} {wt : Nat → Nat}
theorem ces_enc (u a : Nat) (hu : u < 378) : ces es (enc u) a = (es u a).map enc := by
  unfold ces
  rw [dc_enc u hu, if_pos hu]
theorem ces_lt (hN : ∀ x, x < 378 → ∀ a, a < m → ∀ y, es x a = some y → y < 378) : ∀ x, x < 896 → ∀ a, a < m → ∀ y, ces es x a = some y → y < 896 := by
  intro x _ a ha y h
  unfold ces at h
  split at h
  · rename_i hx
    cases he : es (dc x) a with
    | none => rw [he] at h; cases h
    | some v =>
      rw [he] at h
      cases h
      exact enc_lt v (hN (dc x) hx a ha v he)
  · cases h
theorem ces_way (hN : ∀ x, x < 378 → ∀ a, a < m → ∀ y, es x a = some y → y < 378) (hst : st < 378) {x c : Nat} : gw_way (ces es) m wt (enc st) x c ↔ ∃ u, u < 378 ∧ x = enc u ∧ gw_way es m wt st u c := by
  have key := gw_map (es := es) (es2 := ces es) (m := m) (s := st) (s2 := enc st) (fun u x => u < 378 ∧ x = enc u) ⟨hst, rfl⟩ (fun u x h a ha => by
    obtain ⟨hu, rfl⟩ := h
    rw [ces_enc u a hu]
    cases he : es u a with
    | none => exact Or.inl ⟨rfl, rfl⟩
    | some v => exact Or.inr ⟨v, enc v, rfl, rfl, hN u hu a ha v he, rfl⟩)
  constructor
  · rintro ⟨l, h1, h2, h3⟩
    rcases key l h1 with ⟨-, e⟩ | ⟨u, z, e1, e2, hu, hz⟩
    · rw [e] at h2; cases h2
    · rw [e2] at h2
      cases h2
      exact ⟨u, hu, hz, l, h1, e1, h3⟩
  · rintro ⟨u, hu, rfl, l, h1, h2, h3⟩
    rcases key l h1 with ⟨e, -⟩ | ⟨v, z, e1, e2, hv, hz⟩
    · rw [e] at h2; cases h2
    · rw [e1] at h2
      cases h2
      exact ⟨l, h1, by rw [e2, hz], h3⟩
end CG
