/-! two arm in arm: z = 378 a + b -/
def pes (A B G T1 T2 : Nat → Nat) (fr : Bool) (z k : Nat) : Option Nat := (mbeh A B G T1 fr (z / 378) k).bind (fun a => (mbeh A B G T2 fr (z % 378) k).map (fun b => 378 * a + b))
def pgd (z : Nat) : Prop := z / 378 < 378 ∧ z / 378 % 7 = z % 378 % 7
def pin (z0 z : Nat) : Prop := pgd z ∧ ∀ g, g < 3 → (mmark (z / 378) g = mmark (z0 / 378) g ∧ mmark (z % 378) g = mmark (z0 % 378) g) ∨ (mmark (z / 378) g ≠ 0 ∧ mmark (z % 378) g ≠ 0)
def pm (z g : Nat) : Nat := if mmark (z / 378) g = 0 ∨ mmark (z % 378) g = 0 then 0 else mmark (z / 378) g + 2 * mmark (z % 378) g - 2
def pn0 (z : Nat) : Nat := z / 378 % 7 * 4 + z / 378 / 7 % 2 * 2 + z % 378 / 7 % 2
def pn (z : Nat) : Nat := ((pn0 z * 5 + pm z 0) * 5 + pm z 1) * 5 + pm z 2
theorem pm_lt (z g : Nat) : pm z g < 5 := by
  unfold pm
  have := mmk_lt (z / 378) g
  have := mmk_lt (z % 378) g
  split <;> omega
theorem pn_lt (z : Nat) : pn z < 3500 := by
  unfold pn pn0
  have := pm_lt z 0
  have := pm_lt z 1
  have := pm_lt z 2
  have := Nat.mod_lt (z / 378) (show 0 < 7 by decide)
  have := Nat.mod_lt (z / 378 / 7) (show 0 < 2 by decide)
  have := Nat.mod_lt (z % 378 / 7) (show 0 < 2 by decide)
  omega
theorem pm_det {a b a' b' s t : Nat} (ha : a < 3) (hb : b < 3) (ha' : a' < 3) (hb' : b' < 3) (h : (a = s ∧ b = t) ∨ (a ≠ 0 ∧ b ≠ 0)) (h' : (a' = s ∧ b' = t) ∨ (a' ≠ 0 ∧ b' ≠ 0)) (e : (if a = 0 ∨ b = 0 then 0 else a + 2 * b - 2) = (if a' = 0 ∨ b' = 0 then 0 else a' + 2 * b' - 2)) : a = a' ∧ b = b' := by
  split at e <;> split at e <;> omega
theorem pn_dec {x x' a b c a' b' c' : Nat} (ha : a < 5) (hb : b < 5) (hc : c < 5) (ha' : a' < 5) (hb' : b' < 5) (hc' : c' < 5) (e : ((x * 5 + a) * 5 + b) * 5 + c = ((x' * 5 + a') * 5 + b') * 5 + c') : x = x' ∧ a = a' ∧ b = b' ∧ c = c' := by omega
theorem pn0_dec {p f g p' f' g' : Nat} (hf : f < 2) (hg : g < 2) (hf' : f' < 2) (hg' : g' < 2) (e : p * 4 + f * 2 + g = p' * 4 + f' * 2 + g') : p = p' ∧ f = f' ∧ g = g' := by omega
theorem pn_inj {z0 z z' : Nat} (h : pin z0 z) (h' : pin z0 z') (e : pn z = pn z') : z = z' := by
  obtain ⟨en, e0, e1, e2⟩ := pn_dec (pm_lt z 0) (pm_lt z 1) (pm_lt z 2) (pm_lt z' 0) (pm_lt z' 1) (pm_lt z' 2) e
  obtain ⟨k1, k2, k3⟩ := pn0_dec (Nat.mod_lt _ (by decide)) (Nat.mod_lt _ (by decide)) (Nat.mod_lt _ (by decide)) (Nat.mod_lt _ (by decide)) en
  have mk : ∀ g, g < 3 → pm z g = pm z' g → mmark (z / 378) g = mmark (z' / 378) g ∧ mmark (z % 378) g = mmark (z' % 378) g := fun g hg eg => pm_det (mmk_lt _ _) (mmk_lt _ _) (mmk_lt _ _) (mmk_lt _ _) (h.2 g hg) (h'.2 g hg) eg
  obtain ⟨m0, n0⟩ := mk 0 (by decide) e0
  obtain ⟨m1, n1⟩ := mk 1 (by decide) e1
  obtain ⟨m2, n2⟩ := mk 2 (by decide) e2
  have p8 : z % 378 % 7 = z' % 378 % 7 := h.1.2.symm.trans (k1.trans h'.1.2)
  have ea : z / 378 = z' / 378 := by
    have x1 := mk_ext (z / 378) h.1.1
    rw [m0, m1, m2, k1, k2] at x1
    exact x1.trans (mk_ext (z' / 378) h'.1.1).symm
  have eb : z % 378 = z' % 378 := by
    have x2 := mk_ext (z % 378) (Nat.mod_lt _ (by decide))
    rw [n0, n1, n2, p8, k3] at x2
    exact x2.trans (mk_ext (z' % 378) (Nat.mod_lt _ (by decide))).symm
  clear mk
  rw [← Nat.div_add_mod z 378, ← Nat.div_add_mod z' 378, ea, eb]
theorem mgt_own : ∀ st, st < 378 → ∀ p, p < 7 → ∀ f, f < 2 → ∀ g, g < 3 → mmark (mmv st p f - mwt g * mmark st g + mwt g * (f + 1)) g = f + 1 := by decide +kernel
theorem mbeh_gm {A B G T : Nat → Nat} {fr : Bool} {st s y : Nat} (hst : st < 378) (hA : A s < 7) (hB : B s < 7) (hG : G s ≤ 3) (h0 : G s ≠ 0) (h : mbeh A B G T fr st s = some y) : (A s = st % 7 → mmark y (G s - 1) ≠ 0) ∧ (A s ≠ st % 7 → mmark y (G s - 1) = mmark st (G s - 1)) := by
  have hff : (st / 7 + T s) % 2 < 2 := Nat.mod_lt _ (by decide)
  unfold mbeh at h
  split at h
  · rename_i ha
    cases h
    refine ⟨fun _ => ?_, fun z => absurd ha z⟩
    rw [mgt_own st hst _ hB _ hff _ (by omega)]
    omega
  · rename_i ha
    refine ⟨fun z => absurd z ha, fun _ => ?_⟩
    split at h
    · split at h
      · cases h; exact mmv_mk st hst _ hA _ hff _ (by omega)
      · cases h
    · cases h
section Pes
variable {A B G T1 T2 wt : Nat → Nat} {fr : Bool} {ns z0 z : Nat}
theorem pes_some {k z' : Nat} (h : pes A B G T1 T2 fr z k = some z') : ∃ a b, mbeh A B G T1 fr (z / 378) k = some a ∧ mbeh A B G T2 fr (z % 378) k = some b ∧ z' = 378 * a + b := by
  unfold pes at h
  cases h1 : mbeh A B G T1 fr (z / 378) k with
  | none => rw [h1] at h; cases h
  | some a =>
    cases h2 : mbeh A B G T2 fr (z % 378) k with
    | none => rw [h1, h2] at h; cases h
    | some b => rw [h1, h2] at h; cases h; exact ⟨a, b, rfl, rfl, rfl⟩
theorem pes_pin (tok : Tok ns A B G) (hz : pin z0 z) {k z' : Nat} (hk : k < ns) (h : pes A B G T1 T2 fr z k = some z') : pin z0 z' := by
  obtain ⟨a, b, h1, h2, rfl⟩ := pes_some h
  obtain ⟨tA, tB, tAB, tG⟩ := tok.2 k hk
  obtain ⟨⟨g1, g2⟩, g3⟩ := hz
  have hb378 : z % 378 < 378 := Nat.mod_lt _ (by decide)
  have la := mbeh_lt g1 tA tB tG h1
  have lb := mbeh_lt hb378 tA tB tG h2
  obtain ⟨p1, -, p3⟩ := mbeh_pl g1 tA tB tG h1
  obtain ⟨q1, -, q3⟩ := mbeh_pl hb378 tA tB tG h2
  have ea : (378 * a + b) / 378 = a := by omega
  have eb : (378 * a + b) % 378 = b := by omega
  unfold pin pgd
  rw [ea, eb]
  refine ⟨⟨la, ?_⟩, fun g hg => ?_⟩
  · rcases p1 with ⟨c1, c2⟩ | ⟨c1, c2⟩
    · rcases q1 with ⟨d1, d2⟩ | ⟨d1, d2⟩ <;> omega
    · rcases q1 with ⟨d1, d2⟩ | ⟨d1, d2⟩ <;> omega
  · by_cases hgg : G k = 0 ∨ g ≠ G k - 1
    · rw [p3 g hg hgg, q3 g hg hgg]; exact g3 g hg
    · have h0 : G k ≠ 0 := fun z => hgg (Or.inl z)
      have eg : g = G k - 1 := by
        rcases Nat.lt_trichotomy g (G k - 1) with z | z | z
        · exact absurd (Or.inr (by omega)) hgg
        · exact z
        · exact absurd (Or.inr (by omega)) hgg
      subst eg
      obtain ⟨m1, m2⟩ := mbeh_gm g1 tA tB tG h0 h1
      obtain ⟨n1, n2⟩ := mbeh_gm hb378 tA tB tG h0 h2
      by_cases hin : A k = z / 378 % 7
      · exact Or.inr ⟨m1 hin, n1 (by omega)⟩
      · rw [m2 hin, n2 (by omega)]; exact g3 _ hg
/-- the class's numbers as a graph -/
noncomputable def dcA (z0 x : Nat) : Nat := Classical.epsilon (fun z => pin z0 z ∧ pn z = x)
noncomputable def aes (A B G T1 T2 : Nat → Nat) (fr : Bool) (z0 x k : Nat) : Option Nat := if dP (∃ z, pin z0 z ∧ pn z = x) = true then (pes A B G T1 T2 fr (dcA z0 x) k).map pn else none
theorem dcA_pn (h : pin z0 z) : dcA z0 (pn z) = z := by
  have hs : pin z0 (dcA z0 (pn z)) ∧ pn (dcA z0 (pn z)) = pn z := Classical.epsilon_spec (p := fun y => pin z0 y ∧ pn y = pn z) ⟨z, h, rfl⟩
  exact pn_inj hs.1 h hs.2
theorem aes_pn (h : pin z0 z) (k : Nat) : aes A B G T1 T2 fr z0 (pn z) k = (pes A B G T1 T2 fr z k).map pn := by
  unfold aes
  rw [if_pos (dP_t.mpr ⟨z, h, rfl⟩), dcA_pn h]
theorem aes_lt : ∀ x, x < 3500 → ∀ k, k < ns → ∀ y, aes A B G T1 T2 fr z0 x k = some y → y < 3500 := by
  intro x _ k _ y h
  unfold aes at h
  split at h
  · cases hp : pes A B G T1 T2 fr (dcA z0 x) k with
    | none => rw [hp] at h; cases h
    | some v => rw [hp] at h; cases h; exact pn_lt v
  · cases h
theorem aes_way (tok : Tok ns A B G) (hz0 : pin z0 z0) {x c : Nat} : gw_way (aes A B G T1 T2 fr z0) ns wt (pn z0) x c ↔ ∃ u, pin z0 u ∧ x = pn u ∧ gw_way (pes A B G T1 T2 fr) ns wt z0 u c := by
  have key := gw_map (es := pes A B G T1 T2 fr) (es2 := aes A B G T1 T2 fr z0) (m := ns) (s := z0) (s2 := pn z0) (fun u x => pin z0 u ∧ x = pn u) ⟨hz0, rfl⟩ (fun u x h a ha => by
    obtain ⟨hu, rfl⟩ := h
    rw [aes_pn hu a]
    cases he : pes A B G T1 T2 fr u a with
    | none => exact Or.inl ⟨rfl, rfl⟩
    | some v => exact Or.inr ⟨v, pn v, rfl, rfl, pes_pin tok hu ha he, rfl⟩)
  constructor
  · rintro ⟨l, h1, h2, h3⟩
    rcases key l h1 with ⟨-, e⟩ | ⟨u, z, e1, e2, hu, hz⟩
    · rw [e] at h2; cases h2
    · rw [e2] at h2
      cases h2
      exact ⟨u, hu, hz, l, h1, e1, h3⟩
  · rintro ⟨u, hu, rfl, l, h1, h2, h3⟩
    rcases key l h1 with ⟨e, -⟩ | ⟨v, z, e1, e2, hv, hz⟩
    · rw [e] at h2; cases h2
    · rw [e1] at h2
      cases h2
      exact ⟨l, h1, by rw [e2, hz], h3⟩
end Pes
/-- the costs of the ways of two to a place -/
def pcs (A B G T1 T2 wt : Nat → Nat) (fr : Bool) (ns z0 p c : Nat) : Prop := ∃ z, z / 378 % 7 = p ∧ gw_way (pes A B G T1 T2 fr) ns wt z0 z c
theorem pm_n : ∀ a, a < 3 → ∀ b, b < 3 → a ≠ 0 → b ≠ 0 → ((1 : Int32) + (nI a - 1)) + ((2 : Int32) * (nI b - 1)) = nI (a + 2 * b - 2) := by decide +kernel
theorem pn0_n : ∀ p, p < 7 → ∀ f, f < 2 → ∀ g, g < 2 → ((nI p * (4 : Int32)) + (nI f * (2 : Int32))) + nI g = nI (p * 4 + f * 2 + g) := by decide +kernel
section ArmsC
variable {len : Nat → Nat} {r : jR} {i : jI} {j : jL} {ns z0 p : Nat} {A B G P T1 T2 w1 w2 : Nat → Nat} {fr : Bool}
/-- the cells of the two -/
def hgA (r : jR) (len : Nat → Nat) : Prop := r 65 0 = some 66 ∧ r 65 1 = some 70 ∧ hg3 r len 66 67 68 69 3500 ∧ len 70 = 3500
theorem lp_number {Q : Int32 → jI → jL → Prop} {z : Nat} (hz : pgd z) (hQ : Q (nI (pn z)) i j) : ∀ (x : Int32), x = nI (pn0 z) → J_X0_numberOf_L21 len r Q 4 i j (nI (enc (z / 378))) (nI (enc (z % 378))) x 0 := by
  have hb : z % 378 < 378 := Nat.mod_lt _ (by decide)
  -- one gate
  have one : ∀ (Hd : jI → jL → Int32 → Int32 → Int32 → Int32 → Prop) (g x : Nat), g < 3 → Hd i j (nI (enc (z / 378))) (nI (enc (z % 378))) (nI (x * 5 + pm z g)) (nI (g + 1)) → J_X7_markOf len r (fun (q28 : Int32) (i28 : jI) (j28 : jL) => J_X7_markOf len r (fun (q35 : Int32) (i35 : jI) (j35 : jL) => ((q28 = (-1 : Int32)) → (J_X0_numberOf_L52 len r Q Hd i35 j35 (nI (enc (z / 378))) (nI (enc (z % 378))) (nI x) (nI g) q28 q35)) ∧ ((¬ q28 = (-1 : Int32)) → (((¬ q35 = (-1 : Int32)) → (J_X0_numberOf_L57 len r Q Hd i35 j35 (nI (enc (z / 378))) (nI (enc (z % 378))) (nI x) (nI g) q28 q35 (0 : Int32))) ∧ ((q35 = (-1 : Int32)) → (J_X0_numberOf_L52 len r Q Hd i35 j35 (nI (enc (z / 378))) (nI (enc (z % 378))) (nI x) (nI g) q28 q35))))) i28 j28 (nI (enc (z % 378))) (nI g)) i j (nI (enc (z / 378))) (nI g) := by
    intro Hd g x hg h
    have m1 := (mk_eq _ (mmk_lt (z / 378) g) 0 (by decide)).2
    have m2 := (mk_eq _ (mmk_lt (z % 378) g) 0 (by decide)).2
    have e5 : nI x * (5 : Int32) = nI (x * 5) := pk_mul x 5
    have zero : (mmark (z / 378) g = 0 ∨ mmark (z % 378) g = 0) → ∀ a b : Int32, J_X0_numberOf_L52 len r Q Hd i j (nI (enc (z / 378))) (nI (enc (z % 378))) (nI x) (nI g) a b := by
      intro h0 a b
      rw [J_X0_numberOf_L52, J_X0_numberOf_L57]
      refine ⟨fun hh => absurd hh (by decide), fun _ => ?_⟩
      rw [J_X0_numberOf_L80]
      intro v ev v2 ev2
      rw [e5, Int32.add_zero] at ev
      rw [nI_1] at ev2
      subst ev ev2
      have : pm z g = 0 := if_pos h0
      rw [this, Nat.add_zero] at h
      exact h
    refine sp_markOf hz.1 hg (sp_markOf hb hg ⟨fun h1 => zero (Or.inl (m1.mp h1)) _ _, fun h1 => ⟨fun h2 => ?_, fun h2 => zero (Or.inr (m2.mp h2)) _ _⟩⟩)
    have n1 : mmark (z / 378) g ≠ 0 := fun z => h1 (m1.mpr z)
    have n2 : mmark (z % 378) g ≠ 0 := fun z => h2 (m2.mpr z)
    rw [J_X0_numberOf_L57]
    refine ⟨fun _ => ?_, fun hh => absurd rfl hh⟩
    rw [J_X0_numberOf_L80]
    intro v ev v2 ev2
    rw [e5, pm_n _ (mmk_lt _ _) _ (mmk_lt _ _) n1 n2, nI_add] at ev
    rw [nI_1] at ev2
    subst ev ev2
    have : pm z g = mmark (z / 378) g + 2 * mmark (z % 378) g - 2 := if_neg (by omega)
    rw [this] at h
    exact h
  intro x hx
  subst hx
  rw [J_X0_numberOf_L21]
  refine ⟨fun hh => absurd hh (by decide), fun _ => one _ 0 _ (by decide) ?_⟩
  rw [J_X0_numberOf_L21]
  refine ⟨fun hh => absurd hh (by decide), fun _ => one _ 1 _ (by decide) ?_⟩
  rw [J_X0_numberOf_L21]
  refine ⟨fun hh => absurd hh (by decide), fun _ => one _ 2 _ (by decide) ?_⟩
  rw [J_X0_numberOf_L21]
  exact ⟨fun _ => hQ, fun hh => absurd (by decide) hh⟩
theorem sp_number {Q : Int32 → jI → jL → Prop} {z : Nat} (hz : pgd z) (hQ : Q (nI (pn z)) i j) : J_X0_numberOf len r Q i j (nI (enc (z / 378))) (nI (enc (z % 378))) := by
  have hb : z % 378 < 378 := Nat.mod_lt _ (by decide)
  rw [J_X0_numberOf]
  refine sp_placeOf hz.1 (sp_footOf hz.1 (sp_footOf hb (fun v ev => ⟨4, lp_number hz hQ v ?_⟩)))
  rw [ev, pn0_n _ (Nat.mod_lt _ (by decide)) _ (Nat.mod_lt _ (by decide)) _ (Nat.mod_lt _ (by decide))]
  rfl
def z896 (z : Nat) : Nat := enc (z / 378) * 896 + enc (z % 378)
/-- the stands of those who have a cost -/
def sv (z0 : Nat) (i : jI) (D : Nat → Nat) : Prop := ∀ z, pin z0 z → D (pn z) < 1073741824 → i 70 (pn z) = nI (z896 z)
def aF (i i' : jI) : Prop := ∀ x f, x < 65 → i' x f = i x f
theorem aF.rf : aF i i := fun _ _ _ => rfl
theorem aF.tr {i i1 i2 : jI} (h1 : aF i i1) (h2 : aF i1 i2) : aF i i2 := fun x f hx => (h2 x f hx).trans (h1 x f hx)
theorem hF.a {i i1 : jI} (h : hF 66 67 68 69 i i1) : aF i i1 := fun x f hx => h x f (by omega) (by omega) (by omega) (by omega)
theorem sp_aoffer {Q : jI → jL → Prop} {D : Nat → Nat} {M : Nat → Bool} {z k : Nat} (hA : hgA r len) (hV : hpv i 66 67 68 69 3500 D M) (hS : sv z0 i D) (hD : ∀ y, y < 3500 → D y ≤ 1073741824) (hz : pin z0 z) (hk : k < 2 ^ 31) (hQ : ∀ i', hpv i' 66 67 68 69 3500 (dD D (pn z) k) (dM D M (pn z) k) → sv z0 i' (dD D (pn z) k) → aF i i' → Q i' j) : J_X0_offer len r Q i j 65 (nI (enc (z / 378))) (nI (enc (z % 378))) (nI k) := by
  obtain ⟨a1, a2, a3, a4⟩ := hA
  have hl := pn_lt z
  have h1 := enc_lt _ hz.1.1
  have h2 := enc_lt (z % 378) (Nat.mod_lt _ (by decide))
  rw [J_X0_offer]
  refine sp_number hz.1 ⟨70, a2, by rw [a4]; exact vp_in_nI hl (by decide), fun i1 e1 => ⟨66, a1, ?_⟩⟩
  rw [nI_clamp (by omega), show nI (enc (z / 378)) * (896 : Int32) = nI (enc (z / 378) * 896) from pk_mul _ 896, nI_add] at e1
  have i1o : ∀ x f, x ≠ 70 → i1 x f = i x f := fun x f hx => by rw [e1, ju_ne hx]
  have hv1 : hpv i1 66 67 68 69 3500 D M := by
    obtain ⟨hp, S, n, v1, v2, v3, v4, v5, v6⟩ := hV
    exact ⟨hp, S, n, (i1o _ _ (by decide)).trans v1, fun y hy => (i1o _ _ (by decide)).trans (v2 y hy), fun t ht => (i1o _ _ (by decide)).trans (v3 t ht), fun y hy => (i1o _ _ (by decide)).trans (v4 y hy), v5, v6⟩
  refine sp_offer a3 hv1 hD hl hk (fun i2 hv2 hf2 => hQ i2 hv2 (fun z' hz' hd => ?_) (fun x f hx => (hF.a hf2 x f hx).trans (i1o x f (by omega))))
  rw [hf2 70 _ (by decide) (by decide) (by decide) (by omega), e1, ju_eq]
  by_cases e : pn z' = pn z
  · have := pn_inj hz' hz e
    subst this
    rw [pk_us]
    rfl
  · rw [pk_un e]
    refine hS z' hz' ?_
    rw [dD_ne (Or.inl e)] at hd
    exact hd
theorem z896_lt {z : Nat} (hz : pgd z) : z896 z < 802816 := by
  have h1 := enc_lt _ hz.1
  have h2 := enc_lt (z % 378) (Nat.mod_lt _ (by decide))
  unfold z896
  omega
abbrev wtt (w1 w2 : Nat → Nat) : Nat → Nat := fun s => w1 s + w2 s
abbrev gF8 (A B G T1 T2 w1 w2 : Nat → Nat) (fr : Bool) (ns z0 : Nat) (D : Nat → Nat) (M : Nat → Bool) : Prop := gi_F 3500 ns 1073741824 (aes A B G T1 T2 fr z0) (wtt w1 w2) (pn z0) D M
abbrev gP8 (A B G T1 T2 w1 w2 : Nat → Nat) (fr : Bool) (ns z0 : Nat) (D : Nat → Nat) (M : Nat → Bool) (u k : Nat) : Prop := gi_P 3500 ns 1073741824 (aes A B G T1 T2 fr z0) (wtt w1 w2) (pn z0) D M u k
theorem lp_aNext {Q : jI → jL → Prop} {i0 : jI} {u : Nat} {G0 : Nat → Bool} (hg : Gr r len) (hA : hgA r len) (tc : TC i0 ns A B G P fr) (ga1 : ga i0 17 18 ns w1 T1) (ga2 : ga i0 20 21 ns w2 T2) (hw1 : ∀ s, s < ns → w1 s ≤ 64) (hw2 : ∀ s, s < ns → w2 s ≤ 64) (hT1 : ∀ s, s < ns → T1 s < 2) (hT2 : ∀ s, s < ns → T2 s < 2) (hu : pin z0 u) (hQ : ∀ i' D' M', hpv i' 66 67 68 69 3500 D' M' → sv z0 i' D' → gP8 A B G T1 T2 w1 w2 fr ns z0 D' M' (pn u) ns → gj_P 3500 1073741824 D' M' (pn u) → (∀ x, x < 3500 → gk 1073741824 D' M' x = G0 x) → aF i0 i' → Q i' j) : ∀ (m x : Nat) (i : jI) (D : Nat → Nat) (M : Nat → Bool), x + m = ns → hpv i 66 67 68 69 3500 D M → sv z0 i D → gP8 A B G T1 T2 w1 w2 fr ns z0 D M (pn u) x → gj_P 3500 1073741824 D M (pn u) → (∀ x, x < 3500 → gk 1073741824 D M x = G0 x) → aF i0 i → J_X0_offerNext_L29 len r Q (m + 1) i j 65 3 16 19 (nI (pn u)) (nI (enc (u / 378))) (nI (enc (u % 378))) (nI x) := by
  have hn := tc.2.1
  have tok := tc.tok
  have hul := pn_lt u
  have hb378 : u % 378 < 378 := Nat.mod_lt _ (by decide)
  intro m
  induction m with
  | zero =>
    intro x i D M hx hv hS hi hj hk hf
    have hx' : x = ns := by omega
    subst hx'
    rw [J_X0_offerNext_L29]
    dsimp only
    rw [hf 3 0 (by decide), tc.1]
    exact ⟨fun _ => hQ i D M hv hS hi hj hk hf, fun hh => absurd (nI_le (Nat.le_refl _) (by omega)) hh⟩
  | succ m ih =>
    intro x i D M hx hv hS hi hj hk hf
    have hxn : x < ns := by omega
    have ex : (nI x).toNatClampNeg = x := nI_clamp (by omega)
    have hvx : vp_in (nI x) 10 := vp_in_nI (by omega) (by decide)
    have tci : TC i ns A B G P fr := tc.frm (fun a f h1 h2 => hf a f (by omega))
    obtain ⟨-, cA, cB, -, cP, cG⟩ := tc.2.2.2 x hxn
    have hD := hi.2.1
    have hwx1 := hw1 x hxn
    have hwx2 := hw2 x hxn
    have ce := aes_pn (A := A) (B := B) (G := G) (T1 := T1) (T2 := T2) (fr := fr) hu x
    have next : ∀ (i' : jI) (D' : Nat → Nat) (M' : Nat → Bool), hpv i' 66 67 68 69 3500 D' M' → sv z0 i' D' → gP8 A B G T1 T2 w1 w2 fr ns z0 D' M' (pn u) (x + 1) → gj_P 3500 1073741824 D' M' (pn u) → (∀ x, x < 3500 → gk 1073741824 D' M' x = G0 x) → aF i0 i' → J_X0_offerNext_L121 len r Q (J_X0_offerNext_L29 len r Q (m + 1)) i' j 65 3 16 19 (nI (pn u)) (nI (enc (u / 378))) (nI (enc (u % 378))) (nI x) := by
      intro i' D' M' a1 a2 a3 a4 a5 a6
      rw [J_X0_offerNext_L121]
      intro v ev
      rw [nI_1] at ev
      subst ev
      exact ih (x + 1) i' D' M' (by omega) a1 a2 a3 a4 a5 a6
    rw [J_X0_offerNext_L29]
    dsimp only
    rw [tci.1]
    refine ⟨fun hh => absurd hh (nI_ge (by omega) (by omega)), fun _ => ⟨18, hg.1 _ (by decide) _ (by decide) _ rfl, by rw [hg.2 _ (by decide)]; exact hvx, ?_⟩⟩
    rw [ex, hf 18 x (by decide), (ga1 x hxn).2]
    refine sp_behC hg tci (hT1 x hxn) hu.1.1 hxn ?_
    have hb1 := fun st2 hh => mbeh_lt (T := fun _ => T1 x) (fr := fr) (st2 := st2) hu.1.1 cA cB cG hh
    have hb2 := fun st2 hh => mbeh_lt (T := fun _ => T2 x) (fr := fr) (st2 := st2) hb378 cA cB cG hh
    have o1 := (eo_none hb1).1
    have o2 := (eo_none hb2).1
    have t1 : mbeh A B G T1 fr (u / 378) x = mbeh A B G (fun _ => T1 x) fr (u / 378) x := rfl
    have t2 : mbeh A B G T2 fr (u % 378) x = mbeh A B G (fun _ => T2 x) fr (u % 378) x := rfl
    cases hm1 : mbeh A B G (fun _ => T1 x) fr (u / 378) x with
    | none =>
      refine ⟨fun hh => absurd rfl hh, fun _ => ?_⟩
      rw [J_X0_offerNext_L80]
      refine ⟨fun _ => next i D M hv hS (gi_none hi ?_) hj hk hf, fun hh => absurd rfl hh⟩
      rw [ce]
      unfold pes
      rw [t1, hm1]
      rfl
    | some a =>
      rw [hm1] at o1
      have hal := hb1 a hm1
      refine ⟨fun _ => ⟨21, hg.1 _ (by decide) _ (by decide) _ rfl, by rw [hg.2 _ (by decide)]; exact hvx, ?_⟩, fun hh => (by cases o1.mp hh)⟩
      rw [hf 21 x (by decide), (ga2 x hxn).2]
      refine sp_behC hg tci (hT2 x hxn) hb378 hxn ?_
      rw [J_X0_offerNext_L80]
      cases hm2 : mbeh A B G (fun _ => T2 x) fr (u % 378) x with
      | none =>
        refine ⟨fun _ => next i D M hv hS (gi_none hi ?_) hj hk hf, fun hh => absurd rfl hh⟩
        rw [ce]
        unfold pes
        rw [t1, hm1, t2, hm2]
        rfl
      | some b =>
        rw [hm2] at o2
        have hbl := hb2 b hm2
        have hpe : pes A B G T1 T2 fr u x = some (378 * a + b) := by
          unfold pes
          rw [t1, hm1, t2, hm2]
          rfl
        have hpi := pes_pin tok hu hxn hpe
        have e1 : (378 * a + b) / 378 = a := by omega
        have e2 : (378 * a + b) % 378 = b := by omega
        rw [hpe] at ce
        refine ⟨fun hh => (by cases o2.mp hh), fun _ => ⟨66, hA.1, sp_costOf hA.2.2.1 hv hul ⟨17, hg.1 _ (by decide) _ (by decide) _ rfl, by rw [hg.2 _ (by decide)]; exact hvx, 20, hg.1 _ (by decide) _ (by decide) _ rfl, by rw [hg.2 _ (by decide)]; exact hvx, ?_⟩⟩⟩
        rw [ex, hf 17 x (by decide), (ga1 x hxn).1, hf 20 x (by decide), (ga2 x hxn).1, nI_add, nI_add]
        obtain ⟨p1, p2⟩ := gi_off hi hxn ce (pn_lt _)
        have hDu := hi.2.2.2.2.2.2.1
        have ew : D (pn u) + w1 x + w2 x = D (pn u) + wtt w1 w2 x := Nat.add_assoc _ _ _
        rw [ew]
        have := sp_aoffer (Q := fun i' j' => J_X0_offerNext_L121 len r Q (J_X0_offerNext_L29 len r Q (m + 1)) i' j' 65 3 16 19 (nI (pn u)) (nI (enc (u / 378))) (nI (enc (u % 378))) (nI x)) (j := j) (k := D (pn u) + wtt w1 w2 x) hA hv hS hD hpi (by show D (pn u) + (w1 x + w2 x) < 2 ^ 31; omega) (fun i' hv' hS' hf' => next i' _ _ hv' hS' p1 (gj_off hj p2) (fun z hz => (gk_off hj z hz).trans (hk z hz)) (hf.tr hf'))
        rw [e1, e2] at this
        exact this
theorem lp_aLeast {Q : Int32 → jI → jL → Prop} {i0 : jI} (hg : Gr r len) (hA : hgA r len) (tc : TC i0 ns A B G P fr) (ga1 : ga i0 17 18 ns w1 T1) (ga2 : ga i0 20 21 ns w2 T2) (hw1 : ∀ s, s < ns → w1 s ≤ 64) (hw2 : ∀ s, s < ns → w2 s ≤ 64) (hT1 : ∀ s, s < ns → T1 s < 2) (hT2 : ∀ s, s < ns → T2 s < 2) (hz0 : pin z0 z0) (hp : p < 7) (hQ : ∀ i' o, lsm (pcs A B G T1 T2 (wtt w1 w2) fr ns z0 p) 1073741824 o → aF i0 i' → Q (bo o) i' j) : ∀ (m t : Nat) (i : jI) (D : Nat → Nat) (M : Nat → Bool), t + m = 3500 → hpv i 66 67 68 69 3500 D M → sv z0 i D → gF8 A B G T1 T2 w1 w2 fr ns z0 D M → gj_F 3500 1073741824 D M → t ≤ fb_ct (gk 1073741824 D M) 3500 → (∀ z, pin z0 z → gk 1073741824 D M (pn z) = true → z / 378 % 7 ≠ p) → aF i0 i → J_X0_leastTo_L3 len r Q (m + 1) i j 65 3 16 19 (nI p) (nI t) := by
  have tok := tc.tok
  have hes := pn_lt z0
  have hN2 : ∀ x, x < 3500 → ∀ k, k < ns → ∀ y, aes A B G T1 T2 fr z0 x k = some y → y < 3500 := aes_lt
  have toC : ∀ c, pcs A B G T1 T2 (wtt w1 w2) fr ns z0 p c → ∃ z, pin z0 z ∧ z / 378 % 7 = p ∧ gw_way (aes A B G T1 T2 fr z0) ns (wtt w1 w2) (pn z0) (pn z) c := by
    rintro c ⟨z, hz, hw⟩
    have hzi : pin z0 z := gw_ind (P := fun z _ => pin z0 z) hz0 (fun x c a y _ hx ha he => pes_pin tok hx ha he) hw
    exact ⟨z, hzi, hz, (aes_way tok hz0).mpr ⟨z, hzi, rfl, hw⟩⟩
  intro m
  induction m with
  | zero =>
    intro t i D M ht hv hS hi hj hct hpl hf
    have ht' : t = 3500 := by omega
    subst ht'
    rw [J_X0_leastTo_L3]
    refine ⟨fun _ => hQ i none (fun c hc => ?_) hf, fun hh => absurd (by decide) hh⟩
    exfalso
    obtain ⟨z, hz, hzp, hw⟩ := toC c hc
    have := fb_ct_all.mp (Nat.le_antisymm (fb_ct_le (gk 1073741824 D M) 3500) hct) (pn z) (pn_lt z)
    exact hpl z hz this hzp
  | succ m ih =>
    intro t i D M ht hv hS hi hj hct hpl hf
    have hD := hi.2.1
    rw [J_X0_leastTo_L3]
    refine ⟨fun hh => absurd hh (nI_ge (b := 3500) (by omega) (by decide)), fun _ => ⟨66, hA.1, sp_take hA.2.2.1 hv hD (fun hM => ?_) (fun x i1 hx hm hl hv1 hf1 => ?_)⟩⟩
    · refine ⟨fun hh => absurd rfl hh, fun _ => hQ i none (fun c hc => ?_) hf⟩
      obtain ⟨z, hz, hzp, hw⟩ := toC c hc
      obtain ⟨hxl, hd⟩ := gi_done hes hN2 hi hM hw
      right
      rcases Nat.lt_or_ge (D (pn z)) 1073741824 with hlt | hge
      · exact absurd hzp (hpl z hz (gk_t.mpr ⟨hlt, hM _ hxl⟩))
      · omega
    · have hdx := hi.2.2.1 x hx hm
      obtain ⟨u, hu, rfl, hwu⟩ := (aes_way tok hz0).mp (hi.2.2.2.1 x hx hdx)
      have hkey : ∀ c, pcs A B G T1 T2 (wtt w1 w2) fr ns z0 p c → D (pn u) ≤ c ∨ 1073741824 ≤ c := by
        intro c hc
        obtain ⟨z, hz, hzp, hw⟩ := toC c hc
        obtain ⟨hzl, hh⟩ := gi_key hes hN2 hi (by decide) hl hw
        rcases hh with ⟨a1, a2, a3⟩ | h | h
        · exact absurd hzp (hpl z hz (gk_t.mpr ⟨a2, a1⟩))
        · exact Or.inl h
        · exact Or.inr h
      have hb378 : u % 378 < 378 := Nat.mod_lt _ (by decide)
      have he1 := enc_lt _ hu.1.1
      have he2 := enc_lt _ hb378
      have hzl := z896_lt hu.1
      have s1 : i1 70 (pn u) = nI (z896 u) := (hf1 _ _ (by decide) (by decide) (by decide) (by omega)).trans (hS u hu hdx)
      have d1 : nI (z896 u) / (896 : Int32) = nI (enc (u / 378)) := by
        rw [show nI (z896 u) / (896 : Int32) = nI (z896 u / 896) from pk_div (d := 896) (by omega) (by decide) (by decide)]
        congr 1
        unfold z896
        omega
      have d2 : nI (z896 u) - nI (z896 u) / (896 : Int32) * (896 : Int32) = nI (enc (u % 378)) := by
        rw [show nI (z896 u) - nI (z896 u) / (896 : Int32) * (896 : Int32) = nI (z896 u % 896) from pk_rem (d := 896) (by omega) (by decide) (by decide)]
        congr 1
        unfold z896
        omega
      have ec : (nI (pn u)).toNatClampNeg = pn u := nI_clamp (by omega)
      have hvu : vp_in (nI (pn u)) 3500 := vp_in_nI hx (by decide)
      refine ⟨fun _ => ⟨70, hA.2.1, by rw [hA.2.2.2]; exact hvu, ?_⟩, fun hh => absurd hh (nI_m1 (by omega))⟩
      rw [ec, s1, d1]
      refine sp_placeOf hu.1.1 ⟨fun hne => ?_, fun heq => ⟨66, hA.1, sp_costOf hA.2.2.1 hv1 hx ?_⟩⟩
      · have hne' : u / 378 % 7 ≠ p := fun z => hne (by rw [z])
        have hi1 := gi_pop hi hx hm
        have hj1 := gj_pop hj hx hm hl
        have hct1 := gk_pop (F := 1073741824) (D := D) hx hm hdx
        rw [J_X0_offerNext]
        refine ⟨70, hA.2.1, by rw [hA.2.2.2]; exact hvu, fun v11 e11 => ⟨70, hA.2.1, by rw [hA.2.2.2]; exact hvu, fun v24 e24 => ⟨ns + 1, ?_⟩⟩⟩
        rw [ec, s1, d1] at e11
        rw [ec, s1, d2] at e24
        subst e11 e24
        refine lp_aNext (G0 := gk 1073741824 D (sU M (pn u) false)) hg hA tc ga1 ga2 hw1 hw2 hT1 hT2 hu (fun i2 D2 M2 hv2 hS2 hi2 hj2 hk2 hf2 v ev => ?_) ns 0 i1 D _ (by omega) hv1 (fun z hz hd => (hf1 _ _ (by decide) (by decide) (by decide) (by omega)).trans (hS z hz hd)) hi1 hj1 (fun _ _ => rfl) (hf.tr hf1.a)
        rw [nI_1] at ev
        subst ev
        refine ih (t + 1) i2 D2 M2 (by omega) hv2 hS2 (gi_close hi2) (gj_close hj2) ?_ (fun z hz hgz => ?_) hf2
        · rw [fb_ct_cong hk2, hct1]; omega
        · rw [hk2 _ (pn_lt z)] at hgz
          by_cases e : pn z = pn u
          · rw [pn_inj hz hu e]; exact hne'
          · refine hpl z hz ?_
            unfold gk at hgz ⊢
            rw [sU_ne e] at hgz
            exact hgz
      · have heq' : u / 378 % 7 = p := (nI_eq (by omega) (by omega)).mp heq
        refine hQ i1 (some (D (pn u))) ⟨⟨u, heq', hwu⟩, by omega, fun c' hc' => ?_⟩ (hf.tr hf1.a)
        rcases hkey c' hc' with h | h <;> omega
theorem sp_armsC {Q : Int32 → jI → jL → Prop} {K : jI → jL → Prop} {a b : Nat} (hK : ∀ i1 j1, J_X0_leastTo len r Q i1 j1 65 3 16 19 (nI p) → K i1 j1) (hg : Gr r len) (hA : hgA r len) (tc : TC i ns A B G P fr) (ga1 : ga i 17 18 ns w1 T1) (ga2 : ga i 20 21 ns w2 T2) (hw1 : ∀ s, s < ns → w1 s ≤ 64) (hw2 : ∀ s, s < ns → w2 s ≤ 64) (hT1 : ∀ s, s < ns → T1 s < 2) (hT2 : ∀ s, s < ns → T2 s < 2) (ha : a < 378) (hb : b < 378) (hab : a % 7 = b % 7) (hp : p < 7) (hQ : ∀ i' o, lsm (pcs A B G T1 T2 (wtt w1 w2) fr ns (378 * a + b) p) 1073741824 o → aF i i' → Q (bo o) i' j) : J_X0_start len r K i j 65 (nI (enc a)) (nI (enc b)) := by
  have e1 : (378 * a + b) / 378 = a := by omega
  have e2 : (378 * a + b) % 378 = b := by omega
  have hz0 : pin (378 * a + b) (378 * a + b) := ⟨⟨by rw [e1]; exact ha, by rw [e1, e2]; exact hab⟩, fun g _ => Or.inl ⟨rfl, rfl⟩⟩
  have hes := pn_lt (378 * a + b)
  rw [J_X0_start]
  refine ⟨66, hA.1, sp_clear hA.2.2.1 (fun i1 hv1 hf1 => ?_)⟩
  have := sp_aoffer (z := 378 * a + b) (k := 0) (Q := K) (j := j) hA hv1 (z0 := 378 * a + b) (fun z _ hd => absurd hd (Nat.lt_irrefl _)) (fun _ _ => Nat.le_refl _) hz0 (by decide) (fun i2 hv2 hS2 hf2 => ?_)
  · rw [e1, e2] at this
    exact this
  · have eD : dD (fun _ => 1073741824) (pn (378 * a + b)) 0 = sU (fun _ => 1073741824) (pn (378 * a + b)) 0 := if_pos (show 0 < 1073741824 by decide)
    have eM : dM (fun _ => 1073741824) (fun _ => false) (pn (378 * a + b)) 0 = sU (fun _ => false) (pn (378 * a + b)) true := if_pos (show 0 < 1073741824 by decide)
    rw [eD] at hS2
    rw [eD, eM] at hv2
    have hi := gi_start (m := ns) (es := aes A B G T1 T2 fr (378 * a + b)) (wt := wtt w1 w2) hes (show 0 < 1073741824 by decide)
    have noset : ∀ x, ¬ gk 1073741824 (sU (fun _ => 1073741824) (pn (378 * a + b)) 0) (sU (fun _ => false) (pn (378 * a + b)) true) x = true := by
      intro x hx
      rw [gk_t] at hx
      by_cases e : x = pn (378 * a + b)
      · subst e; have := hx.2; rw [sU_eq] at this; cases this
      · have := hx.1; rw [sU_ne e] at this; exact absurd this (Nat.lt_irrefl _)
    have hf02 : aF i i2 := hf1.a.tr hf2
    refine hK i2 j ?_
    rw [J_X0_leastTo]
    have tc2 : TC i2 ns A B G P fr := tc.frm (fun a f h1 h2 => hf02 a f (by omega))
    have g1 : ga i2 17 18 ns w1 T1 := fun s hs => by
      rw [hf02 17 s (by decide), hf02 18 s (by decide)]
      exact ga1 s hs
    have g2 : ga i2 20 21 ns w2 T2 := fun s hs => by
      rw [hf02 20 s (by decide), hf02 21 s (by decide)]
      exact ga2 s hs
    exact ⟨3501, lp_aLeast hg hA tc2 g1 g2 hw1 hw2 hT1 hT2 hz0 hp (fun i' o ho hf' => hQ i' o ho (hf02.tr hf')) 3500 0 i2 _ _ (by omega) hv2 hS2 hi (fun x y hx hy h1 h2 => absurd (gk_t.mpr ⟨h2, h1⟩) (noset x)) (Nat.zero_le _) (fun z _ hgx => absurd hgx (noset _)) aF.rf⟩
end ArmsC
