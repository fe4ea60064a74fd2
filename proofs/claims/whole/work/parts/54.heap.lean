/-! THE HEAP in plain numbers: D costs, hp who sits where, S seats (0 none, t + 1 at t), n how many -/
def hq (L : Nat) (D hp S : Nat → Nat) (n : Nat) : Prop := n ≤ L ∧ (∀ t, t < n → hp t < L ∧ S (hp t) = t + 1) ∧ (∀ y, y < L → S y ≠ 0 → S y ≤ n ∧ hp (S y - 1) = y) ∧ ∀ t, 0 < t → t < n → D (hp ((t - 1) / 2)) ≤ D (hp t)
/-- a hole at p that x will fill -/
def hs (L : Nat) (hp S : Nat → Nat) (n p x : Nat) : Prop := p < n ∧ n ≤ L ∧ x < L ∧ (∀ t, t < n → t ≠ p → hp t < L ∧ hp t ≠ x ∧ S (hp t) = t + 1) ∧ ∀ y, y < L → y ≠ x → S y ≠ 0 → S y ≤ n ∧ S y - 1 ≠ p ∧ hp (S y - 1) = y
def hO (D hp : Nat → Nat) (n p : Nat) : Prop := (∀ t, 0 < t → t < n → t ≠ p → (t - 1) / 2 ≠ p → D (hp ((t - 1) / 2)) ≤ D (hp t)) ∧ (0 < p → ∀ t, 0 < t → t < n → (t - 1) / 2 = p → D (hp ((p - 1) / 2)) ≤ D (hp t))
def hU (D hp : Nat → Nat) (n p x : Nat) : Prop := ∀ t, 0 < t → t < n → (t - 1) / 2 = p → D x ≤ D (hp t)
def hW (D hp : Nat → Nat) (p x : Nat) : Prop := 0 < p → D (hp ((p - 1) / 2)) ≤ D x
section HeapP
variable {L n p x q : Nat} {D hp S : Nat → Nat}
theorem hs_fill (h : hs L hp S n p x) (ho : hO D hp n p) (hu : hU D hp n p x) (hw : hW D hp p x) : hq L D (sU hp p x) (sU S x (p + 1)) n := by
  obtain ⟨h1, h2, h3, h4, h5⟩ := h
  refine ⟨h2, fun t ht => ?_, fun y hy hS => ?_, fun t h0 ht => ?_⟩
  · by_cases e : t = p
    · subst e; rw [sU_eq, sU_eq]; exact ⟨h3, rfl⟩
    · obtain ⟨a1, a2, a3⟩ := h4 t ht e
      rw [sU_ne e, sU_ne a2]; exact ⟨a1, a3⟩
  · by_cases e : y = x
    · subst e; rw [sU_eq, Nat.add_sub_cancel, sU_eq]; exact ⟨by omega, rfl⟩
    · rw [sU_ne e] at hS ⊢
      obtain ⟨a1, a2, a3⟩ := h5 y hy e hS
      rw [sU_ne a2]; exact ⟨a1, a3⟩
  · by_cases e : t = p
    · subst e
      rw [sU_eq, sU_ne (by omega)]
      exact hw h0
    · rw [sU_ne e]
      by_cases e2 : (t - 1) / 2 = p
      · rw [e2, sU_eq]; exact hu t h0 ht e2
      · rw [sU_ne e2]; exact ho.1 t h0 ht e e2
theorem hs_move (h : hs L hp S n p x) (hq : q < n) (hqp : q ≠ p) : hs L (sU hp p (hp q)) (sU S (hp q) (p + 1)) n q x := by
  obtain ⟨h1, h2, h3, h4, h5⟩ := h
  obtain ⟨b1, b2, b3⟩ := h4 q hq hqp
  refine ⟨hq, h2, h3, fun t ht htq => ?_, fun y hy hyx hS => ?_⟩
  · by_cases e : t = p
    · subst e; rw [sU_eq, sU_eq]; exact ⟨b1, b2, rfl⟩
    · obtain ⟨a1, a2, a3⟩ := h4 t ht e
      have e2 : hp t ≠ hp q := fun z => by rw [z, b3] at a3; omega
      rw [sU_ne e, sU_ne e2]; exact ⟨a1, a2, a3⟩
  · by_cases e : y = hp q
    · subst e; rw [sU_eq, Nat.add_sub_cancel, sU_eq]; exact ⟨by omega, fun z => hqp z.symm, rfl⟩
    · rw [sU_ne e] at hS ⊢
      obtain ⟨a1, a2, a3⟩ := h5 y hy hyx hS
      rw [sU_ne a2]; exact ⟨a1, fun z => by rw [z] at a3; exact e a3.symm, a3⟩
theorem hU_move (ho : hO D hp n p) (hp0 : 0 < p) (hpn : p < n) (hx : D x < D (hp ((p - 1) / 2))) : hO D (sU hp p (hp ((p - 1) / 2))) n ((p - 1) / 2) ∧ hU D (sU hp p (hp ((p - 1) / 2))) n ((p - 1) / 2) x := by
  obtain ⟨h1, h2⟩ := ho
  have sib : ∀ t, 0 < t → t < n → (t - 1) / 2 = (p - 1) / 2 → D (hp ((p - 1) / 2)) ≤ D (sU hp p (hp ((p - 1) / 2)) t) := by
    intro t t0 tn e
    by_cases e2 : t = p
    · subst e2; rw [sU_eq]; exact Nat.le_refl _
    · rw [sU_ne e2, ← e]; exact h1 t t0 tn e2 (by omega)
  refine ⟨⟨fun t t0 tn e1 e2 => ?_, fun q0 t t0 tn e => ?_⟩, fun t t0 tn e => Nat.le_trans (Nat.le_of_lt hx) (sib t t0 tn e)⟩
  · have e3 : t ≠ p := fun z => e2 (by rw [z])
    rw [sU_ne e3]
    by_cases e4 : (t - 1) / 2 = p
    · rw [e4, sU_eq]; exact h2 hp0 t t0 tn e4
    · rw [sU_ne e4]; exact h1 t t0 tn e3 e4
  · rw [sU_ne (show ((p - 1) / 2 - 1) / 2 ≠ p by omega)]
    exact Nat.le_trans (h1 ((p - 1) / 2) q0 (by omega) (by omega) (by omega)) (sib t t0 tn e)
theorem hD_move (ho : hO D hp n p) (hq0 : 0 < q) (hqn : q < n) (e : (q - 1) / 2 = p) (hx : D (hp q) ≤ D x) (hm : ∀ t, 0 < t → t < n → (t - 1) / 2 = p → D (hp q) ≤ D (hp t)) : hO D (sU hp p (hp q)) n q ∧ hW D (sU hp p (hp q)) q x := by
  obtain ⟨h1, h2⟩ := ho
  refine ⟨⟨fun t t0 tn e1 e2 => ?_, fun _ t t0 tn e2 => ?_⟩, fun _ => ?_⟩
  · by_cases e3 : t = p
    · subst e3
      rw [sU_eq, sU_ne (by omega)]
      exact h2 t0 q hq0 hqn e
    · rw [sU_ne e3]
      by_cases e4 : (t - 1) / 2 = p
      · rw [e4, sU_eq]; exact hm t t0 tn e4
      · rw [sU_ne e4]; exact h1 t t0 tn e3 e4
  · rw [e, sU_eq, sU_ne (show t ≠ p by omega)]
    have := h1 t t0 tn (by omega) (by omega)
    rw [e2] at this
    exact this
  · rw [e, sU_eq]; exact hx
theorem hq_top (h : hq L D hp S n) : ∀ t, t < n → D (hp 0) ≤ D (hp t) := by
  intro t
  induction t using Nat.strongRecOn with
  | ind t ih =>
    intro ht
    by_cases e : t = 0
    · subst e; exact Nat.le_refl _
    · exact Nat.le_trans (ih ((t - 1) / 2) (by omega) (by omega)) (h.2.2.2 t (by omega) ht)
theorem hq_room (h : hq L D hp S n) (hx : x < L) (h0 : S x = 0) : n < L := by
  obtain ⟨h1, h2, h3, h4⟩ := h
  rcases Nat.lt_or_ge n L with hl | hl
  · exact hl
  · have e : n = L := by omega
    subst e
    obtain ⟨t, ht, e⟩ := fb_onto (f := hp) (fun t ht => (h2 t ht).1) (fun t t2 h12 ht2 z => by
      have a1 := (h2 t (by omega)).2
      have a2 := (h2 t2 ht2).2
      rw [z, a2] at a1
      omega) hx
    have := (h2 t ht).2
    rw [e, h0] at this
    omega
end HeapP
/-! its cells -/
def hg3 (r : jR) (len : Nat → Nat) (h a b c L : Nat) : Prop := r h 0 = some a ∧ r h 1 = some b ∧ r h 2 = some c ∧ len a = L ∧ len b = L ∧ len c = L ∧ a ≠ b ∧ a ≠ c ∧ b ≠ c ∧ h ≠ a ∧ h ≠ b ∧ h ≠ c ∧ L ≤ 4000
def hF (h a b c : Nat) (i i' : jI) : Prop := ∀ x f, x ≠ a → x ≠ b → x ≠ c → (x = h → f ≠ 3) → i' x f = i x f
theorem hF.rf {h a b c : Nat} {i : jI} : hF h a b c i i := fun _ _ _ _ _ _ => rfl
theorem hF.tr {h a b c : Nat} {i i1 i2 : jI} (h1 : hF h a b c i i1) (h2 : hF h a b c i1 i2) : hF h a b c i i2 := fun x f e1 e2 e3 e4 => (h2 x f e1 e2 e3 e4).trans (h1 x f e1 e2 e3 e4)
def hC (i : jI) (h a b c L : Nat) (D hp S : Nat → Nat) (n p x : Nat) : Prop := i h 3 = nI n ∧ (∀ y, y < L → i a y = nI (D y)) ∧ (∀ t, t < n → t ≠ p → i b t = nI (hp t)) ∧ ∀ y, y < L → y ≠ x → i c y = nI (S y) - 1
def hpv (i : jI) (h a b c L : Nat) (D : Nat → Nat) (M : Nat → Bool) : Prop := ∃ (hp S : Nat → Nat) (n : Nat), i h 3 = nI n ∧ (∀ y, y < L → i a y = nI (D y)) ∧ (∀ t, t < n → i b t = nI (hp t)) ∧ (∀ y, y < L → i c y = nI (S y) - 1) ∧ hq L D hp S n ∧ ∀ y, y < L → (M y = true ↔ S y ≠ 0)
theorem par_n {p : Nat} (h0 : 0 < p) (h : p < 2 ^ 31) : (nI p - (1 : Int32)) / (2 : Int32) = nI ((p - 1) / 2) := by
  have e := nI_pred (p - 1)
  rw [show p - 1 + 1 = p by omega] at e
  rw [e, show (2 : Int32) = nI 2 from by decide, pk_div (by omega) (by decide) (by decide)]
theorem chi_n (p : Nat) : ((2 : Int32) * nI p) + (1 : Int32) = nI (2 * p + 1) := by
  rw [show (2 : Int32) = nI 2 from by decide, pk_mul, nI_1]
section HeapJ
variable {len : Nat → Nat} {r : jR} {Q : jI → jL → Prop} {i i0 : jI} {j : jL} {h a b c L n p x : Nat} {D hp S : Nat → Nat} {M : Nat → Bool}
theorem sp_sit (hG : hg3 r len h a b c L) (hx : x < L) (hp : p < L) (hQ : ∀ i', (∀ z f, z ≠ b → z ≠ c → i' z f = i z f) → i' b p = nI x → (∀ t, t ≠ p → i' b t = i b t) → i' c x = nI p → (∀ y, y ≠ x → i' c y = i c y) → Q i' j) : J_X3_sit len r Q i j h (nI x) (nI p) := by
  obtain ⟨g1, g2, g3, l1, l2, l3, n1, n2, n3, n4, n5, n6, hL⟩ := hG
  have ex : (nI x).toNatClampNeg = x := nI_clamp (by omega)
  have ep : (nI p).toNatClampNeg = p := nI_clamp (by omega)
  rw [J_X3_sit]
  refine ⟨b, g2, by rw [l2]; exact vp_in_nI hp (by omega), fun i6 e6 => ⟨c, g3, by rw [l3]; exact vp_in_nI hx (by omega), fun i13 e13 => ?_⟩⟩
  rw [ep] at e6
  rw [ex] at e13
  refine hQ i13 (fun z f hb hc => ?_) ?_ (fun t ht => ?_) ?_ (fun y hy => ?_)
  · rw [e13, ju_ne hc, e6, ju_ne hb]
  · rw [e13, ju_ne n3, e6, ju_eq, pk_us]
  · rw [e13, ju_ne n3, e6, ju_eq, pk_un ht]
  · rw [e13, ju_eq, pk_us]
  · rw [e13, ju_eq, pk_un hy, e6, ju_ne (fun z => n3 z.symm)]
/-- x sits down in the hole -/
theorem sp_sitF (hG : hg3 r len h a b c L) (hS : hs L hp S n p x) (hc : hC i h a b c L D hp S n p x) (ho : hO D hp n p) (hu : hU D hp n p x) (hw : hW D hp p x) (hM : ∀ y, y < L → y ≠ x → (M y = true ↔ S y ≠ 0)) (hf : hF h a b c i0 i) (hQ : ∀ i', hpv i' h a b c L D (sU M x true) → hF h a b c i0 i' → Q i' j) : J_X3_sit len r Q i j h (nI x) (nI p) := by
  have hq' := hs_fill hS ho hu hw
  obtain ⟨h1, h2, h3, h4, h5⟩ := hS
  obtain ⟨c1, c2, c3, c4⟩ := hc
  refine sp_sit hG h3 (by omega) (fun i' e1 e2 e3 e4 e5 => ?_)
  obtain ⟨g1, g2, g3, l1, l2, l3, n1, n2, n3, n4, n5, n6, hL⟩ := hG
  refine hQ i' ⟨sU hp p x, sU S x (p + 1), n, by rw [e1 h 3 n5 n6]; exact c1, fun y hy => by rw [e1 a y n1 n2]; exact c2 y hy, fun t ht => ?_, fun y hy => ?_, hq', fun y hy => ?_⟩ (fun z f z1 z2 z3 z4 => (e1 z f z2 z3).trans (hf z f z1 z2 z3 z4))
  · by_cases e : t = p
    · subst e; rw [sU_eq]; exact e2
    · rw [sU_ne e, e3 t e]; exact c3 t ht e
  · by_cases e : y = x
    · subst e; rw [sU_eq, nI_pred]; exact e4
    · rw [sU_ne e, e5 y e]; exact c4 y hy e
  · by_cases e : y = x
    · subst e; rw [sU_eq, sU_eq]; exact ⟨fun _ => by omega, fun _ => rfl⟩
    · rw [sU_ne e, sU_ne e]; exact hM y hy e
/-- another sits down in the hole: the hole is where it sat -/
theorem sp_sitM {q : Nat} (hG : hg3 r len h a b c L) (hS : hs L hp S n p x) (hc : hC i h a b c L D hp S n p x) (hq : q < n) (hqp : q ≠ p) (hM : ∀ y, y < L → y ≠ x → (M y = true ↔ S y ≠ 0)) (hf : hF h a b c i0 i) (hQ : ∀ i' S', hs L (sU hp p (hp q)) S' n q x → hC i' h a b c L D (sU hp p (hp q)) S' n q x → (∀ y, y < L → y ≠ x → (M y = true ↔ S' y ≠ 0)) → hF h a b c i0 i' → Q i' j) : J_X3_sit len r Q i j h (nI (hp q)) (nI p) := by
  have hm := hs_move hS hq hqp
  obtain ⟨h1, h2, h3, h4, h5⟩ := hS
  obtain ⟨c1, c2, c3, c4⟩ := hc
  obtain ⟨b1, b2, b3⟩ := h4 q hq hqp
  refine sp_sit hG b1 (by omega) (fun i' e1 e2 e3 e4 e5 => ?_)
  obtain ⟨g1, g2, g3, l1, l2, l3, n1, n2, n3, n4, n5, n6, hL⟩ := hG
  refine hQ i' _ hm ⟨by rw [e1 h 3 n5 n6]; exact c1, fun y hy => by rw [e1 a y n1 n2]; exact c2 y hy, fun t ht htq => ?_, fun y hy hyx => ?_⟩ (fun y hy hyx => ?_) (fun z f z1 z2 z3 z4 => (e1 z f z2 z3).trans (hf z f z1 z2 z3 z4))
  · by_cases e : t = p
    · subst e; rw [sU_eq]; exact e2
    · rw [sU_ne e, e3 t e]; exact c3 t ht e
  · by_cases e : y = hp q
    · subst e; rw [sU_eq, nI_pred]; exact e4
    · rw [sU_ne e, e5 y e]; exact c4 y hy hyx
  · by_cases e : y = hp q
    · subst e
      rw [sU_eq, hM _ hy hyx, b3]
      exact ⟨fun _ => by omega, fun _ => by omega⟩
    · rw [sU_ne e]; exact hM y hy hyx
theorem lp_up (hG : hg3 r len h a b c L) (hD : ∀ y, y < L → D y ≤ 1073741824) (hQ : ∀ i', hpv i' h a b c L D (sU M x true) → hF h a b c i0 i' → Q i' j) : ∀ (g p : Nat) (hp S : Nat → Nat) (i : jI), p < g → hs L hp S n p x → hC i h a b c L D hp S n p x → hO D hp n p → hU D hp n p x → (∀ y, y < L → y ≠ x → (M y = true ↔ S y ≠ 0)) → hF h a b c i0 i → J_X3_offer_L45 len r Q g i j h (nI x) (nI (D x)) (nI p) := by
  intro g
  induction g with
  | zero => intro p hp S i hg; omega
  | succ g ih =>
    intro p hp S i hg hS hc ho hu hM hf
    obtain ⟨h1, h2, h3, h4, h5⟩ := id hS
    obtain ⟨c1, c2, c3, c4⟩ := id hc
    obtain ⟨g1, g2, g3, l1, l2, l3, n1, n2, n3, n4, n5, n6, hL⟩ := id hG
    rw [J_X3_offer_L45]
    by_cases h0 : p = 0
    · refine ⟨fun _ => ?_, fun hh => absurd (by rw [h0]; decide) hh⟩
      rw [J_X3_offer_L92]
      exact sp_sitF hG hS hc ho hu (fun z => by omega) hM hf hQ
    · have hq : (p - 1) / 2 < n := by omega
      have hqp : (p - 1) / 2 ≠ p := by omega
      obtain ⟨b1, b2, b3⟩ := h4 _ hq hqp
      refine ⟨fun hh => absurd hh (nI_nle (by omega) (by omega)), fun _ => ?_⟩
      rw [par_n (by omega) (by omega)]
      have eq : (nI ((p - 1) / 2)).toNatClampNeg = (p - 1) / 2 := nI_clamp (by omega)
      rw [eq]
      refine ⟨a, g1, b, g2, by rw [l2]; exact vp_in_nI (by omega) (by omega), ?_⟩
      rw [c3 _ hq hqp, nI_clamp (by omega), c2 _ b1]
      have d1 := hD _ b1
      have d2 := hD _ h3
      refine ⟨by rw [l1]; exact vp_in_nI b1 (by omega), pk_le (D (hp ((p - 1) / 2))) (D x) (fun hle => ?_) (fun hlt => ?_)⟩
      · rw [J_X3_offer_L92]
        exact sp_sitF hG hS hc ho hu (fun _ => hle) hM hf hQ
      · refine ⟨b, g2, by rw [l2]; exact vp_in_nI (by omega) (by omega), ?_⟩
        rw [c3 _ hq hqp]
        obtain ⟨m1, m2⟩ := hU_move ho (by omega) h1 hlt
        refine sp_sitM hG hS hc hq hqp hM hf (fun i' S' hS' hc' hM' hf' v ev => ?_)
        subst ev
        exact ih _ _ _ _ (by omega) hS' hc' m1 m2 hM' hf'
theorem lp_down (hG : hg3 r len h a b c L) (hD : ∀ y, y < L → D y ≤ 1073741824) (hQ : ∀ i', hpv i' h a b c L D (sU M x true) → hF h a b c i0 i' → Q i' j) : ∀ (g p : Nat) (hp S : Nat → Nat) (i : jI), n ≤ p + g → hs L hp S n p x → hC i h a b c L D hp S n p x → hO D hp n p → hW D hp p x → (∀ y, y < L → y ≠ x → (M y = true ↔ S y ≠ 0)) → hF h a b c i0 i → J_X3_sink_L4 len r Q g i j h (nI x) (nI p) (nI (2 * p + 1)) := by
  intro g
  induction g with
  | zero => intro p hp S i hg hS; have := hS.1; omega
  | succ g ih =>
    intro p hp S i hg hS hc ho hw hM hf
    obtain ⟨h1, h2, h3, h4, h5⟩ := id hS
    obtain ⟨c1, c2, c3, c4⟩ := id hc
    obtain ⟨g1, g2, g3, l1, l2, l3, n1, n2, n3, n4, n5, n6, hL⟩ := id hG
    have dx := hD _ h3
    -- the least child q
    have go : ∀ q, 0 < q → q < n → (q - 1) / 2 = p → (∀ t, 0 < t → t < n → (t - 1) / 2 = p → D (hp q) ≤ D (hp t)) → J_X3_sink_L52 len r Q (J_X3_sink_L4 len r Q g) i j h (nI x) (nI p) (nI q) := by
      intro q q0 qn e hm
      obtain ⟨b1, b2, b3⟩ := h4 q qn (by omega)
      have dq := hD _ b1
      have eq : (nI q).toNatClampNeg = q := nI_clamp (by omega)
      rw [J_X3_sink_L52, eq]
      refine ⟨a, g1, b, g2, by rw [l2]; exact vp_in_nI (by omega) (by omega), ?_⟩
      rw [c3 q qn (by omega), nI_clamp (by omega), c2 _ b1]
      refine ⟨by rw [l1]; exact vp_in_nI b1 (by omega), a, g1, by rw [l1]; exact vp_in_nI h3 (by omega), ?_⟩
      rw [nI_clamp (by omega), c2 _ h3]
      refine pk_lt (D (hp q)) (D x) (fun hlt => ?_) (fun hle => ?_)
      · refine ⟨b, g2, by rw [l2]; exact vp_in_nI (by omega) (by omega), ?_⟩
        rw [c3 q qn (by omega)]
        obtain ⟨m1, m2⟩ := hD_move ho q0 qn e (Nat.le_of_lt hlt) hm
        refine sp_sitM hG hS hc qn (by omega) hM hf (fun i' S' hS' hc' hM' hf' v ev => ?_)
        rw [chi_n] at ev
        subst ev
        exact ih _ _ _ _ (by omega) hS' hc' m1 m2 hM' hf'
      · rw [J_X3_sink_L97]
        exact sp_sitF hG hS hc ho (fun t t0 tn e2 => Nat.le_trans hle (hm t t0 tn e2)) hw hM hf hQ
    rw [J_X3_sink_L4]
    dsimp only
    rw [c1]
    refine pk_le n (2 * p + 1) (fun hle => ?_) (fun hlt => ?_)
    · rw [J_X3_sink_L97]
      exact sp_sitF hG hS hc ho (fun t t0 tn e2 => by omega) hw hM hf hQ
    · rw [nI_1]
      refine pk_le n (2 * p + 1 + 1) (fun hle => go _ (by omega) hlt (by omega) (fun t t0 tn e2 => ?_)) (fun hlt2 => ?_)
      · have : t = 2 * p + 1 := by omega
        subst this
        exact Nat.le_refl _
      · obtain ⟨b1, b2, b3⟩ := h4 (2 * p + 1) hlt (by omega)
        obtain ⟨d1, d2, d3⟩ := h4 (2 * p + 1 + 1) hlt2 (by omega)
        have e1 : (nI (2 * p + 1)).toNatClampNeg = 2 * p + 1 := nI_clamp (by omega)
        have e2 : (nI (2 * p + 1 + 1)).toNatClampNeg = 2 * p + 1 + 1 := nI_clamp (by omega)
        have f1 := hD _ b1
        have f2 := hD _ d1
        rw [e1, e2]
        refine ⟨a, g1, b, g2, by rw [l2]; exact vp_in_nI (by omega) (by omega), ?_⟩
        rw [c3 _ hlt2 (by omega), nI_clamp (show hp (2 * p + 1 + 1) < 2 ^ 31 by omega), c2 _ d1]
        refine ⟨by rw [l1]; exact vp_in_nI d1 (by omega), a, g1, b, g2, by rw [l2]; exact vp_in_nI (by omega) (by omega), ?_⟩
        rw [c3 _ hlt (by omega), nI_clamp (show hp (2 * p + 1) < 2 ^ 31 by omega), c2 _ b1]
        refine ⟨by rw [l1]; exact vp_in_nI b1 (by omega), pk_le (D (hp (2 * p + 1))) (D (hp (2 * p + 1 + 1))) (fun hle => go _ (by omega) hlt (by omega) (fun t t0 tn e2 => ?_)) (fun hle v ev => ?_)⟩
        · rcases (show t = 2 * p + 1 ∨ t = 2 * p + 1 + 1 by omega) with rfl | rfl
          · exact Nat.le_refl _
          · exact hle
        · subst ev
          refine go _ (by omega) hlt2 (by omega) (fun t t0 tn e2 => ?_)
          rcases (show t = 2 * p + 1 ∨ t = 2 * p + 1 + 1 by omega) with rfl | rfl
          · exact Nat.le_of_lt hle
          · exact Nat.le_refl _
end HeapJ
