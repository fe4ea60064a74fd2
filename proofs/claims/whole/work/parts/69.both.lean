/-! the reference's numbers of two -/
def tg (z : Nat) : Nat := (z / 378 / 7 * 54 + z % 378 / 7) * 7 + z / 378 % 7
def dt (x : Nat) : Nat := 378 * (x / 7 / 54 * 7 + x % 7) + (x / 7 % 54 * 7 + x % 7)
theorem tg_lt {z : Nat} (h : pgd z) : tg z < 20412 := by
  have h1 := h.1
  unfold tg
  omega
theorem dt_tg {z : Nat} (h : pgd z) : dt (tg z) = z := by
  obtain ⟨h1, h2⟩ := h
  have e1 : tg z / 7 = z / 378 / 7 * 54 + z % 378 / 7 := by unfold tg; omega
  have e2 : tg z % 7 = z / 378 % 7 := by unfold tg; omega
  have e3 : (z / 378 / 7 * 54 + z % 378 / 7) / 54 = z / 378 / 7 := by omega
  have e4 : (z / 378 / 7 * 54 + z % 378 / 7) % 54 = z % 378 / 7 := by omega
  unfold dt
  rw [e1, e2, e3, e4]
  omega
theorem dt_gd {x : Nat} (h : x < 20412) : pgd (dt x) ∧ dt x / 378 = x / 7 / 54 * 7 + x % 7 ∧ dt x % 378 = x / 7 % 54 * 7 + x % 7 := by
  have h1 : x / 7 / 54 * 7 + x % 7 < 378 := by omega
  have h2 : x / 7 % 54 * 7 + x % 7 < 378 := by omega
  have e1 : dt x / 378 = x / 7 / 54 * 7 + x % 7 := by unfold dt; omega
  have e2 : dt x % 378 = x / 7 % 54 * 7 + x % 7 := by unfold dt; omega
  refine ⟨⟨by rw [e1]; exact h1, ?_⟩, e1, e2⟩
  rw [e1, e2]
  omega
def tes (A B G T1 T2 : Nat → Nat) (fr : Bool) (x k : Nat) : Option Nat := (pes A B G T1 T2 fr (dt x) k).map tg
section Tes
variable {A B G T1 T2 wt : Nat → Nat} {fr : Bool} {ns z0 : Nat}
theorem pes_gd (tok : Tok ns A B G) {z k z' : Nat} (hz : pgd z) (hk : k < ns) (h : pes A B G T1 T2 fr z k = some z') : pgd z' := (pes_pin (z0 := z) tok ⟨hz, fun _ _ => Or.inl ⟨rfl, rfl⟩⟩ hk h).1
theorem tes_lt (tok : Tok ns A B G) : ∀ x, x < 20412 → ∀ k, k < ns → ∀ y, tes A B G T1 T2 fr x k = some y → y < 20412 := by
  intro x hx k hk y h
  unfold tes at h
  cases hp : pes A B G T1 T2 fr (dt x) k with
  | none => rw [hp] at h; cases h
  | some v => rw [hp] at h; cases h; exact tg_lt (pes_gd tok (dt_gd hx).1 hk hp)
theorem tes_way (tok : Tok ns A B G) (hz0 : pgd z0) {x c : Nat} : gw_way (tes A B G T1 T2 fr) ns wt (tg z0) x c ↔ ∃ u, pgd u ∧ x = tg u ∧ gw_way (pes A B G T1 T2 fr) ns wt z0 u c := by
  have key := gw_map (es := pes A B G T1 T2 fr) (es2 := tes A B G T1 T2 fr) (m := ns) (s := z0) (s2 := tg z0) (fun u x => pgd u ∧ x = tg u) ⟨hz0, rfl⟩ (fun u x h a ha => by
    obtain ⟨hu, rfl⟩ := h
    unfold tes
    rw [dt_tg hu]
    cases he : pes A B G T1 T2 fr u a with
    | none => exact Or.inl ⟨rfl, rfl⟩
    | some v => exact Or.inr ⟨v, tg v, rfl, rfl, pes_gd tok hu ha he, rfl⟩)
  constructor
  · rintro ⟨l, h1, h2, h3⟩
    rcases key l h1 with ⟨-, e⟩ | ⟨u, z, e1, e2, hu, hz⟩
    · rw [e] at h2; cases h2
    · rw [e2] at h2
      cases h2
      exact ⟨u, hu, hz, l, h1, e1, h3⟩
  · rintro ⟨u, hu, rfl, l, h1, h2, h3⟩
    rcases key l h1 with ⟨e, -⟩ | ⟨v, z, e1, e2, hv, hz⟩
    · rw [e] at h2; cases h2
    · rw [e1] at h2
      cases h2
      exact ⟨l, h1, by rw [e2, hz], h3⟩
theorem tg_pl (z : Nat) : tg z % 7 = z / 378 % 7 := by unfold tg; omega
theorem tes_pcs (tok : Tok ns A B G) (hz0 : pgd z0) {p c : Nat} : (∃ x, x % 7 = p ∧ gw_way (tes A B G T1 T2 fr) ns wt (tg z0) x c) ↔ pcs A B G T1 T2 wt fr ns z0 p c := by
  constructor
  · rintro ⟨x, hx, hw⟩
    obtain ⟨u, hu, rfl, h⟩ := (tes_way tok hz0).mp hw
    exact ⟨u, by rw [← tg_pl]; exact hx, h⟩
  · rintro ⟨z, hz, hw⟩
    have hzg : pgd z := gw_ind (P := fun z _ => pgd z) hz0 (fun x c a y _ hx ha he => pes_gd tok hx ha he) hw
    exact ⟨tg z, by rw [tg_pl]; exact hz, (tes_way tok hz0).mpr ⟨z, hzg, rfl, hw⟩⟩
end Tes
/-! its queue -/
def qv2 (i : jI) (D : Nat → Nat) (M : Nat → Bool) : Prop := ∃ (q : Nat → Nat) (f n : Nat), i 37 38 = nI f ∧ i 37 37 = nI ((f + n) % 20412) ∧ i 37 36 = nI n ∧ f < 20412 ∧ (∀ t, t < n → i 57 ((f + t) % 20412) = nI (q t)) ∧ (∀ y, y < 20412 → i 56 y = nI (D y)) ∧ (∀ y, y < 20412 → i 58 y = bI (M y)) ∧ qq 20412 M q n
def qF2 (i i' : jI) : Prop := ∀ x f, x ≠ 56 → x ≠ 57 → x ≠ 58 → (x = 37 → f ≠ 36 ∧ f ≠ 37 ∧ f ≠ 38) → i' x f = i x f
theorem qF2.rf {i : jI} : qF2 i i := fun _ _ _ _ _ _ => rfl
theorem qF2.tr {i i1 i2 : jI} (h1 : qF2 i i1) (h2 : qF2 i1 i2) : qF2 i i2 := fun x f e1 e2 e3 e4 => (h2 x f e1 e2 e3 e4).trans (h1 x f e1 e2 e3 e4)
theorem TM.qf2 {i i' : jI} {ns : Nat} {A B G P : Nat → Nat} {fr : Bool} (e : qF2 i i') (h : TM i ns A B G P fr) : TM i' ns A B G P fr := h.frm (fun a f ha => e a f (by omega) (by omega) (by omega) (by omega))
theorem qF2.wf {i i1 : jI} (h : qF2 i i1) : wF i i1 := fun x f hk => h x f (by unfold kp at hk; omega) (by unfold kp at hk; omega) (by unfold kp at hk; omega) (by unfold kp at hk; omega)
section Come2
variable {len : Nat → Nat} {r : jR} {i : jI} {j : jL} {D : Nat → Nat} {M : Nat → Bool}
theorem sp_come2 {Q : jI → jL → Prop} {x k : Nat} (hg : Gr r len) (hV : qv2 i D M) (hx : x < 20412) (hD : D x < 2 ^ 31) (hk : k < 2 ^ 31) (hQ : ∀ i', qv2 i' (dD D x k) (dM D M x k) → qF2 i i' → Q i' j) : J_X12_comeBoth len r Q i j 37 (nI x) (nI k) := by
  obtain ⟨q, f, n, v1, v1', v2, v3, v4, v5, v6, v7⟩ := id hV
  have ex : (nI x).toNatClampNeg = x := nI_clamp (by omega)
  have hv : vp_in (nI x) 20412 := vp_in_nI hx (by decide)
  rw [J_X12_comeBoth, ex]
  refine ⟨56, hg.1 _ (by decide) _ (by decide) _ rfl, by rw [hg.2 _ (by decide)]; exact hv, ?_⟩
  rw [v5 x hx]
  refine pk_lt k (D x) (fun hlt => ?_) (fun hle => ?_)
  · have eD : dD D x k = sU D x k := if_pos hlt
    have eM : dM D M x k = sU M x true := if_pos hlt
    rw [eD, eM] at hQ
    refine ⟨56, hg.1 _ (by decide) _ (by decide) _ rfl, by rw [hg.2 _ (by decide)]; exact hv, fun i1 e1 => ⟨58, hg.1 _ (by decide) _ (by decide) _ rfl, by rw [hg.2 _ (by decide)]; exact hv, ?_⟩⟩
    have i1o : ∀ z f, z ≠ 56 → i1 z f = i z f := fun z f hz => by rw [e1, ju_ne hz]
    have i1a : ∀ y, y < 20412 → i1 56 y = nI (sU D x k y) := by
      intro y hy
      rw [e1, ju_eq]
      by_cases e : y = x
      · subst e; rw [pk_us, sU_eq]
      · rw [pk_un e, sU_ne e]; exact v5 y hy
    rw [i1o 58 x (by decide), v6 x hx]
    cases hm : M x with
    | true =>
      rw [sU_same hm] at hQ
      refine ⟨fun _ => hQ i1 ⟨q, f, n, (i1o _ _ (by decide)).trans v1, (i1o _ _ (by decide)).trans v1', (i1o _ _ (by decide)).trans v2, v3, fun t ht => (i1o _ _ (by decide)).trans (v4 t ht), i1a, fun y hy => (i1o _ _ (by decide)).trans (v6 y hy), v7⟩ (fun z f z1 z2 z3 z4 => i1o z f z1), fun hh => absurd hh (by decide)⟩
    | false =>
      have hn := qq_room v7 hx hm
      refine ⟨fun hh => absurd (by decide) hh, fun _ => ⟨58, hg.1 _ (by decide) _ (by decide) _ rfl, by rw [hg.2 _ (by decide)]; exact hv, fun i2 e2 => ⟨57, hg.1 _ (by decide) _ (by decide) _ rfl, ?_⟩⟩⟩
      rw [vb1] at e2
      have i2o : ∀ z f, z ≠ 58 → i2 z f = i1 z f := fun z f hz => by rw [e2, ju_ne hz]
      have hen : (f + n) % 20412 < 20412 := Nat.mod_lt _ (by decide)
      have e37 : i2 37 37 = nI ((f + n) % 20412) := by rw [i2o _ _ (by decide), i1o _ _ (by decide)]; exact v1'
      rw [e37, nI_clamp (by omega)]
      refine ⟨by rw [hg.2 _ (by decide)]; exact vp_in_nI hen (by decide), fun i3 e3 => ?_⟩
      have i3o : ∀ z f, z ≠ 57 → i3 z f = i2 z f := fun z f hz => by rw [e3, ju_ne hz]
      have e337 : i3 37 37 = nI ((f + n) % 20412) := (i3o _ _ (by decide)).trans e37
      -- the end of the queue
      have fin : ∀ d, d = (f + (n + 1)) % 20412 → J_X12_comeBoth_L67 len r Q i3 j 37 37 (nI d) := by
        intro d hd
        rw [J_X12_comeBoth_L67]
        intro i4 e4 i5 e5
        have i4o : ∀ z f, z ≠ 37 → i4 z f = i3 z f := fun z f hz => by rw [e4, ju_ne hz]
        have i5o : ∀ z f, z ≠ 37 → i5 z f = i4 z f := fun z f hz => by rw [e5, ju_ne hz]
        have base : ∀ g, g ≠ 36 → g ≠ 37 → i5 37 g = i 37 g := fun g h1 h2 => by
          rw [e5, ju_eq, pk_un h1, e4, ju_eq, pk_un h2, i3o _ _ (by decide), i2o _ _ (by decide), i1o _ _ (by decide)]
        refine hQ i5 ⟨sU q n x, f, n + 1, (base 38 (by decide) (by decide)).trans v1, ?_, ?_, v3, fun t ht => ?_, fun y hy => ?_, fun y hy => ?_, qq_push v7 hx hm⟩ (fun z g z1 z2 z3 z4 => ?_)
        · rw [e5, ju_eq, pk_un (by decide), e4, ju_eq, pk_us, hd]
        · rw [e5, ju_eq, pk_us, e4, ju_eq, pk_un (by decide), i3o _ _ (by decide), i2o _ _ (by decide), i1o _ _ (by decide), v2, nI_1]
        · rw [i5o _ _ (by decide), i4o _ _ (by decide), e3, ju_eq]
          by_cases e : t = n
          · subst e; rw [pk_us, sU_eq]
          · rw [pk_un (by omega), sU_ne e, i2o _ _ (by decide), i1o _ _ (by decide)]; exact v4 t (by omega)
        · rw [i5o _ _ (by decide), i4o _ _ (by decide), i3o _ _ (by decide), i2o _ _ (by decide)]; exact i1a y hy
        · rw [i5o _ _ (by decide), i4o _ _ (by decide), i3o _ _ (by decide), e2, ju_eq]
          by_cases e : y = x
          · subst e; rw [pk_us, sU_eq]; rfl
          · rw [pk_un e, sU_ne e, i1o _ _ (by decide)]; exact v6 y hy
        · by_cases e : z = 37
          · subst e; exact base g (z4 rfl).1 (z4 rfl).2.1
          · rw [i5o z g e, i4o z g e, i3o z g z2, i2o z g z3, i1o z g z1]
      rw [e337, nI_1]
      refine ⟨fun hne => fin _ ?_, fun heq => fin 0 ?_⟩
      · have : (f + n) % 20412 + 1 ≠ 20412 := fun z => hne (by rw [z]; decide)
        omega
      · have : (f + n) % 20412 + 1 = 20412 := (nI_eq (b := 20412) (by omega) (by decide)).mp heq
        omega
  · have eD : dD D x k = D := if_neg (by omega)
    have eM : dM D M x k = M := if_neg (by omega)
    rw [eD, eM] at hQ
    exact hQ i hV qF2.rf
end Come2
theorem tog_n {a b : Nat} (ha : a < 378) (hb : b < 378) : ((((nI a / (7 : Int32)) * (54 : Int32)) + (nI b / (7 : Int32))) * (7 : Int32)) + (nI a - nI a / (7 : Int32) * (7 : Int32)) = nI ((a / 7 * 54 + b / 7) * 7 + a % 7) := by
  rw [st_place a ha, show nI a / (7 : Int32) = nI (a / 7) from pk_div (d := 7) (by omega) (by decide) (by decide), show nI b / (7 : Int32) = nI (b / 7) from pk_div (d := 7) (by omega) (by decide) (by decide), show nI (a / 7) * (54 : Int32) = nI (a / 7 * 54) from pk_mul _ 54, nI_add, show nI (a / 7 * 54 + b / 7) * (7 : Int32) = nI ((a / 7 * 54 + b / 7) * 7) from pk_mul _ 7, nI_add]
section BothM
variable {len : Nat → Nat} {r : jR} {i0 : jI} {j : jL} {ns z0 p ka kb wa wb : Nat} {A B G P : Nat → Nat} {fr : Bool}
abbrev te (A B G P : Nat → Nat) (fr : Bool) (ka kb : Nat) : Nat → Nat → Option Nat := tes A B G (fun s => mturn ka (P s)) (fun s => mturn kb (P s)) fr
abbrev tw (P : Nat → Nat) (ka kb : Nat) : Nat → Nat := wtt (fun s => mstep ka (P s)) (fun s => mstep kb (P s))
abbrev bF9 (A B G P : Nat → Nat) (fr : Bool) (ns ka kb z0 : Nat) (D : Nat → Nat) (M : Nat → Bool) : Prop := gi_F 20412 ns 268435456 (te A B G P fr ka kb) (tw P ka kb) (tg z0) D M
abbrev bP9 (A B G P : Nat → Nat) (fr : Bool) (ns ka kb z0 : Nat) (D : Nat → Nat) (M : Nat → Bool) (u k : Nat) : Prop := gi_P 20412 ns 268435456 (te A B G P fr ka kb) (tw P ka kb) (tg z0) D M u k
/-- the least so far -/
def lI (A B G P : Nat → Nat) (fr : Bool) (ns ka kb z0 p l : Nat) (D : Nat → Nat) (M : Nat → Bool) : Prop := l ≤ 268435456 ∧ (l < 268435456 → ∃ x, x % 7 = p ∧ gw_way (te A B G P fr ka kb) ns (tw P ka kb) (tg z0) x l) ∧ ∀ x, x < 20412 → x % 7 = p → M x = false → D x < 268435456 → l ≤ D x
theorem lI_off {l y c : Nat} {D : Nat → Nat} {M : Nat → Bool} (h : lI A B G P fr ns ka kb z0 p l D M) : lI A B G P fr ns ka kb z0 p l (dD D y c) (dM D M y c) := by
  obtain ⟨h1, h2, h3⟩ := h
  refine ⟨h1, h2, fun x hx hp hm hd => ?_⟩
  obtain ⟨m1, m2⟩ := dM_of hm
  rw [m2] at hd ⊢
  exact h3 x hx hp m1 hd
theorem lp_b210 {Q : Int32 → jI → jL → Prop} {Hd : jI → jL → Nat → Int32 → Int32 → Int32 → Int32 → Prop} {mu u pr l : Nat} (hg : Gr r len) (tm : TM i0 ns A B G P fr) (hka : ka < 5) (hkb : kb < 5) (hwa : wa < 5) (hwb : wb < 5) (ea : i0 42 wa = nI ka) (eb : i0 42 wb = nI kb) (hu : u < 20412) (hH : ∀ i' D' M', qv2 i' D' M' → bF9 A B G P fr ns ka kb z0 D' M' → fb_sm D' 20412 + fb_ct M' 20412 ≤ mu → lI A B G P fr ns ka kb z0 p l D' M' → qF2 i0 i' → Hd i' j 37 (nI wa) (nI wb) (nI p) (nI l)) : ∀ (m x : Nat) (i : jI) (D : Nat → Nat) (M : Nat → Bool), x + m = ns → qv2 i D M → bP9 A B G P fr ns ka kb z0 D M u x → D u = pr → fb_sm D 20412 + fb_ct M 20412 ≤ mu → lI A B G P fr ns ka kb z0 p l D M → qF2 i0 i → J_X12_bothNow_L210 len r Q Hd (m + 1) i j 37 (nI wa) (nI wb) (nI p) (nI l) (nI pr) (nI (dt u / 378)) (nI (dt u % 378)) (nI x) := by
  have hn := tm.2.1
  have tok := tm.tok
  have hgd := (dt_gd hu).1
  have hb378 : dt u % 378 < 378 := Nat.mod_lt _ (by decide)
  intro m
  induction m with
  | zero =>
    intro x i D M hx hv hi hpr hmu hl hf
    have hx' : x = ns := by omega
    subst hx'
    rw [J_X12_bothNow_L210]
    dsimp only
    rw [hf 37 0 (by decide) (by decide) (by decide) (by omega), tm.1]
    exact ⟨fun _ => hH i D M hv (gi_close hi) hmu hl hf, fun hh => absurd (nI_le (Nat.le_refl _) (by omega)) hh⟩
  | succ m ih =>
    intro x i D M hx hv hi hpr hmu hl hf
    have hxn : x < ns := by omega
    have ex : (nI x).toNatClampNeg = x := nI_clamp (by omega)
    have eva : (nI wa).toNatClampNeg = wa := nI_clamp (by omega)
    have evb : (nI wb).toNatClampNeg = wb := nI_clamp (by omega)
    have hva : vp_in (nI wa) 5 := vp_in_nI hwa (by decide)
    have hvb : vp_in (nI wb) 5 := vp_in_nI hwb (by decide)
    have hvx : vp_in (nI x) 10 := vp_in_nI (by omega) (by decide)
    have tmi : TM i ns A B G P fr := tm.qf2 hf
    have eai : i 42 wa = nI ka := (hf _ _ (by decide) (by decide) (by decide) (by omega)).trans ea
    have ebi : i 42 wb = nI kb := (hf _ _ (by decide) (by decide) (by decide) (by omega)).trans eb
    obtain ⟨⟨-, -, cP0, -⟩, cA, cB, -, cP, cG⟩ := tmi.2.2.2 x hxn
    have hw1 := mst_22 ka hka (P x) (by omega)
    have hw2 := mst_22 kb hkb (P x) (by omega)
    have next : ∀ (i' : jI) (D' : Nat → Nat) (M' : Nat → Bool), qv2 i' D' M' → bP9 A B G P fr ns ka kb z0 D' M' u (x + 1) → D' u = pr → fb_sm D' 20412 + fb_ct M' 20412 ≤ mu → lI A B G P fr ns ka kb z0 p l D' M' → qF2 i0 i' → J_X12_bothNow_L310 len r Q Hd (J_X12_bothNow_L210 len r Q Hd (m + 1)) i' j 37 (nI wa) (nI wb) (nI p) (nI l) (nI pr) (nI (dt u / 378)) (nI (dt u % 378)) (nI x) := by
      intro i' D' M' a1 a2 a3 a4 a5 a6
      rw [J_X12_bothNow_L310]
      intro v ev
      rw [nI_1] at ev
      subst ev
      exact ih (x + 1) i' D' M' (by omega) a1 a2 a3 a4 a5 a6
    have hb1 := fun st2 hh => mbeh_lt (T := fun s => mturn ka (P s)) (fr := fr) (st2 := st2) hgd.1 cA cB cG hh
    have hb2 := fun st2 hh => mbeh_lt (T := fun s => mturn kb (P s)) (fr := fr) (st2 := st2) hb378 cA cB cG hh
    have o1 := so_none hb1
    have o2 := so_none hb2
    rw [J_X12_bothNow_L210]
    dsimp only
    rw [tmi.1, eva, evb, ex]
    refine ⟨fun hh => absurd hh (nI_ge (by omega) (by omega)), fun _ => ⟨42, hg.1 _ (by decide) _ (by decide) _ rfl, by rw [hg.2 _ (by decide)]; exact hva, ?_⟩⟩
    rw [eai]
    refine sp_behM hg tmi hka hgd.1 hxn ⟨42, hg.1 _ (by decide) _ (by decide) _ rfl, by rw [hg.2 _ (by decide)]; exact hvb, ?_⟩
    rw [ebi]
    refine sp_behM hg tmi hkb hb378 hxn ?_
    cases hm1 : mbeh A B G (fun s => mturn ka (P s)) fr (dt u / 378) x with
    | none =>
      refine ⟨fun _ => next i D M hv (gi_none hi ?_) hpr hmu hl hf, fun hh => absurd rfl hh⟩
      unfold te tes pes
      rw [hm1]
      rfl
    | some a =>
      rw [hm1] at o1
      have hal := hb1 a hm1
      refine ⟨fun hh => (by cases o1.mp hh), fun _ => ?_⟩
      cases hm2 : mbeh A B G (fun s => mturn kb (P s)) fr (dt u % 378) x with
      | none =>
        refine ⟨fun _ => next i D M hv (gi_none hi ?_) hpr hmu hl hf, fun hh => absurd rfl hh⟩
        unfold te tes pes
        rw [hm1, hm2]
        rfl
      | some b =>
        rw [hm2] at o2
        have hbl := hb2 b hm2
        have hpe : pes A B G (fun s => mturn ka (P s)) (fun s => mturn kb (P s)) fr (dt u) x = some (378 * a + b) := by
          unfold pes
          rw [hm1, hm2]
          rfl
        have hpg := pes_gd tok hgd hxn hpe
        have hte : te A B G P fr ka kb u x = some (tg (378 * a + b)) := by
          unfold te tes
          rw [hpe]
          rfl
        have e1 : (378 * a + b) / 378 = a := by omega
        have e2 : (378 * a + b) % 378 = b := by omega
        have etg : (a / 7 * 54 + b / 7) * 7 + a % 7 = tg (378 * a + b) := by unfold tg; rw [e1, e2]
        have htl := tg_lt hpg
        refine ⟨fun hh => (by cases o2.mp hh), fun _ => ?_⟩
        show J_X12_together len r _ i j (nI a) (nI b)
        rw [J_X12_together, tog_n hal hbl, etg]
        refine ⟨42, hg.1 _ (by decide) _ (by decide) _ rfl, by rw [hg.2 _ (by decide)]; exact hva, 40, hg.1 _ (by decide) _ (by decide) _ rfl, by rw [hg.2 _ (by decide)]; exact hvx, ?_⟩
        rw [eai, cP0]
        refine sp_stepsBy hka (by omega) ⟨42, hg.1 _ (by decide) _ (by decide) _ rfl, by rw [hg.2 _ (by decide)]; exact hvb, 40, hg.1 _ (by decide) _ (by decide) _ rfl, by rw [hg.2 _ (by decide)]; exact hvx, ?_⟩
        rw [ebi, cP0]
        refine sp_stepsBy hkb (by omega) ?_
        rw [nI_add pr, nI_add]
        obtain ⟨p1, p2⟩ := gi_off hi hxn hte htl
        have hDu := hi.2.2.2.2.2.2.1
        have ew : pr + mstep ka (P x) + mstep kb (P x) = D u + tw P ka kb x := by rw [hpr]; exact Nat.add_assoc _ _ _
        rw [ew]
        exact sp_come2 hg hv htl (by have := hi.2.1 _ htl; omega) (by rw [← ew]; omega) (fun i' hv' hf' => next i' _ _ hv' p1 (p2.trans hpr) (Nat.le_trans (gm_off htl) hmu) (lI_off hl) (hf.tr hf'))
theorem lp_b73 {Q : Int32 → jI → jL → Prop} (hg : Gr r len) (tm : TM i0 ns A B G P fr) (hka : ka < 5) (hkb : kb < 5) (hwa : wa < 5) (hwb : wb < 5) (ea : i0 42 wa = nI ka) (eb : i0 42 wb = nI kb) (hz0 : pgd z0) (hp : p < 7) (hQ : ∀ i' o, gw_ls (pcs A B G (fun s => mturn ka (P s)) (fun s => mturn kb (P s)) (tw P ka kb) fr ns z0 p) o → qF2 i0 i' → Q (bo o) i' j) : ∀ (g : Nat) (i : jI) (D : Nat → Nat) (M : Nat → Bool) (l : Nat), fb_sm D 20412 + fb_ct M 20412 < g → qv2 i D M → bF9 A B G P fr ns ka kb z0 D M → lI A B G P fr ns ka kb z0 p l D M → qF2 i0 i → J_X12_bothNow_L73 len r Q g i j 37 (nI wa) (nI wb) (nI p) (nI l) := by
  have tok := tm.tok
  have hN : ∀ x, x < 20412 → ∀ a, a < ns → ∀ y, te A B G P fr ka kb x a = some y → y < 20412 := tes_lt tok
  have hs0 := tg_lt hz0
  have hB : ∀ a, a < ns → tw P ka kb a ≤ 128 := fun a ha => by
    have h1 := mst_22 ka hka (P a) (tm.p16 a ha)
    have h2 := mst_22 kb hkb (P a) (tm.p16 a ha)
    show mstep ka (P a) + mstep kb (P a) ≤ 128
    omega
  intro g
  induction g with
  | zero => intro i D M l hmu; omega
  | succ g ih =>
    intro i D M l hmu hv hi hl hf
    obtain ⟨q, f, n, v1, v1', v2, v3, v4, v5, v6, v7⟩ := id hv
    have hn := v7.1
    rw [J_X12_bothNow_L73]
    dsimp only
    rw [v2]
    refine pk_le n 0 (fun hle => ?_) (fun hlt => ?_)
    · have hn0 : n = 0 := by omega
      subst hn0
      have hM := qq_none v7
      have low : ∀ c, pcs A B G (fun s => mturn ka (P s)) (fun s => mturn kb (P s)) (tw P ka kb) fr ns z0 p c → l ≤ c ∧ l < 268435456 := by
        intro c hc
        obtain ⟨x, hx, hw⟩ := (tes_pcs tok hz0).mpr hc
        obtain ⟨c', a1, a2, a3⟩ := gw_small hs0 hN hB hw
        obtain ⟨hxl, hd⟩ := gi_done hs0 hN hi hM a3
        have := hl.2.2 x hxl hx (hM x hxl) (by omega)
        omega
      rcases Nat.lt_or_ge l 268435456 with hlf | hlf
      · obtain ⟨x, hx, hw⟩ := hl.2.1 hlf
        refine ⟨fun _ => hQ i (some l) ⟨(tes_pcs tok hz0).mp ⟨x, hx, hw⟩, fun c hc => (low c hc).1⟩ hf, fun hh => ?_⟩
        have := (nI_eq (b := 268435456) (by omega) (by decide)).mp hh
        omega
      · have : l = 268435456 := by have := hl.1; omega
        subst this
        exact ⟨fun hh => absurd (by decide) hh, fun _ => hQ i none (fun c hc => by have := (low c hc).2; omega) hf⟩
    · obtain ⟨n', rfl⟩ : ∃ n', n = n' + 1 := ⟨n - 1, by omega⟩
      have hq0 := v7.2.1 0 (by omega)
      have e0 := v4 0 (by omega)
      rw [Nat.add_zero, Nat.mod_eq_of_lt v3] at e0
      have hdu := hi.2.2.1 (q 0) hq0.1 hq0.2
      have hpop := gi_pop hi hq0.1 hq0.2
      have hct := gm_pop (N := 20412) hq0.1 hq0.2
      have hgd := dt_gd hq0.1
      rw [v1, nI_clamp (by omega)]
      refine ⟨57, hg.1 _ (by decide) _ (by decide) _ rfl, by rw [hg.2 _ (by decide)]; exact vp_in_nI v3 (by decide), fun v ev => ?_⟩
      rw [e0] at ev
      subst ev
      have eq0 : (nI (q 0)).toNatClampNeg = q 0 := nI_clamp (by omega)
      have hvq : vp_in (nI (q 0)) 20412 := vp_in_nI hq0.1 (by decide)
      have fin : ∀ d, d = (f + 1) % 20412 → J_X12_bothNow_L114 len r Q (J_X12_bothNow_L73 len r Q g) i j 37 (nI wa) (nI wb) (nI p) (nI l) (nI (q 0)) 37 (nI d) := by
        intro d hd
        rw [J_X12_bothNow_L114, eq0]
        intro i1 e1 i2 e2
        refine ⟨58, hg.1 _ (by decide) _ (by decide) _ rfl, by rw [hg.2 _ (by decide)]; exact hvq, fun i3 e3 => ⟨56, hg.1 _ (by decide) _ (by decide) _ rfl, by rw [hg.2 _ (by decide)]; exact hvq, fun v142 e142 => ?_⟩⟩
        rw [vb0] at e3
        have i1o : ∀ z f, z ≠ 37 → i1 z f = i z f := fun z f hz => by rw [e1, ju_ne hz]
        have i2o : ∀ z f, z ≠ 37 → i2 z f = i1 z f := fun z f hz => by rw [e2, ju_ne hz]
        have i3o : ∀ z f, z ≠ 58 → i3 z f = i2 z f := fun z f hz => by rw [e3, ju_ne hz]
        have e56 : i3 56 (q 0) = nI (D (q 0)) := by rw [i3o _ _ (by decide), i2o _ _ (by decide), i1o _ _ (by decide)]; exact v5 _ hq0.1
        rw [e56] at e142
        subst e142
        have hv3 : qv2 i3 D (sU M (q 0) false) := by
          refine ⟨fun t => q (t + 1), (f + 1) % 20412, n', ?_, ?_, ?_, Nat.mod_lt _ (by decide), fun t ht => ?_, fun y hy => ?_, fun y hy => ?_, qq_pop v7⟩
          · rw [i3o _ _ (by decide), e2, ju_eq, pk_un (by decide), e1, ju_eq, pk_us, hd]
          · rw [i3o _ _ (by decide), e2, ju_eq, pk_un (by decide), e1, ju_eq, pk_un (by decide), v1', show ((f + 1) % 20412 + n') % 20412 = (f + (n' + 1)) % 20412 by omega]
          · rw [i3o _ _ (by decide), e2, ju_eq, pk_us, e1, ju_eq, pk_un (by decide), v2, nI_pred]
          · rw [i3o _ _ (by decide), i2o _ _ (by decide), i1o _ _ (by decide), show ((f + 1) % 20412 + t) % 20412 = (f + (t + 1)) % 20412 by omega]
            exact v4 (t + 1) (by omega)
          · rw [i3o _ _ (by decide), i2o _ _ (by decide), i1o _ _ (by decide)]; exact v5 y hy
          · rw [e3, ju_eq]
            by_cases e : y = q 0
            · subst e; rw [pk_us, sU_eq]; rfl
            · rw [pk_un e, sU_ne e, i2o _ _ (by decide), i1o _ _ (by decide)]; exact v6 y hy
        have hf3 : qF2 i0 i3 := by
          intro z g z1 z2 z3 z4
          rw [i3o z g z3]
          by_cases e : z = 37
          · subst e
            rw [e2, ju_eq, pk_un (z4 rfl).1, e1, ju_eq, pk_un (z4 rfl).2.2]
            exact hf 37 g z1 z2 z3 z4
          · rw [i2o z g e, i1o z g e]; exact hf z g z1 z2 z3 z4
        -- on with the new least
        have go : ∀ l', lI A B G P fr ns ka kb z0 p l' D (sU M (q 0) false) → J_X12_bothNow_L167 len r Q (J_X12_bothNow_L73 len r Q g) i3 j 37 (nI wa) (nI wb) (nI p) (nI (q 0)) (nI (D (q 0))) (nI l') := by
          intro l' hl'
          rw [J_X12_bothNow_L167]
          have d7 : nI (q 0) / (7 : Int32) = nI (q 0 / 7) := pk_div (d := 7) (by omega) (by decide) (by decide)
          have m7 : nI (q 0) - nI (q 0) / (7 : Int32) * (7 : Int32) = nI (q 0 % 7) := pk_rem (d := 7) (by omega) (by decide) (by decide)
          have d54 : nI (q 0 / 7) / (54 : Int32) = nI (q 0 / 7 / 54) := pk_div (d := 54) (by omega) (by decide) (by decide)
          have m54 : nI (q 0 / 7) - nI (q 0 / 7) / (54 : Int32) * (54 : Int32) = nI (q 0 / 7 % 54) := pk_rem (d := 54) (by omega) (by decide) (by decide)
          intro v186 e186 v205 e205
          rw [m7, d7, d54, show nI (q 0 / 7 / 54) * (7 : Int32) = nI (q 0 / 7 / 54 * 7) from pk_mul _ 7, nI_add, ← hgd.2.1] at e186
          rw [m7, d7, m54, show nI (q 0 / 7 % 54) * (7 : Int32) = nI (q 0 / 7 % 54 * 7) from pk_mul _ 7, nI_add, ← hgd.2.2] at e205
          subst e186 e205
          exact ⟨ns + 1, lp_b210 (mu := fb_sm D 20412 + fb_ct (sU M (q 0) false) 20412) (pr := D (q 0)) hg tm hka hkb hwa hwb ea eb hq0.1 (fun i' D' M' hv' hi' hmu' hl2 hf' => ih i' D' M' l' (by omega) hv' hi' hl2 hf') ns 0 i3 D _ (by omega) hv3 hpop rfl (Nat.le_refl _) hl' hf3⟩
        have m7 : nI (q 0) - nI (q 0) / (7 : Int32) * (7 : Int32) = nI (q 0 % 7) := pk_rem (d := 7) (by omega) (by decide) (by decide)
        rw [m7]
        have hl1 := hl.1
        have same : (q 0 % 7 = p → l ≤ D (q 0)) → lI A B G P fr ns ka kb z0 p l D (sU M (q 0) false) := fun hh => ⟨hl.1, hl.2.1, fun x hx hxp hm hd => by
          by_cases e : x = q 0
          · subst e; exact hh hxp
          · rw [sU_ne e] at hm; exact hl.2.2 x hx hxp hm hd⟩
        refine ⟨fun hne => ?_, fun heq => pk_le l (D (q 0)) (fun hle => ?_) (fun hlt2 => ?_)⟩
        · rw [J_X12_bothNow_L165]
          exact go l (same (fun z => absurd (by rw [z]) hne))
        · rw [J_X12_bothNow_L165]
          exact go l (same (fun _ => hle))
        · have heq' : q 0 % 7 = p := (nI_eq (by omega) (by omega)).mp heq
          refine go (D (q 0)) ⟨by omega, fun _ => ⟨q 0, heq', hi.2.2.2.1 _ hq0.1 hdu⟩, fun x hx hxp hm hd => ?_⟩
          by_cases e : x = q 0
          · subst e; exact Nat.le_refl _
          · rw [sU_ne e] at hm
            have := hl.2.2 x hx hxp hm hd
            omega
      rw [nI_1]
      refine ⟨fun hne => fin _ ?_, fun heq => fin 0 ?_⟩
      · have : f + 1 ≠ 20412 := fun z => hne (by rw [z]; decide)
        omega
      · have : f + 1 = 20412 := (nI_eq (b := 20412) (by omega) (by decide)).mp heq
        omega
theorem lp_b7 {Q : Int32 → jI → jL → Prop} {a b : Nat} (hg : Gr r len) (tm : TM i0 ns A B G P fr) (hka : ka < 5) (hkb : kb < 5) (hwa : wa < 5) (hwb : wb < 5) (ea : i0 42 wa = nI ka) (eb : i0 42 wb = nI kb) (ea2 : i0 43 wa = nI a) (eb2 : i0 43 wb = nI b) (ha : a < 378) (hb : b < 378) (hab : a % 7 = b % 7) (hp : p < 7) (hQ : ∀ i' o, gw_ls (pcs A B G (fun s => mturn ka (P s)) (fun s => mturn kb (P s)) (tw P ka kb) fr ns (378 * a + b) p) o → qF2 i0 i' → Q (bo o) i' j) : ∀ (m x : Nat) (i : jI), x + m = 20412 → (∀ y, y < x → i 56 y = nI 268435456 ∧ i 58 y = 0) → qF2 i0 i → J_X12_bothNow_L7 len r Q (m + 1) i j 37 (nI wa) (nI wb) (nI p) (268435456 : Int32) (nI x) := by
  have e1' : (378 * a + b) / 378 = a := by omega
  have e2' : (378 * a + b) % 378 = b := by omega
  have hz0 : pgd (378 * a + b) := ⟨by rw [e1']; exact ha, by rw [e1', e2']; exact hab⟩
  have htl := tg_lt hz0
  have etg : (a / 7 * 54 + b / 7) * 7 + a % 7 = tg (378 * a + b) := by unfold tg; rw [e1', e2']
  intro m
  induction m with
  | zero =>
    intro x i hx h1 hf
    have hx' : x = 20412 := by omega
    subst hx'
    rw [J_X12_bothNow_L7]
    dsimp only
    rw [nI_clamp (show wa < 2 ^ 31 by omega), nI_clamp (show wb < 2 ^ 31 by omega)]
    refine ⟨fun _ i1 e1 i2 e2 i3 e3 => ⟨43, hg.1 _ (by decide) _ (by decide) _ rfl, by rw [hg.2 _ (by decide)]; exact vp_in_nI hwa (by decide), 43, hg.1 _ (by decide) _ (by decide) _ rfl, by rw [hg.2 _ (by decide)]; exact vp_in_nI hwb (by decide), ?_⟩, fun hh => absurd (by decide) hh⟩
    have i3o : ∀ z f, z ≠ 37 → i3 z f = i z f := fun z f hz => by rw [e3, ju_ne hz, e2, ju_ne hz, e1, ju_ne hz]
    have hv3 : qv2 i3 (fun _ => 268435456) (fun _ => false) := by
      refine ⟨fun _ => 0, 0, 0, ?_, ?_, ?_, by decide, fun t ht => by omega, fun y hy => ?_, fun y hy => ?_, by omega, fun t ht => by omega, fun y hy hm => (by cases hm), fun t t' _ ht' => by omega⟩
      · rw [e3, ju_eq, pk_us]; rfl
      · rw [e3, ju_eq, pk_un (by decide), e2, ju_eq, pk_us]; rfl
      · rw [e3, ju_eq, pk_un (by decide), e2, ju_eq, pk_un (by decide), e1, ju_eq, pk_us]; rfl
      · rw [i3o _ _ (by decide)]; exact (h1 y hy).1
      · rw [i3o _ _ (by decide)]; exact (h1 y hy).2
    have hf3 : qF2 i0 i3 := by
      intro z g z1 z2 z3 z4
      by_cases e : z = 37
      · subst e
        rw [e3, ju_eq, pk_un (z4 rfl).2.2, e2, ju_eq, pk_un (z4 rfl).2.1, e1, ju_eq, pk_un (z4 rfl).1]
        exact hf 37 g z1 z2 z3 z4
      · rw [i3o z g e]; exact hf z g z1 z2 z3 z4
    rw [hf3 43 wa (by decide) (by decide) (by decide) (by omega), ea2, hf3 43 wb (by decide) (by decide) (by decide) (by omega), eb2, J_X12_together, tog_n ha hb, etg]
    refine sp_come2 (k := 0) hg hv3 htl (by decide) (by decide) (fun i4 hv4 hf4 => ?_)
    have eD : dD (fun _ => 268435456) (tg (378 * a + b)) 0 = sU (fun _ => 268435456) (tg (378 * a + b)) 0 := if_pos (show 0 < 268435456 by decide)
    have eM : dM (fun _ => 268435456) (fun _ => false) (tg (378 * a + b)) 0 = sU (fun _ => false) (tg (378 * a + b)) true := if_pos (show 0 < 268435456 by decide)
    rw [eD, eM] at hv4
    refine ⟨_, lp_b73 (l := 268435456) hg tm hka hkb hwa hwb ea eb hz0 hp hQ _ i4 _ _ (Nat.lt_succ_self _) hv4 (gi_start htl (by decide)) ⟨Nat.le_refl _, fun h => absurd h (Nat.lt_irrefl _), fun x hx hxp hm hd => ?_⟩ (hf3.tr hf4)⟩
    exfalso
    by_cases e : x = tg (378 * a + b)
    · subst e; rw [sU_eq] at hm; cases hm
    · rw [sU_ne e] at hd; exact absurd hd (Nat.lt_irrefl _)
  | succ m ih =>
    intro x i hx h1 hf
    rw [J_X12_bothNow_L7]
    refine ⟨fun hh => absurd hh (nI_ge (b := 20412) (by omega) (by decide)), fun _ => ⟨56, hg.1 _ (by decide) _ (by decide) _ rfl, by rw [hg.2 _ (by decide)]; exact vp_in_nI (by simp only [LL]; omega) (by decide), fun i1 e1 => ⟨58, hg.1 _ (by decide) _ (by decide) _ rfl, by rw [hg.2 _ (by decide)]; exact vp_in_nI (by simp only [LL]; omega) (by decide), fun i2 e2 v ev => ?_⟩⟩⟩
    rw [nI_clamp (by omega)] at e1 e2
    rw [vb0] at e2
    rw [nI_1] at ev
    subst ev
    refine ih (x + 1) i2 (by omega) (fun y hy => ?_) (fun z g z1 z2 z3 z4 => ?_)
    · by_cases e : y = x
      · subst e
        rw [e2, ju_ne (by decide), ju_eq, e1, ju_eq, pk_us, pk_us]
        exact ⟨rfl, rfl⟩
      · rw [e2, ju_ne (by decide), ju_eq, e1, ju_eq, ju_ne (by decide), pk_un e, pk_un e]
        exact h1 y (by omega)
    · rw [e2, ju_ne z3, e1, ju_ne z1]; exact hf z g z1 z2 z3 z4
theorem sp_bothM {Q : Int32 → jI → jL → Prop} {a b : Nat} (hg : Gr r len) (tm : TM i0 ns A B G P fr) (hka : ka < 5) (hkb : kb < 5) (hwa : wa < 5) (hwb : wb < 5) (ea : i0 42 wa = nI ka) (eb : i0 42 wb = nI kb) (ea2 : i0 43 wa = nI a) (eb2 : i0 43 wb = nI b) (ha : a < 378) (hb : b < 378) (hab : a % 7 = b % 7) (hp : p < 7) (hQ : ∀ i' o, gw_ls (pcs A B G (fun s => mturn ka (P s)) (fun s => mturn kb (P s)) (tw P ka kb) fr ns (378 * a + b) p) o → qF2 i0 i' → Q (bo o) i' j) : J_X12_bothNow len r Q i0 j 37 (nI wa) (nI wb) (nI p) := by
  rw [J_X12_bothNow]
  exact ⟨20413, lp_b7 hg tm hka hkb hwa hwb ea eb ea2 eb2 ha hb hab hp hQ 20412 0 i0 (by omega) (fun y hy => by omega) qF2.rf⟩
end BothM
