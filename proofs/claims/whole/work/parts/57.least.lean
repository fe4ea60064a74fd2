/-! the class's least cost to a place -/
def lsm (C : Nat → Prop) (most : Nat) (o : Option Nat) : Prop := match o with
  | none => ∀ c, C c → most < c ∨ 1073741824 ≤ c
  | some c => C c ∧ c ≤ most ∧ ∀ c', C c' → c ≤ c'
/-- the costs of the ways to a place -/
def wcs (A B G T w : Nat → Nat) (fr : Bool) (ns : Nat) (sk : Bool) (S st p c : Nat) : Prop := ∃ u, u % 7 = p ∧ gw_way (mes A B G T fr ns sk) (ns + 1) (mwg w ns S) st u c
section Least
variable {len : Nat → Nat} {r : jR} {i0 : jI} {j : jL} {ns st p most : Nat} {A B G P T w : Nat → Nat} {fr sk : Bool}
theorem lp_offNext {Q : jI → jL → Prop} {u : Nat} {G0 : Nat → Bool} (hg : Gr r len) (tc : TC i0 ns A B G P fr) (hga : ga i0 17 18 ns w T) (hw : ∀ s, s < ns → w s ≤ 64) (hT : ∀ s, s < ns → T s < 2) (hst : st < 378) (hu : u < 378) (hQ : ∀ i' D' M', hpv i' 23 24 25 26 896 D' M' → gi_P 896 (ns + 1) 1073741824 (ces (mes A B G T fr ns sk)) (mwg w ns 16384) (enc st) D' M' (enc u) ns → gj_P 896 1073741824 D' M' (enc u) → (∀ x, x < 896 → gk 1073741824 D' M' x = G0 x) → hF 23 24 25 26 i0 i' → Q i' j) : ∀ (m x : Nat) (i : jI) (D : Nat → Nat) (M : Nat → Bool), x + m = ns → hpv i 23 24 25 26 896 D M → gi_P 896 (ns + 1) 1073741824 (ces (mes A B G T fr ns sk)) (mwg w ns 16384) (enc st) D M (enc u) x → gj_P 896 1073741824 D M (enc u) → (∀ x, x < 896 → gk 1073741824 D M x = G0 x) → hF 23 24 25 26 i0 i → J_X10_offerNext_L3 len r Q (m + 1) i j 22 3 16 (nI (enc u)) (nI x) := by
  have hn := tc.2.1
  have heu := enc_lt u hu
  intro m
  induction m with
  | zero =>
    intro x i D M hx hv hi hj hk hf
    have hx' : x = ns := by omega
    subst hx'
    rw [J_X10_offerNext_L3]
    dsimp only
    rw [hf 3 0 (by decide) (by decide) (by decide) (by omega), tc.1]
    exact ⟨fun _ => hQ i D M hv hi hj hk hf, fun hh => absurd (nI_le (Nat.le_refl _) (by omega)) hh⟩
  | succ m ih =>
    intro x i D M hx hv hi hj hk hf
    have hxn : x < ns := by omega
    have ex : (nI x).toNatClampNeg = x := nI_clamp (by omega)
    have tci : TC i ns A B G P fr := tc.frm (fun a f h1 h2 => hf a f (by omega) (by omega) (by omega) (by omega))
    obtain ⟨-, cA, cB, -, cP, cG⟩ := tc.2.2.2 x hxn
    have hD := hi.2.1
    have hwx := hw x hxn
    have e1 : mes A B G T fr ns sk u x = mbeh A B G (fun _ => T x) fr u x := by unfold mes; rw [if_pos hxn]; rfl
    have e2 : mwg w ns 16384 x = w x := if_pos hxn
    have ce := ces_enc (es := mes A B G T fr ns sk) u x hu
    rw [e1] at ce
    rw [J_X10_offerNext_L3]
    dsimp only
    rw [hf 3 0 (by decide) (by decide) (by decide) (by omega), tc.1]
    refine ⟨fun hh => absurd hh (nI_ge (by omega) (by omega)), fun _ => ⟨_, hg.1 _ (by decide) _ (by decide) _ rfl, by rw [hg.2 _ (by decide)]; exact vp_in_nI (by simp only [LL]; omega) (by decide), ?_⟩⟩
    rw [ex, hf 18 x (by decide) (by decide) (by decide) (by omega), (hga x hxn).2]
    refine sp_behC hg tci (hT x hxn) hu hxn ?_
    have hb := fun st2 hh => mbeh_lt (T := fun _ => T x) (fr := fr) (st2 := st2) hu cA cB cG hh
    obtain ⟨o1, -⟩ := eo_none hb
    cases hm : mbeh A B G (fun _ => T x) fr u x with
    | none =>
      rw [hm] at ce
      refine ⟨fun _ => ?_, fun hh => absurd rfl hh⟩
      rw [J_X10_offerNext_L59]
      intro v ev
      rw [nI_1] at ev
      subst ev
      exact ih (x + 1) i D M (by omega) hv (gi_none hi ce) hj hk hf
    | some y =>
      rw [hm] at ce o1
      have hy := hb y hm
      have hey := enc_lt y hy
      refine ⟨fun hh => (by cases o1.mp hh), fun _ => ⟨_, hg.1 _ (by decide) _ (by decide) _ rfl, _, hg.1 _ (by decide) _ (by decide) _ rfl, sp_costOf (hg23 hg) hv heu ⟨_, hg.1 _ (by decide) _ (by decide) _ rfl, by rw [hg.2 _ (by decide)]; exact vp_in_nI (by simp only [LL]; omega) (by decide), ?_⟩⟩⟩
      rw [hf 17 x (by decide) (by decide) (by decide) (by omega), (hga x hxn).1, nI_add]
      obtain ⟨p1, p2⟩ := gi_off hi (by omega) ce hey
      rw [e2] at p1 p2
      have hDu := hi.2.2.2.2.2.2.1
      refine sp_offer (hg23 hg) hv hD hey (by omega) (fun i' hv' hf' => ?_)
      rw [J_X10_offerNext_L59]
      intro v ev
      rw [nI_1] at ev
      subst ev
      exact ih (x + 1) i' _ _ (by omega) hv' p1 (gj_off hj p2) (fun z hz => (gk_off hj z hz).trans (hk z hz)) (hf.tr hf')
theorem lp_least {Q : Int32 → jI → jL → Prop} (hg : Gr r len) (tc : TC i0 ns A B G P fr) (hga : ga i0 17 18 ns w T) (hw : ∀ s, s < ns → w s ≤ 64) (hT : ∀ s, s < ns → T s < 2) (hst : st < 378) (hp : p < 7) (hmost : most ≤ 1073741824) (hQ : ∀ i' o, lsm (wcs A B G T w fr ns sk 16384 st p) most o → hF 23 24 25 26 i0 i' → Q (bo o) i' j) : ∀ (m t : Nat) (i : jI) (D : Nat → Nat) (M : Nat → Bool), t + m = 896 → hpv i 23 24 25 26 896 D M → gi_F 896 (ns + 1) 1073741824 (ces (mes A B G T fr ns sk)) (mwg w ns 16384) (enc st) D M → gj_F 896 1073741824 D M → t ≤ fb_ct (gk 1073741824 D M) 896 → (∀ x, x < 896 → gk 1073741824 D M x = true → x / 128 ≠ p) → hF 23 24 25 26 i0 i → J_X10_leastTo_L19 len r Q (m + 1) i j 22 3 16 (nI p) (nI most) (if sk = true then 1 else 0) (nI t) := by
  have hes := enc_lt st hst
  have tok := tc.tok
  have hN : ∀ x, x < 378 → ∀ a, a < ns + 1 → ∀ y, mes A B G T fr ns sk x a = some y → y < 378 := fun x hx a _ y h => mes_lt tok hx h
  have hN2 := ces_lt hN
  have toC : ∀ c, wcs A B G T w fr ns sk 16384 st p c → ∃ x, x / 128 = p ∧ gw_way (ces (mes A B G T fr ns sk)) (ns + 1) (mwg w ns 16384) (enc st) x c := by
    rintro c ⟨u, hu, hw⟩
    have hul : u < 378 := by
      obtain ⟨l, l1, l2, l3⟩ := hw
      exact gw_lt hst hN l l1 u l2
    exact ⟨enc u, by rw [enc_pl u hul]; exact hu, (ces_way hN hst).mpr ⟨u, hul, rfl, hw⟩⟩
  intro m
  induction m with
  | zero =>
    intro t i D M ht hv hi hj hct hpl hf
    have ht' : t = 896 := by omega
    subst ht'
    rw [J_X10_leastTo_L19]
    refine ⟨fun _ => hQ i none (fun c hc => ?_) hf, fun hh => absurd (by decide) hh⟩
    exfalso
    obtain ⟨x, hx, hw⟩ := toC c hc
    have hxl : x < 896 := by
      obtain ⟨l, l1, l2, l3⟩ := hw
      exact gw_lt hes hN2 l l1 x l2
    have := fb_ct_all.mp (Nat.le_antisymm (fb_ct_le (gk 1073741824 D M) 896) hct) x hxl
    exact hpl x hxl this hx
  | succ m ih =>
    intro t i D M ht hv hi hj hct hpl hf
    have hD := hi.2.1
    rw [J_X10_leastTo_L19]
    refine ⟨fun hh => absurd hh (nI_ge (b := 896) (by omega) (by decide)), fun _ => ⟨_, hg.1 _ (by decide) _ (by decide) _ rfl, sp_take (hg23 hg) hv hD (fun hM => ?_) (fun x i1 hx hm hl hv1 hf1 => ?_)⟩⟩
    · refine ⟨fun _ => ?_, fun hh => absurd rfl hh⟩
      rw [J_X10_leastTo_L56]
      refine hQ i none (fun c hc => ?_) hf
      obtain ⟨x, hx, hw⟩ := toC c hc
      obtain ⟨hxl, hd⟩ := gi_done hes hN2 hi hM hw
      right
      rcases Nat.lt_or_ge (D x) 1073741824 with hlt | hge
      · exact absurd hx (hpl x hxl (gk_t.mpr ⟨hlt, hM x hxl⟩))
      · omega
    · have hdx := hi.2.2.1 x hx hm
      obtain ⟨u, hu, rfl, hwu⟩ := (ces_way hN hst).mp (hi.2.2.2.1 x hx hdx)
      have hkey : ∀ c, wcs A B G T w fr ns sk 16384 st p c → D (enc u) ≤ c ∨ 1073741824 ≤ c := by
        intro c hc
        obtain ⟨z, hz, hw⟩ := toC c hc
        obtain ⟨hzl, hh⟩ := gi_key hes hN2 hi (by decide) hl hw
        rcases hh with ⟨a1, a2, a3⟩ | h | h
        · exact absurd hz (hpl z hzl (gk_t.mpr ⟨a2, a1⟩))
        · exact Or.inl h
        · exact Or.inr h
      refine ⟨fun hh => absurd hh (nI_m1 (by omega)), fun _ => ⟨_, hg.1 _ (by decide) _ (by decide) _ rfl, sp_costOf (hg23 hg) hv1 hx (pk_le (D (enc u)) most (fun hle => sp_placeOf hu ?_) (fun hlt => ?_))⟩⟩
      · refine ⟨fun hne => ?_, fun heq => ⟨_, hg.1 _ (by decide) _ (by decide) _ rfl, sp_costOf (hg23 hg) hv1 hx ?_⟩⟩
        · have hne' : u % 7 ≠ p := fun z => hne (by rw [z])
          have hi1 := gi_pop hi hx hm
          have hj1 := gj_pop hj hx hm hl
          have hct1 := gk_pop (F := 1073741824) (D := D) hx hm hdx
          rw [J_X10_offerNext]
          refine ⟨ns + 1, lp_offNext (G0 := gk 1073741824 D (sU M (enc u) false)) hg tc hga hw hT hst hu (fun i2 D2 M2 hv2 hi2 hj2 hk2 hf2 => ?_) ns 0 i1 D _ (by omega) hv1 hi1 hj1 (fun _ _ => rfl) (hf.tr hf1)⟩
          have fin : ∀ (i3 : jI) (D3 : Nat → Nat) (M3 : Nat → Bool), hpv i3 23 24 25 26 896 D3 M3 → gi_P 896 (ns + 1) 1073741824 (ces (mes A B G T fr ns sk)) (mwg w ns 16384) (enc st) D3 M3 (enc u) (ns + 1) → gj_P 896 1073741824 D3 M3 (enc u) → (∀ x, x < 896 → gk 1073741824 D3 M3 x = gk 1073741824 D (sU M (enc u) false) x) → hF 23 24 25 26 i0 i3 → J_X10_leastTo_L116 len r Q (J_X10_leastTo_L19 len r Q (m + 1)) i3 j 22 3 16 (nI p) (nI most) (if sk = true then 1 else 0) (nI t) := by
            intro i3 D3 M3 hv3 hi3 hj3 hk3 hf3
            rw [J_X10_leastTo_L116]
            intro v ev
            rw [nI_1] at ev
            subst ev
            refine ih (t + 1) i3 D3 M3 (by omega) hv3 (gi_close hi3) (gj_close hj3) ?_ (fun z hz hgz => ?_) hf3
            · rw [fb_ct_cong hk3, hct1]; omega
            · rw [hk3 z hz] at hgz
              by_cases e : z = enc u
              · subst e; rw [enc_pl u hu]; exact hne'
              · refine hpl z hz ?_
                unfold gk at hgz ⊢
                rw [sU_ne e] at hgz
                exact hgz
          have hes2 : mes A B G T fr ns sk u ns = if sk = true then some (mtr u) else none := by unfold mes; rw [if_neg (Nat.lt_irrefl ns)]
          have ce := ces_enc (es := mes A B G T fr ns sk) u ns hu
          rw [hes2] at ce
          have e2 : mwg w ns 16384 ns = 16384 := if_neg (Nat.lt_irrefl ns)
          cases sk with
          | false =>
            refine ⟨fun _ => fin i2 D2 M2 hv2 (gi_none hi2 ce) hj2 hk2 hf2, fun hh => absurd rfl hh⟩
          | true =>
            refine ⟨fun hh => absurd hh (by decide), fun _ => ⟨_, hg.1 _ (by decide) _ (by decide) _ rfl, sp_skipped hu ⟨_, hg.1 _ (by decide) _ (by decide) _ rfl, sp_costOf (hg23 hg) hv2 hx ?_⟩⟩⟩
            have htl := mtr_lt u hu
            have hel := enc_lt _ htl
            obtain ⟨p1, p2⟩ := gi_off hi2 (by omega) ce hel
            rw [e2] at p1 p2
            have hDu := hi2.2.2.2.2.2.2.1
            rw [show (16384 : Int32) = nI 16384 from by decide, nI_add]
            exact sp_offer (hg23 hg) hv2 hi2.2.1 hel (by omega) (fun i3 hv3 hf3 => fin i3 _ _ hv3 p1 (gj_off hj2 p2) (fun z hz => (gk_off hj2 z hz).trans (hk2 z hz)) (hf2.tr hf3))
        · have heq' : u % 7 = p := (nI_eq (by omega) (by omega)).mp heq
          refine hQ i1 (some (D (enc u))) ⟨⟨u, heq', hwu⟩, hle, fun c' hc' => ?_⟩ (hf.tr hf1)
          rcases hkey c' hc' with h | h <;> omega
      · rw [J_X10_leastTo_L56]
        refine hQ i1 none (fun c hc => ?_) (hf.tr hf1)
        rcases hkey c hc with h | h
        · left; omega
        · exact Or.inr h
theorem sp_leastTo {Q : Int32 → jI → jL → Prop} {i : jI} (hg : Gr r len) (tc : TC i ns A B G P fr) (hga : ga i 17 18 ns w T) (hw : ∀ s, s < ns → w s ≤ 64) (hT : ∀ s, s < ns → T s < 2) (hst : st < 378) (hp : p < 7) (hmost : most ≤ 1073741824) (hQ : ∀ i' o, lsm (wcs A B G T w fr ns sk 16384 st p) most o → hF 23 24 25 26 i i' → Q (bo o) i' j) : J_X10_leastTo len r Q i j 22 3 16 (nI (enc st)) (nI p) (nI most) (if sk = true then 1 else 0) := by
  have hes := enc_lt st hst
  rw [J_X10_leastTo]
  refine ⟨_, hg.1 _ (by decide) _ (by decide) _ rfl, sp_clear (hg23 hg) (fun i1 hv1 hf1 => ⟨_, hg.1 _ (by decide) _ (by decide) _ rfl, ?_⟩)⟩
  refine sp_offer (k := 0) (hg23 hg) hv1 (fun _ _ => Nat.le_refl _) hes (by decide) (fun i2 hv2 hf2 => ?_)
  have eD : dD (fun _ => 1073741824) (enc st) 0 = sU (fun _ => 1073741824) (enc st) 0 := if_pos (show 0 < 1073741824 by decide)
  have eM : dM (fun _ => 1073741824) (fun _ => false) (enc st) 0 = sU (fun _ => false) (enc st) true := if_pos (show 0 < 1073741824 by decide)
  rw [eD, eM] at hv2
  have hi := gi_start (m := ns + 1) (es := ces (mes A B G T fr ns sk)) (wt := mwg w ns 16384) hes (show 0 < 1073741824 by decide)
  have noset : ∀ x, ¬ gk 1073741824 (sU (fun _ => 1073741824) (enc st) 0) (sU (fun _ => false) (enc st) true) x = true := by
    intro x hx
    rw [gk_t] at hx
    by_cases e : x = enc st
    · subst e; have := hx.2; rw [sU_eq] at this; cases this
    · have := hx.1; rw [sU_ne e] at this; exact absurd this (Nat.lt_irrefl _)
  exact ⟨897, lp_least hg tc hga hw hT hst hp hmost hQ 896 0 i2 _ _ (by omega) hv2 hi (fun x y hx hy h1 h2 => absurd (gk_t.mpr ⟨h2, h1⟩) (noset x)) (Nat.zero_le _) (fun x _ hgx => absurd hgx (noset x)) (hf1.tr hf2)⟩
end Least
