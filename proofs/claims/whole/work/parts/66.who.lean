/-! who it was: prints PR 0 .. PR (np - 1), each 4 gate + 2 way + foot -/
def stp (A B G T PR : Nat → Nat) (fr : Bool) (ns m x s y : Nat) : Prop := s < ns ∧ G s = PR m / 4 + 1 ∧ (PR m / 2 % 2 = 0 ↔ A s = x % 7) ∧ mbeh A B G T fr x s = some y ∧ y / 7 % 2 = PR m % 2
/-- one stands at u behind m prints -/
def ch (A B G T PR : Nat → Nat) (fr : Bool) (ns st : Nat) : Nat → Nat → Prop
  | 0, u => u = st
  | m + 1, u => ∃ u' x s, ch A B G T PR fr ns st m u' ∧ re (rs A B G (fun s => 2 ^ T s) fr false) (2 * ns) u' x ∧ stp A B G T PR fr ns m x s u
theorem mk_ext : ∀ x, x < 378 → x = x % 7 + 7 * (x / 7 % 2) + 14 * mmark x 0 + 42 * mmark x 1 + 126 * mmark x 2 := by decide +kernel
theorem mmv_ext : ∀ u, u < 378 → ∀ p, p < 7 → ∀ f, f < 2 → mmv u p f = p + 7 * f + 14 * mmark u 0 + 42 * mmark u 1 + 126 * mmark u 2 := by decide +kernel
section Ch
variable {A B G T PR : Nat → Nat} {fr : Bool} {ns st u x : Nat}
theorem re_mk (tok : Tok ns A B G) (hu : u < 378) (h : re (rs A B G (fun s => 2 ^ T s) fr false) (2 * ns) u x) : x < 378 ∧ ∀ g, g < 3 → mmark x g = mmark u g := by
  refine re_ind (P := fun x => x < 378 ∧ ∀ g, g < 3 → mmark x g = mmark u g) ⟨hu, fun _ _ => rfl⟩ ?_ h
  rintro x a y _ ⟨hx, hm⟩ ha he
  refine ⟨rs_lt tok ha hx he, fun g hg => ?_⟩
  unfold rs at he
  split at he
  · rename_i hh
    obtain ⟨t1, t2, -, t3⟩ := tok.2 (a / 2) (by omega)
    have h0 : G (a / 2) = 0 := hh.1.resolve_left (by decide)
    rw [(mbeh_pl hx t1 t2 t3 he).2.2 g hg (Or.inl h0)]
    exact hm g hg
  · cases he
theorem ch_lt (tok : Tok ns A B G) (hst : st < 378) : ∀ m u, ch A B G T PR fr ns st m u → u < 378 := by
  intro m
  induction m with
  | zero => intro u h; rw [show u = st from h]; exact hst
  | succ m ih =>
    rintro u ⟨u', x, s, h1, h2, h3⟩
    have hx := (re_mk tok (ih u' h1) h2).1
    obtain ⟨t1, t2, -, t3⟩ := tok.2 s h3.1
    exact mbeh_lt hx t1 t2 t3 h3.2.2.2.1
theorem ch_none {m : Nat} (h : ¬ ∃ u, ch A B G T PR fr ns st m u) : ∀ k, ¬ ∃ u, ch A B G T PR fr ns st (m + k) u := by
  intro k
  induction k with
  | zero => exact h
  | succ k ih =>
    rintro ⟨u, u', x, s, h1, -⟩
    exact ih ⟨u', h1⟩
end Ch
theorem pr_g : ∀ v, v < 12 → nI v >>> ((2 : Int32) &&& 31) = nI (v / 4) := by decide +kernel
theorem pr_w : ∀ v, v < 12 → (nI v >>> ((1 : Int32) &&& 31)) &&& (1 : Int32) = nI (v / 2 % 2) := by decide +kernel
theorem pr_f : ∀ v, v < 12 → nI v &&& (1 : Int32) = nI (v % 2) := by decide +kernel
section WhoC
variable {len : Nat → Nat} {r : jR} {i : jI} {ns ng np st : Nat} {A B G P T PR wt : Nat → Nat} {fr : Bool}
theorem lp_prints {Q : Int32 → jI → jL → Prop} (hg : Gr r len) (hrt : RT i ns ng A B G P fr) (hga : ga i 17 18 ns wt T) (hT : ∀ s, s < ns → T s < 2) (htn : ∀ s, s < ns → i 29 s = nI (2 ^ T s)) (hst : st < 378) (hnp : np ≤ 6) (e5 : i 0 5 = nI np) (hPR : ∀ q, q < np → i 10 q = nI (PR q) ∧ PR q < 4 * ng) (hQ1 : (∃ u, ch A B G T PR fr ns st np u) → ∀ j', Q 1 i j') (hQ0 : (¬ ∃ u, ch A B G T PR fr ns st np u) → ∀ j', Q 0 i j') : ∀ (m q : Nat) (u : Nat) (j : jL), q + m = np → ch A B G T PR fr ns st q u → (∀ u', ch A B G T PR fr ns st q u' → u' = u) → J_X11_couldLeavePrints_L40 len r Q (m + 1) i j 0 (nI (enc u)) (nI q) := by
  obtain ⟨-, tc, hP9, ⟨-, -, hng⟩, -, hgate, hin⟩ := hrt
  have hn := tc.2.1
  have tok := tc.tok
  intro m
  induction m with
  | zero =>
    intro q u j hq hch huq
    have hq' : q = np := by omega
    subst hq'
    rw [J_X11_couldLeavePrints_L40]
    dsimp only
    rw [e5]
    exact ⟨fun _ => hQ1 ⟨u, hch⟩ j, fun hh => absurd (nI_le (Nat.le_refl _) (by omega)) hh⟩
  | succ m ih =>
    intro q u j hq hch huq
    have hqn : q < np := by omega
    have hu := ch_lt tok hst q u hch
    obtain ⟨p1, p2⟩ := hPR q hqn
    obtain ⟨s, hs, hGs, e8⟩ := hgate (PR q / 4) (by omega)
    obtain ⟨⟨c0, c1, c2, c3⟩, cA, cB, cAB, cP, cG⟩ := tc.2.2.2 s hs
    have eq : (nI q).toNatClampNeg = q := nI_clamp (by omega)
    have es : (nI s).toNatClampNeg = s := nI_clamp (by omega)
    have hvq : vp_in (nI q) 6 := vp_in_nI (by omega) (by decide)
    have hvs : vp_in (nI s) 10 := vp_in_nI (by omega) (by decide)
    -- from where on which foot: the rest
    have rest : ∀ p, p < 7 → ((PR q / 2 % 2 = 0 ∧ p = A s) ∨ (PR q / 2 % 2 = 1 ∧ p = B s)) → J_X11_couldLeavePrints_L102 len r Q (J_X11_couldLeavePrints_L40 len r Q (m + 1)) i j 0 (nI (enc u)) (nI q) (nI s) (nI p) := by
      intro p hp hway
      have hT2 := hT s hs
      have hf2 : (PR q % 2 + T s) % 2 < 2 := Nat.mod_lt _ (by decide)
      -- whoever leaves this print stands there
      have there : ∀ x s' y, re (rs A B G (fun s => 2 ^ T s) fr false) (2 * ns) u x → stp A B G T PR fr ns q x s' y → s' = s ∧ x % 7 = p ∧ x / 7 % 2 = (PR q % 2 + T s) % 2 ∧ x = mmv u p ((PR q % 2 + T s) % 2) := by
        rintro x s' y hre ⟨a1, a2, a3, a4, a5⟩
        have e := hin s' s a1 hs (a2.trans hGs.symm) (by omega)
        subst e
        obtain ⟨hx, hm⟩ := re_mk tok hu hre
        obtain ⟨b1, b2, b3⟩ := mbeh_pl hx cA cB cG a4
        have hxp : x % 7 = p := by
          rcases hway with ⟨w1, w2⟩ | ⟨w1, w2⟩
          · rw [w2]; exact (a3.mp w1).symm
          · rw [w2]
            rcases b1 with z | z
            · have := a3.mpr z.1; omega
            · exact z.1.symm
        have hxf : x / 7 % 2 = (PR q % 2 + T s') % 2 := by omega
        refine ⟨rfl, hxp, hxf, ?_⟩
        rw [mmv_ext u hu p hp _ hf2, mk_ext x hx, hxp, hxf, hm 0 (by decide), hm 1 (by decide), hm 2 (by decide)]
      rw [J_X11_couldLeavePrints_L102]
      refine ⟨10, hg.1 _ (by decide) _ (by decide) _ rfl, by rw [hg.2 _ (by decide)]; exact hvq, ?_⟩
      rw [eq, p1, J_X11_footOfPrint, pr_f _ (by omega)]
      refine ⟨16, hg.1 _ (by decide) _ (by decide) _ rfl, 18, hg.1 _ (by decide) _ (by decide) _ rfl, by rw [hg.2 _ (by decide)]; exact hvs, fun v ev => ?_⟩
      rw [es, (hga s hs).2, fx2 _ (by omega) _ hT2] at ev
      subst ev
      refine ⟨27, hg.1 _ (by decide) _ (by decide) _ rfl, 3, hg.1 _ (by decide) _ (by decide) _ rfl, ?_⟩
      refine sp_spread (tn := fun s => 2 ^ T s) (thr := false) hg tc (fun s hs => ⟨htn s hs, p2lt _ (hT s hs)⟩) hu (fun j1 hR hj => ⟨27, hg.1 _ (by decide) _ (by decide) _ rfl, ?_⟩)
      refine sp_hasStand hg hR hp hf2 (fun hno => ⟨fun hh => absurd rfl hh, fun _ => hQ0 ?_ j1⟩) (fun hyes => ⟨fun _ => ⟨3, hg.1 _ (by decide) _ (by decide) _ rfl, ?_⟩, fun hh => absurd hh (by decide)⟩)
      · have : ¬ ∃ u', ch A B G T PR fr ns st (q + 1) u' := by
          rintro ⟨u', u0, x, s', h1, h2, h3⟩
          have e := huq u0 h1
          subst e
          obtain ⟨-, b1, b2, -⟩ := there x s' u' h2 h3
          exact hno ⟨x, (re_mk tok hu h2).1, h2, b1, b2⟩
        have hz := ch_none this (np - (q + 1))
        rw [show q + 1 + (np - (q + 1)) = np by omega] at hz
        exact hz
      · obtain ⟨x, hx, hre, hxp, hxf⟩ := hyes
        have hxe : x = mmv u p ((PR q % 2 + T s) % 2) := by
          obtain ⟨-, hm⟩ := re_mk tok hu hre
          rw [mmv_ext u hu p hp _ hf2, mk_ext x hx, hxp, hxf, hm 0 (by decide), hm 1 (by decide), hm 2 (by decide)]
        rw [J_X7_marksOf, J_X7_of, enc_of u hu p hp _ hf2, ← hxe]
        refine ⟨16, hg.1 _ (by decide) _ (by decide) _ rfl, 18, hg.1 _ (by decide) _ (by decide) _ rfl, by rw [hg.2 _ (by decide)]; exact hvs, ?_⟩
        rw [es, (hga s hs).2]
        refine sp_behC hg tc hT2 hx hs ?_
        have hb := fun st2 hh => mbeh_lt (T := fun _ => T s) (fr := fr) (st2 := st2) hx cA cB cG hh
        obtain ⟨o1, -⟩ := eo_none hb
        have eT : mbeh A B G T fr x s = mbeh A B G (fun _ => T s) fr x s := rfl
        cases hm1 : mbeh A B G (fun _ => T s) fr x s with
        | none =>
          refine ⟨fun hh => absurd rfl hh, fun _ => hQ0 ?_ j1⟩
          have : ¬ ∃ u', ch A B G T PR fr ns st (q + 1) u' := by
            rintro ⟨u', u0, x', s', h1, h2, h3⟩
            have e := huq u0 h1
            subst e
            obtain ⟨b0, -, -, b1⟩ := there x' s' u' h2 h3
            subst b0
            rw [← hxe] at b1
            subst b1
            have := h3.2.2.2.1
            rw [eT, hm1] at this
            cases this
          have hz := ch_none this (np - (q + 1))
          rw [show q + 1 + (np - (q + 1)) = np by omega] at hz
          exact hz
        | some y =>
          rw [hm1] at o1
          refine ⟨fun _ v ev => ?_, fun hh => (by cases o1.mp hh)⟩
          rw [nI_1] at ev
          subst ev
          have hy : mbeh A B G T fr x s = some y := eT.trans hm1
          obtain ⟨b1, b2, b3⟩ := mbeh_pl hx cA cB cG hy
          refine ih (q + 1) y j1 (by omega) ⟨u, x, s, hch, hre, hs, hGs, ?_, hy, by omega⟩ ?_
          · rcases hway with ⟨w1, w2⟩ | ⟨w1, w2⟩
            · exact ⟨fun _ => by rw [hxp, w2], fun _ => w1⟩
            · exact ⟨fun z => by omega, fun z => absurd (by rw [z, hxp, w2]) cAB⟩
          · rintro u' ⟨u0, x', s', h1, h2, h3⟩
            have e := huq u0 h1
            subst e
            obtain ⟨b0, -, -, b1⟩ := there x' s' u' h2 h3
            subst b0
            rw [← hxe] at b1
            subst b1
            have := h3.2.2.2.1
            rw [hy] at this
            cases this
            rfl
    rw [J_X11_couldLeavePrints_L40]
    dsimp only
    rw [e5]
    refine ⟨fun hh => absurd hh (nI_ge (by omega) (by omega)), fun _ => ⟨3, hg.1 _ (by decide) _ (by decide) _ rfl, 8, hg.1 _ (by decide) _ (by decide) _ rfl, 10, hg.1 _ (by decide) _ (by decide) _ rfl, by rw [hg.2 _ (by decide)]; exact hvq, ?_⟩⟩
    rw [eq, p1, J_X11_gateOfPrint, pr_g _ (by omega)]
    refine ⟨by rw [hg.2 _ (by decide)]; exact vp_in_nI (by show PR q / 4 < 3; omega) (by decide), fun v ev => ⟨10, hg.1 _ (by decide) _ (by decide) _ rfl, by rw [hg.2 _ (by decide)]; exact hvq, ?_⟩⟩
    rw [nI_clamp (by omega), e8] at ev
    subst ev
    rw [p1, J_X11_wayOfPrint, pr_w _ (by omega), es]
    refine ⟨fun hne => ⟨3, hg.1 _ (by decide) _ (by decide) _ rfl, 5, hg.1 _ (by decide) _ (by decide) _ rfl, by rw [hg.2 _ (by decide)]; exact hvs, ?_⟩, fun heq => ⟨3, hg.1 _ (by decide) _ (by decide) _ rfl, 4, hg.1 _ (by decide) _ (by decide) _ rfl, by rw [hg.2 _ (by decide)]; exact hvs, ?_⟩⟩
    · rw [c1]
      refine rest _ cB (Or.inr ⟨?_, rfl⟩)
      rcases (show PR q / 2 % 2 = 0 ∨ PR q / 2 % 2 = 1 by omega) with z | z
      · rw [z] at hne; exact absurd (by decide) hne
      · exact z
    · rw [c0]
      exact rest _ cA (Or.inl ⟨(nI_zero (by omega)).mp heq, rfl⟩)
end WhoC
/-- prints, read off the reference's row -/
def pro (i : jI) (q : Nat) : Nat := (i 45 q).toNatClampNeg
theorem RQ.fn {i : jI} {np ng : Nat} (h : RQ i np ng) (hng : ng ≤ 3) : ∀ q, q < np → i 45 q = nI (pro i q) ∧ i 10 q = nI (pro i q) ∧ pro i q < 4 * ng := by
  intro q hq
  obtain ⟨v, h1, h2, h3⟩ := h.2.2.2 q hq
  have e : pro i q = v := by unfold pro; rw [h2, nI_clamp (by omega)]
  rw [e]
  exact ⟨h2, h3, h1⟩
noncomputable def whF (A B G P PR KD ST : Nat → Nat) (fr : Bool) (ns np w : Nat) : Bool := dP (∃ u, ch A B G (fun s => mturn (KD w) (P s)) PR fr ns (ST w) np u)
section WhoC2
variable {len : Nat → Nat} {r : jR} {ns ng np nw : Nat} {A B G P PR KD ST : Nat → Nat} {fr : Bool}
theorem lp_whoC {Q : Int32 → jI → jL → Prop} {i0 : jI} (hg : Gr r len) (hrt : RT i0 ns ng A B G P fr) (hnp : np ≤ 6) (e5 : i0 0 5 = nI np) (hPR : ∀ q, q < np → i0 10 q = nI (PR q) ∧ PR q < 4 * ng) (hnw : nw ≤ 5) (e3 : i0 0 3 = nI nw) (hW : ∀ w, w < nw → RWk i0 w (KD w) (ST w)) (hQ : ∀ i' j', wF i0 i' → Q (nI (bs (whF A B G P PR KD ST fr ns np) nw)) i' j') : ∀ (m x : Nat) (i : jI) (j : jL), x + m = nw → wF i0 i → J_X11_who_L4 len r Q (m + 1) i j 0 (nI (bs (whF A B G P PR KD ST fr ns np) x)) (nI x) := by
  intro m
  induction m with
  | zero =>
    intro x i j hx hf
    have hx' : x = nw := by omega
    subst hx'
    rw [J_X11_who_L4]
    dsimp only
    rw [(hf 0 3 (by unfold kp; omega)).trans e3]
    exact ⟨fun _ => hQ i j hf, fun hh => absurd (nI_le (Nat.le_refl _) (by omega)) hh⟩
  | succ m ih =>
    intro x i j hx hf
    obtain ⟨q1, q2, q3, q4, q5, q6, q7⟩ := hW x (by omega)
    have ew : (nI x).toNatClampNeg = x := nI_clamp (by omega)
    have fin : ∀ z i' j', wF i0 i' → z = bs (whF A B G P PR KD ST fr ns np) (x + 1) → J_X11_who_L31 len r Q (J_X11_who_L4 len r Q (m + 1)) i' j' 0 (nI z) (nI x) := by
      intro z i' j' hf' hz
      subst hz
      rw [J_X11_who_L31]
      intro v ev
      rw [nI_1] at ev
      subst ev
      exact ih (x + 1) i' j' (by omega) hf'
    rw [J_X11_who_L4]
    dsimp only
    rw [(hf 0 3 (by unfold kp; omega)).trans e3]
    refine ⟨fun hh => absurd hh (nI_ge (by omega) (by omega)), fun _ => ⟨9, hg.1 _ (by decide) _ (by decide) _ rfl, by rw [hg.2 _ (by decide)]; exact vp_in_nI (by simp only [LL]; omega) (by decide), 32 + x, by rw [ew]; exact hg.1 9 (by decide) x (by omega) _ (RR9 x (by omega)), ?_⟩⟩
    have e0 : i (32 + x) 0 = nI (KD x) := (hf _ _ (by unfold kp; omega)).trans q4
    have e1 : i (32 + x) 1 = nI (enc (ST x)) := (hf _ _ (by unfold kp; omega)).trans q6
    rw [J_X11_couldLeavePrints, e0]
    refine ⟨16, hg.1 _ (by decide) _ (by decide) _ rfl, 3, hg.1 _ (by decide) _ (by decide) _ rfl, sp_gait hg (hg16 hg) (hrt.2.1.wf hf) q1 (fun i1 f1 ga1 => ⟨27, hg.1 _ (by decide) _ (by decide) _ rfl, 16, hg.1 _ (by decide) _ (by decide) _ rfl, 3, hg.1 _ (by decide) _ (by decide) _ rfl, ?_⟩)⟩
    have tc1 : TC i1 ns A B G P fr := (hrt.2.1.wf hf).wf (gF.wf f1)
    rw [tc1.1]
    refine sp_rtake hg tc1.2.1 ga1 (fun s _ => mtn_lt _ _) (fun i2 f2 t2 v ev => ?_)
    rw [f2 (32 + x) 1 (by omega), f1 (32 + x) 1 (by omega) (by omega), e1] at ev
    subst ev
    have hf2 : wF i0 i2 := hf.tr ((gF.wf f1).tr (tF.wf f2))
    have ga2 : ga i2 17 18 ns (fun s => mstep (KD x) (P s)) (fun s => mturn (KD x) (P s)) := fun s hs => by
      rw [f2 17 s (by decide), f2 18 s (by decide)]
      exact ga1 s hs
    refine ⟨np + 1, lp_prints (T := fun s => mturn (KD x) (P s)) (st := ST x) hg (hrt.cong hf2.sm.1) ga2 (fun s _ => mtn_lt _ _) t2 q2 hnp ((hf2 _ _ (by unfold kp; omega)).trans e5) (fun q hq => ⟨(hf2 _ _ (by unfold kp; omega)).trans (hPR q hq).1, (hPR q hq).2⟩) (fun hyes j' => ⟨fun hh => absurd hh (by decide), fun _ v ev => ?_⟩) (fun hno j' => ⟨fun _ => fin _ i2 j' hf2 ?_, fun hh => absurd rfl hh⟩) np 0 (ST x) j (by omega) rfl (fun u' h => h)⟩
    · rw [nI_setb (bs_lt _ _) (by omega)] at ev
      subst ev
      refine fin _ i2 j' hf2 ?_
      rw [bs, if_pos (show whF A B G P PR KD ST fr ns np x = true from dP_t.mpr hyes)]
    · rw [bs, if_neg (show ¬ whF A B G P PR KD ST fr ns np x = true from fun z => hno (dP_t.mp z)), Nat.add_zero]
end WhoC2
