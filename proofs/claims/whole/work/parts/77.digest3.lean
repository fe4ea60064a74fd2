section DgLoopM
variable {len : Nat → Nat} {r : jR} {i0 : jI} {Q : Int64 → jI → jL → Prop} {ns nt nw np pl : Nat} {cf lf : Nat → Int32} {wv e0 e1 : Int32} {PR : Nat → Nat} {wkf : Nat → Int64 → Int64} {stf : Nat → Nat → Int32}
theorem sp_mix {Q : jI → jL → Prop} {i : jI} {j : jL} {h : Int64} {v : Int32} (hh : j 37 50 = h) (hQ : ∀ j', j' 37 50 = mx h v → Q i j') : J_X12_mix len r Q i j 37 v.toInt64 := by
  rw [J_X12_mix]
  intro j1 e1
  refine hQ j1 ?_
  rw [e1, jul_eq, pk_uLs, hh]
  rfl
theorem dm7 {h0 : Int64} (hrow : ∀ (Q : Int32 → jI → jL → Prop) i j a, a < 8 → wF i0 i → Q (cf a) i j → J_X12_howMany len r Q i j 37 (nI a)) (hQ : ∀ i' j', wF i0 i' → Q (D7 cf h0) i' j') : ∀ (m a : Nat) (i : jI) (j : jL), a + m = 8 → wF i0 i → j 37 50 = itr (fun a h => mx h (cf a)) a h0 → J_X12_digest_L192 len r Q (m + 1) i j 37 (nI a) := by
  intro m
  induction m with
  | zero =>
    intro a i j ha hf hj
    have : a = 8 := by omega
    subst this
    rw [J_X12_digest_L192]
    dsimp only
    rw [hj]
    exact ⟨fun _ => hQ i j hf, fun hh => absurd (by decide) hh⟩
  | succ m ih =>
    intro a i j ha hf hj
    rw [J_X12_digest_L192]
    refine ⟨fun hh => absurd hh (nI_ge (b := 8) (by omega) (by decide)), fun _ => hrow _ i j a (by omega) hf (sp_mix hj (fun j1 h1 v ev => ?_))⟩
    rw [nI_1] at ev
    subst ev
    exact ih (a + 1) i j1 (by omega) hf h1
theorem dm6 {h0 : Int64} (hg : Gr r len) (hpl : pl ≤ 50) (epl : i0 37 15 = nI pl) (hl : ∀ q, q < pl → i0 46 q = lf q) (hrow : ∀ (Q : Int32 → jI → jL → Prop) i j a, a < 8 → wF i0 i → Q (cf a) i j → J_X12_howMany len r Q i j 37 (nI a)) (hQ : ∀ i' j', wF i0 i' → Q (D6 cf lf pl h0) i' j') : ∀ (m q : Nat) (i : jI) (j : jL), q + m = pl → wF i0 i → j 37 50 = itr (fun q h => mx h (lf q)) q h0 → J_X12_digest_L165 len r Q (m + 1) i j 37 (nI q) := by
  intro m
  induction m with
  | zero =>
    intro q i j hq hf hj
    have : q = pl := by omega
    subst this
    rw [J_X12_digest_L165]
    dsimp only
    rw [(hf 37 15 (by unfold kp; omega)).trans epl]
    exact ⟨fun _ => ⟨9, dm7 hrow hQ 8 0 i j (by omega) hf hj⟩, fun hh => absurd (nI_le (Nat.le_refl _) (by omega)) hh⟩
  | succ m ih =>
    intro q i j hq hf hj
    rw [J_X12_digest_L165]
    dsimp only
    rw [(hf 37 15 (by unfold kp; omega)).trans epl]
    refine ⟨fun hh => absurd hh (nI_ge (by omega) (by omega)), fun _ => ⟨46, hg.1 _ (by decide) _ (by decide) _ rfl, by rw [hg.2 _ (by decide)]; exact vp_in_nI (show q < 50 by omega) (by decide), ?_⟩⟩
    rw [nI_clamp (by omega), (hf 46 q (by unfold kp; omega)).trans (hl q (by omega))]
    refine sp_mix hj (fun j1 h1 v ev => ?_)
    rw [nI_1] at ev
    subst ev
    exact ih (q + 1) i j1 (by omega) hf h1
theorem pm_g : ∀ v, v < 12 → nI v / (4 : Int32) = nI (v / 4) := by decide +kernel
theorem pm_w : ∀ v, v < 12 → (nI v / (2 : Int32)) - (nI v / (2 : Int32)) / (2 : Int32) * (2 : Int32) = nI (v / 2 % 2) := by decide +kernel
theorem pm_f : ∀ v, v < 12 → nI v - nI v / (2 : Int32) * (2 : Int32) = nI (v % 2) := by decide +kernel
theorem dm4 {h0 : Int64} (hg : Gr r len) (hpl : pl ≤ 50) (epl : i0 37 15 = nI pl) (hl : ∀ q, q < pl → i0 46 q = lf q) (hnp : np ≤ 6) (e5 : i0 37 12 = nI np) (hp : ∀ q, q < np → i0 45 q = nI (PR q) ∧ PR q < 12) (hwho : ∀ (Q : Int32 → jI → jL → Prop) i j, wF i0 i → (∀ i', wF i0 i' → Q wv i' j) → J_X12_whoNow len r Q i j 37) (hrow : ∀ (Q : Int32 → jI → jL → Prop) i j a, a < 8 → wF i0 i → Q (cf a) i j → J_X12_howMany len r Q i j 37 (nI a)) (hQ : ∀ i' j', wF i0 i' → Q (D4 cf lf pl wv PR np h0) i' j') : ∀ (m q : Nat) (i : jI) (j : jL), q + m = np → wF i0 i → j 37 50 = itr (fun q h => mx (mx (mx h (nI (PR q / 4))) (nI (PR q / 2 % 2))) (nI (PR q % 2))) q h0 → J_X12_digest_L99 len r Q (m + 1) i j 37 (nI q) := by
  intro m
  induction m with
  | zero =>
    intro q i j hq hf hj
    have : q = np := by omega
    subst this
    rw [J_X12_digest_L99]
    dsimp only
    rw [(hf 37 12 (by unfold kp; omega)).trans e5]
    refine ⟨fun _ => hwho _ i j hf (fun i' hf' => sp_mix hj (fun j1 h1 => ⟨pl + 1, ?_⟩)), fun hh => absurd (nI_le (Nat.le_refl _) (by omega)) hh⟩
    exact dm6 (h0 := mx _ wv) hg hpl epl hl hrow hQ pl 0 i' j1 (by omega) hf' h1
  | succ m ih =>
    intro q i j hq hf hj
    obtain ⟨p1, p2⟩ := hp q (by omega)
    have ec : (nI q).toNatClampNeg = q := nI_clamp (by omega)
    have hv : vp_in (nI q) 6 := vp_in_nI (by omega) (by decide)
    have e45 : i 45 q = nI (PR q) := (hf 45 q (by unfold kp; omega)).trans p1
    rw [J_X12_digest_L99]
    dsimp only
    rw [(hf 37 12 (by unfold kp; omega)).trans e5, ec]
    refine ⟨fun hh => absurd hh (nI_ge (by omega) (by omega)), fun _ => ⟨45, hg.1 _ (by decide) _ (by decide) _ rfl, by rw [hg.2 _ (by decide)]; exact hv, ?_⟩⟩
    rw [e45, pm_g _ p2]
    refine sp_mix hj (fun j1 h1 => ⟨45, hg.1 _ (by decide) _ (by decide) _ rfl, by rw [hg.2 _ (by decide)]; exact hv, ?_⟩)
    rw [e45, pm_w _ p2]
    refine sp_mix h1 (fun j2 h2 => ⟨45, hg.1 _ (by decide) _ (by decide) _ rfl, by rw [hg.2 _ (by decide)]; exact hv, ?_⟩)
    rw [e45, pm_f _ p2]
    refine sp_mix h2 (fun j3 h3 v ev => ?_)
    rw [nI_1] at ev
    subst ev
    exact ih (q + 1) i j3 (by omega) hf h3
theorem dm2 {h0 : Int64} (hg : Gr r len) (hpl : pl ≤ 50) (epl : i0 37 15 = nI pl) (hl : ∀ q, q < pl → i0 46 q = lf q) (hnp : np ≤ 6) (e5 : i0 37 12 = nI np) (hp : ∀ q, q < np → i0 45 q = nI (PR q) ∧ PR q < 12) (hnt : nt < 2 ^ 31) (e7 : i0 37 7 = nI nt) (hntns : nt = 0 ↔ ns = 0) (heven : ∀ (Q : Int32 → jI → jL → Prop) i j, wF i0 i → (Q e0 i j → J_X12_evenNow len r Q i j 37 (nI 0) (nI 0)) ∧ (Q e1 i j → J_X12_evenNow len r Q i j 37 (nI 0) (nI 1))) (hnw : nw ≤ 5) (e8 : i0 37 8 = nI nw) (hwk : ∀ (Q : jI → jL → Prop) i j w h, w < nw → wF i0 i → j 37 50 = h → (∀ i' j', wF i0 i' → j' 37 50 = wkf w h → Q i' j') → J_X12_mixWalker len r Q i j 37 (nI w)) (hwho : ∀ (Q : Int32 → jI → jL → Prop) i j, wF i0 i → (∀ i', wF i0 i' → Q wv i' j) → J_X12_whoNow len r Q i j 37) (hrow : ∀ (Q : Int32 → jI → jL → Prop) i j a, a < 8 → wF i0 i → Q (cf a) i j → J_X12_howMany len r Q i j 37 (nI a)) (hQ : ∀ i' j', wF i0 i' → Q (D2 cf lf pl wv PR np ns e0 e1 wkf nw h0) i' j') : ∀ (m w : Nat) (i : jI) (j : jL), w + m = nw → wF i0 i → j 37 50 = itr wkf w h0 → J_X12_digest_L49 len r Q (m + 1) i j 37 (nI w) := by
  intro m
  induction m with
  | zero =>
    intro w i j hw hf hj
    have : w = nw := by omega
    subst this
    rw [J_X12_digest_L49]
    dsimp only
    rw [(hf 37 8 (by unfold kp; omega)).trans e8, (hf 37 7 (by unfold kp; omega)).trans e7]
    refine ⟨fun _ => ?_, fun hh => absurd (nI_le (Nat.le_refl _) (by omega)) hh⟩
    unfold D2 D3 at hQ
    by_cases h0' : ns = 0
    · rw [if_pos h0'] at hQ
      have hn0 := hntns.mpr h0'
      refine ⟨fun _ => ?_, fun hh => absurd (by rw [hn0]; decide) hh⟩
      rw [J_X12_digest_L97]
      exact ⟨np + 1, dm4 hg hpl epl hl hnp e5 hp hwho hrow hQ np 0 i j (by omega) hf hj⟩
    · rw [if_neg h0'] at hQ
      have hn0 : nt ≠ 0 := fun z => h0' (hntns.mp z)
      refine ⟨fun hh => absurd hh (nI_nle (by omega) hnt), fun _ => (heven _ i j hf).1 (sp_mix hj (fun j1 h1 => (heven _ i j1 hf).2 (sp_mix h1 (fun j2 h2 => ?_))))⟩
      rw [J_X12_digest_L97]
      exact ⟨np + 1, dm4 (h0 := mx (mx (itr wkf w h0) e0) e1) hg hpl epl hl hnp e5 hp hwho hrow hQ np 0 i j2 (by omega) hf h2⟩
  | succ m ih =>
    intro w i j hw hf hj
    rw [J_X12_digest_L49]
    dsimp only
    rw [(hf 37 8 (by unfold kp; omega)).trans e8]
    refine ⟨fun hh => absurd hh (nI_ge (by omega) (by omega)), fun _ => hwk _ i j w _ (by omega) hf hj (fun i' j' hf' hj' v ev => ?_)⟩
    rw [nI_1] at ev
    subst ev
    exact ih (w + 1) i' j' (by omega) hf' hj'
theorem dm20 {Hd : jI → jL → Nat → Int32 → Prop} {h0 : Int64} {s : Nat} {i : jI} (hrow : ∀ (Q : Int32 → jI → jL → Prop) j a, a < 4 → Q (stf s a) i j → J_X12_streetNow len r Q i j 37 (nI s) (nI a)) (hQ : ∀ j', j' 37 50 = itr (fun a h => mx h (stf s a)) 4 h0 → Hd i j' 37 (nI (s + 1))) : ∀ (m a : Nat) (j : jL), a + m = 4 → j 37 50 = itr (fun a h => mx h (stf s a)) a h0 → J_X12_digest_L19 len r Q Hd (m + 1) i j 37 (nI s) (nI a) := by
  intro m
  induction m with
  | zero =>
    intro a j ha hj
    have : a = 4 := by omega
    subst this
    rw [J_X12_digest_L19]
    refine ⟨fun _ v ev => ?_, fun hh => absurd (by decide) hh⟩
    rw [nI_1] at ev
    subst ev
    exact hQ j hj
  | succ m ih =>
    intro a j ha hj
    rw [J_X12_digest_L19]
    refine ⟨fun hh => absurd hh (nI_ge (b := 4) (by omega) (by decide)), fun _ => hrow _ j a (by omega) (sp_mix hj (fun j1 h1 v ev => ?_))⟩
    rw [nI_1] at ev
    subst ev
    exact ih (a + 1) j1 (by omega) h1
theorem dm1 {j : jL} (hns : ns ≤ 10) (e30 : i0 37 0 = nI ns) (hst : ∀ (Q : Int32 → jI → jL → Prop) j s a, s < ns → a < 4 → Q (stf s a) i0 j → J_X12_streetNow len r Q i0 j 37 (nI s) (nI a)) (hend : ∀ j', j' 37 50 = itr (fun s h => itr (fun a h => mx h (stf s a)) 4 h) ns 619 → ∃ g, J_X12_digest_L49 len r Q g i0 j' 37 0) : J_X12_digest len r Q i0 j 37 := by
  have loop : ∀ (m s : Nat) (j : jL), s + m = ns → j 37 50 = itr (fun s h => itr (fun a h => mx h (stf s a)) 4 h) s 619 → J_X12_digest_L9 len r Q (m + 1) i0 j 37 (nI s) := by
    intro m
    induction m with
    | zero =>
      intro s j hs hj
      have : s = ns := by omega
      subst this
      rw [J_X12_digest_L9]
      dsimp only
      rw [e30]
      exact ⟨fun _ => hend j hj, fun hh => absurd (nI_le (Nat.le_refl _) (by omega)) hh⟩
    | succ m ih =>
      intro s j hs hj
      rw [J_X12_digest_L9]
      dsimp only
      rw [e30]
      refine ⟨fun hh => absurd hh (nI_ge (by omega) (by omega)), fun _ => ⟨5, ?_⟩⟩
      exact dm20 (fun Q j a ha => hst Q j s a (by omega) ha) (fun j' hj' => ih (s + 1) j' (by omega) hj') 4 0 j (by omega) hj
  rw [J_X12_digest]
  intro j1 e1
  exact ⟨ns + 1, loop ns 0 j1 (by omega) (by rw [e1, jul_eq, pk_uLs]; rfl)⟩
end DgLoopM
section DgWalkM
variable {len : Nat → Nat} {r : jR} {ns nw : Nat} {A B G P KD ST : Nat → Nat} {SK : Nat → Int32} {fr : Bool}
theorem dmw {Q : jI → jL → Prop} {i : jI} {j : jL} {w : Nat} {h0 : Int64} (hg : Gr r len) (tm : TM i ns A B G P fr) (hw : w < 5) (hk : RWk i w (KD w) (ST w)) (hsk : i 44 w = SK w) (hj : j 37 50 = h0) (hQ : ∀ i' j', wF i i' → j' 37 50 = wkv A B G P KD ST SK fr ns w h0 → Q i' j') : J_X12_mixWalker len r Q i j 37 (nI w) := by
  obtain ⟨q1, q2, q3, q4, q5, q6, q7⟩ := id hk
  have e0 : ∀ i', wF i i' → i' 42 w = nI (KD w) := fun i' hf => (hf _ _ (by unfold kp; omega)).trans q3
  have e1 : ∀ i', wF i i' → i' 43 w = nI (ST w) := fun i' hf => (hf _ _ (by unfold kp; omega)).trans q5
  have loop : ∀ (m a : Nat) (j : jL), a + m = 7 → j 37 50 = itr (fun a h => mx h (abv (KD w) (ST w) (SK w) a)) a h0 → J_X12_mixWalker_L2 len r Q (m + 1) i j 37 (nI w) (nI a) := by
    intro m
    induction m with
    | zero =>
      intro a j ha hj
      have : a = 7 := by omega
      subst this
      rw [J_X12_mixWalker_L2]
      refine ⟨fun _ => ?_, fun hh => absurd (by decide) hh⟩
      refine sp_shutM hg tm q1 q2 hw q3 q5 (fun i1 f1 => sp_mix hj (fun j1 h1 => ?_))
      have w1 := f1.wf
      refine sp_fewM (p := 6) (a := 0) hg (tm.wf w1) q1 q2 (by decide) hw (by decide) (e0 i1 w1) (e1 i1 w1) (fun i2 o o2 ho _ f2 => ?_)
      rw [if_pos rfl, lsO_eq ho]
      refine sp_mix h1 (fun j2 h2 => ?_)
      have w2 := w1.tr f2
      refine sp_fewM (p := 6) (a := 1) hg (tm.wf w2) q1 q2 (by decide) hw (by decide) (e0 i2 w2) (e1 i2 w2) (fun i3 o' o2' ho' ho2' f3 => ?_)
      have ho2 := ho2' rfl
      rw [lsO_eq ho'] at ho2
      rw [if_neg (by decide), fO2_eq ho2]
      refine sp_mix h2 (fun j3 h3 => ?_)
      have w3 := w2.tr f3
      refine sp_skipsM (p := 6) (a := 0) hg (tm.wf w3) q1 q2 (by decide) hw (by decide) (e0 i3 w3) (e1 i3 w3) (fun i4 o3 ho3 f4 => ?_)
      rw [lsO_eq ho3]
      refine sp_mix h3 (fun j4 h4 => ?_)
      have w4 := w3.tr f4
      refine sp_skipsM (p := 6) (a := 1) hg (tm.wf w4) q1 q2 (by decide) hw (by decide) (e0 i4 w4) (e1 i4 w4) (fun i5 o4 ho4 f5 => ?_)
      rw [lsO_eq ho4]
      exact sp_mix h4 (fun j5 h5 => hQ i5 j5 (w4.tr f5) h5)
    | succ m ih =>
      intro a j ha hj
      rw [J_X12_mixWalker_L2]
      refine ⟨fun hh => absurd hh (nI_ge (b := 7) (by omega) (by decide)), fun _ => sp_aboutM hg hw hk hsk (by omega) (sp_mix hj (fun j1 h1 v ev => ?_))⟩
      rw [nI_1] at ev
      subst ev
      exact ih (a + 1) j1 (by omega) h1
  rw [J_X12_mixWalker]
  exact ⟨8, loop 7 0 j (by omega) hj⟩
end DgWalkM
section OkDigest
variable {len : Nat → Nat} {r : jR} {i : jI} {j : jL} {k : Nat}
theorem ok_28 (hk0 : k ≤ 2560) (hg : Gr r len) (h : Rp k i) : J_X11_digest len r (fun q i1 j1 => J_X12_digest len r (fun q2 i2 j2 => q = q2 ∧ Rp (k + 5) i2) i1 j1 37) i j 0 := by
  have hR := h.up (k2 := k + 5) (by omega)
  obtain ⟨ns, ng, nt, nw, np, dn, pl, A, B, G, P, fr, h1, h2, h3, h4, h5, h6, h7, h8⟩ := h
  have hwf := h4.fn
  have hng : ng ≤ 3 := h1.2.2.2.1.2.2
  have hpr := h5.fn hng
  have hlt := h7.fn
  have hn := h1.1.2.1
  have hnw := h4.2.2.1
  have hnp := h5.2.2.1
  have hpl := h7.2.2.1
  have c1 : ∀ {i1 : jI}, wF i i1 → RT i1 ns ng A B G P fr := fun hf => h1.cong hf.sm.1
  have c2 : ∀ {i1 : jI}, wF i i1 → RN k i1 ns nt := fun hf => h2.cong hf.sm.2.1
  have c4 : ∀ {i1 : jI}, wF i i1 → RW i1 nw := fun hf => h4.cong hf.sm.2.2.1
  have c5 : ∀ {i1 : jI}, wF i i1 → RQ i1 np ng := fun hf => h5.cong hf.sm.2.2.2.1
  have c6 : ∀ {i1 : jI}, wF i i1 → RD i1 dn := fun hf => h6.cong hf.sm.2.2.2.2.1
  have c7 : ∀ {i1 : jI}, wF i i1 → RP i1 pl := fun hf => h7.cong hf.sm.2.2.2.2.2.1
  have rowC : ∀ (Q : Int32 → jI → jL → Prop) i1 j1 a, a < 8 → wF i i1 → Q (ctv ns ng nw np pl nt dn fr a) i1 j1 → J_X11_count len r Q i1 j1 0 (nI a) := fun Q i1 j1 a ha hf hQ => sp_countC hg (c1 hf) (c2 hf) (c4 hf) (c5 hf) (c6 hf) (c7 hf) ha hQ
  have rowM : ∀ (Q : Int32 → jI → jL → Prop) i1 j1 a, a < 8 → wF i i1 → Q (ctv ns ng nw np pl nt dn fr a) i1 j1 → J_X12_howMany len r Q i1 j1 37 (nI a) := fun Q i1 j1 a ha hf hQ => sp_countM (c1 hf) (c2 hf) (c4 hf) (c5 hf) (c6 hf) (c7 hf) ha hQ
  have whoC : ∀ (Q : Int32 → jI → jL → Prop) i1 j1, wF i i1 → (∀ i' j', wF i i' → Q (nI (bs (whF A B G P (pro i) (kdo i) (sto i) fr ns np) nw)) i' j') → J_X11_who len r Q i1 j1 0 := by
    intro Q i1 j1 hf hQ
    rw [J_X11_who]
    exact ⟨nw + 1, lp_whoC (PR := pro i) (KD := kdo i) (ST := sto i) hg h1 hnp h5.2.1 (fun q hq => ⟨(hpr q hq).2.1, (hpr q hq).2.2⟩) hnw h4.2.1 hwf hQ nw 0 i1 j1 (by omega) hf⟩
  have whoM : ∀ (Q : Int32 → jI → jL → Prop) i1 j1, wF i i1 → (∀ i', wF i i' → Q (nI (bs (whF A B G P (pro i) (kdo i) (sto i) fr ns np) nw)) i' j1) → J_X12_whoNow len r Q i1 j1 37 := by
    intro Q i1 j1 hf hQ
    rw [J_X12_whoNow]
    exact ⟨nw + 1, lp_whoM (ng := ng) (PR := pro i) (KD := kdo i) (ST := sto i) hg h1.1 hnp h5.1 (fun q hq => ⟨(hpr q hq).1, by have := (hpr q hq).2.2; omega⟩) hnw h4.1 hwf hQ nw 0 i1 (by omega) hf⟩
  have wkC : ∀ (Q : Int64 → jI → jL → Prop) i1 j1 w h, w < nw → wF i i1 → (∀ i' j', wF i i' → Q (wkv A B G P (kdo i) (sto i) (fun w => i 44 w) fr ns w h) i' j') → J_X11_withWalker len r Q i1 j1 0 h (nI w) := by
    intro Q i1 j1 w h hw hf hQ
    exact dcw (SK := fun w => i 44 w) hg (c1 hf).2.1 (c4 hf).2.1 hnw hw ((hwf w hw).wf (by omega) hf) (hf 44 w (by unfold kp; omega)) (fun i' j' hf' => hQ i' j' (hf.tr hf'))
  have wkM : ∀ (Q : jI → jL → Prop) i1 j1 w h, w < nw → wF i i1 → j1 37 50 = h → (∀ i' j', wF i i' → j' 37 50 = wkv A B G P (kdo i) (sto i) (fun w => i 44 w) fr ns w h → Q i' j') → J_X12_mixWalker len r Q i1 j1 37 (nI w) := by
    intro Q i1 j1 w h hw hf hj hQ
    exact dmw (SK := fun w => i 44 w) hg (c1 hf).1 (by omega) ((hwf w hw).wf (by omega) hf) (hf 44 w (by unfold kp; omega)) hj (fun i' j' hf' hj' => hQ i' j' (hf.tr hf') hj')
  have evC : ∀ (Q : Int32 → jI → jL → Prop) i1 j1, wF i i1 → (∀ o, (∀ b, o = some b → b < 1024) → told (evn A B P 0 ns) 0 = told o 0 → told (evn A B P 0 ns) 1 = told o 1 → Q (bo o) i1 j1) → J_X11_stonesForEven len r Q i1 j1 0 (nI 0) := fun Q i1 j1 hf hQ => sp_evenC hg (c1 hf).2.1 (by decide) (hQ _ (evn_lt hn) rfl rfl)
  have evM : ∀ (Q : Int32 → jI → jL → Prop) i1 j1, wF i i1 → (Q (told (evn A B P 0 ns) 0) i1 j1 → J_X12_evenNow len r Q i1 j1 37 (nI 0) (nI 0)) ∧ (Q (told (evn A B P 0 ns) 1) i1 j1 → J_X12_evenNow len r Q i1 j1 37 (nI 0) (nI 1)) := fun Q i1 j1 hf => ⟨fun hQ => sp_evenM hg (c1 hf).1 (by decide) (by decide) hQ, fun hQ => sp_evenM hg (c1 hf).1 (by decide) (by decide) hQ⟩
  refine dc1 (stf := stv A B P G) hg hn h1.2.1.1 (fun Q s a hs ha hQ => sp_streetC hg h1.2.1 hs ha hQ) (fun g0 eg => ⟨nw + 1, ?_⟩)
  subst eg
  refine dc2 (cf := ctv ns ng nw np pl nt dn fr) (lf := fun q => nI (lto i q)) (PR := pro i) (np := np) (pl := pl) (ns := ns) (wkf := wkv A B G P (kdo i) (sto i) (fun w => i 44 w) fr ns) (wv := nI (bs (whF A B G P (pro i) (kdo i) (sto i) fr ns np) nw)) (e0 := told (evn A B P 0 ns) 0) (e1 := told (evn A B P 0 ns) 1) hg hpl h7.2.1 (fun q hq => (hlt q hq).2.1) hnp h5.2.1 (fun q hq => ⟨(hpr q hq).2.1, by have := (hpr q hq).2.2; omega⟩) hn h1.2.1.1 evC hnw h4.2.1 wkC whoC rowC (fun i1 j1 hf => ?_) nw 0 i j (by omega) wF.rf
  refine dm1 (stf := stv A B P G) hn (c1 hf).1.1 (fun Q j2 s a hs ha hQ => sp_streetM hg (c1 hf).1 hs ha hQ) (fun j2 hj2 => ⟨nw + 1, ?_⟩)
  exact dm2 (i0 := i) (nt := nt) (cf := ctv ns ng nw np pl nt dn fr) (lf := fun q => nI (lto i q)) (PR := pro i) (np := np) (pl := pl) (ns := ns) (wkf := wkv A B G P (kdo i) (sto i) (fun w => i 44 w) fr ns) (wv := nI (bs (whF A B G P (pro i) (kdo i) (sto i) fr ns np) nw)) (e0 := told (evn A B P 0 ns) 0) (e1 := told (evn A B P 0 ns) 1) hg hpl h7.1 (fun q hq => (hlt q hq).1) hnp h5.1 (fun q hq => ⟨(hpr q hq).1, by have := (hpr q hq).2.2; omega⟩) (by have := h2.2.2.1; omega) h2.1 h2.2.2.2 evM hnw h4.1 wkM whoM rowM (fun i2 j3 hf2 => ⟨rfl, hR.sm hf2.sm⟩) nw 0 i1 j2 (by omega) hf hj2
end OkDigest
