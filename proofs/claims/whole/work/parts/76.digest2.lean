/-! the digest's loops; what each row tells is given -/
def D7 (cf : Nat → Int32) (h : Int64) : Int64 := itr (fun a h => mx h (cf a)) 8 h
def D6 (cf lf : Nat → Int32) (pl : Nat) (h : Int64) : Int64 := D7 cf (itr (fun q h => mx h (lf q)) pl h)
def D4 (cf lf : Nat → Int32) (pl : Nat) (wv : Int32) (PR : Nat → Nat) (np : Nat) (h : Int64) : Int64 := D6 cf lf pl (mx (itr (fun q h => mx (mx (mx h (nI (PR q / 4))) (nI (PR q / 2 % 2))) (nI (PR q % 2))) np h) wv)
def D3 (cf lf : Nat → Int32) (pl : Nat) (wv : Int32) (PR : Nat → Nat) (np ns : Nat) (e0 e1 : Int32) (h : Int64) : Int64 := D4 cf lf pl wv PR np (if ns = 0 then h else mx (mx h e0) e1)
def D2 (cf lf : Nat → Int32) (pl : Nat) (wv : Int32) (PR : Nat → Nat) (np ns : Nat) (e0 e1 : Int32) (wkf : Nat → Int64 → Int64) (nw : Nat) (h : Int64) : Int64 := D3 cf lf pl wv PR np ns e0 e1 (itr wkf nw h)
def D1 (cf lf : Nat → Int32) (pl : Nat) (wv : Int32) (PR : Nat → Nat) (np ns : Nat) (e0 e1 : Int32) (wkf : Nat → Int64 → Int64) (nw : Nat) (stf : Nat → Nat → Int32) : Int64 := D2 cf lf pl wv PR np ns e0 e1 wkf nw (itr (fun s h => itr (fun a h => mx h (stf s a)) 4 h) ns 619)
section DgLoopC
variable {len : Nat → Nat} {r : jR} {i0 : jI} {Q : Int64 → jI → jL → Prop} {ns nw np pl : Nat} {cf lf : Nat → Int32} {wv e0 e1 : Int32} {PR : Nat → Nat} {wkf : Nat → Int64 → Int64} {stf : Nat → Nat → Int32}
theorem dc7 {h0 : Int64} (hrow : ∀ (Q : Int32 → jI → jL → Prop) i j a, a < 8 → wF i0 i → Q (cf a) i j → J_X11_count len r Q i j 0 (nI a)) (hQ : ∀ i' j', wF i0 i' → Q (D7 cf h0) i' j') : ∀ (m a : Nat) (i : jI) (j : jL), a + m = 8 → wF i0 i → J_X11_digest_L232 len r Q (m + 1) i j 0 (itr (fun a h => mx h (cf a)) a h0) (nI a) := by
  intro m
  induction m with
  | zero =>
    intro a i j ha hf
    have : a = 8 := by omega
    subst this
    rw [J_X11_digest_L232]
    exact ⟨fun _ => hQ i j hf, fun hh => absurd (by decide) hh⟩
  | succ m ih =>
    intro a i j ha hf
    rw [J_X11_digest_L232]
    refine ⟨fun hh => absurd hh (nI_nlt (a := 7) (by omega) (by decide)), fun _ => hrow _ i j a (by omega) hf (fun v ev v2 ev2 => ?_)⟩
    rw [nI_1] at ev2
    subst ev ev2
    exact ih (a + 1) i j (by omega) hf
theorem dc6 {h0 : Int64} (hg : Gr r len) (hpl : pl ≤ 50) (epl : i0 1 1 = nI pl) (hl : ∀ q, q < pl → i0 2 q = lf q) (hrow : ∀ (Q : Int32 → jI → jL → Prop) i j a, a < 8 → wF i0 i → Q (cf a) i j → J_X11_count len r Q i j 0 (nI a)) (hQ : ∀ i' j', wF i0 i' → Q (D6 cf lf pl h0) i' j') : ∀ (m q : Nat) (i : jI) (j : jL), q + m = pl → wF i0 i → J_X11_digest_L196 len r Q (m + 1) i j 0 (itr (fun q h => mx h (lf q)) q h0) (nI q) := by
  intro m
  induction m with
  | zero =>
    intro q i j hq hf
    have : q = pl := by omega
    subst this
    rw [J_X11_digest_L196]
    refine ⟨1, hg.1 _ (by decide) _ (by decide) _ rfl, ?_⟩
    rw [(hf 1 1 (by unfold kp; omega)).trans epl]
    exact ⟨fun _ => ⟨9, dc7 hrow hQ 8 0 i j (by omega) hf⟩, fun hh => absurd (nI_le (Nat.le_refl _) (by omega)) hh⟩
  | succ m ih =>
    intro q i j hq hf
    rw [J_X11_digest_L196]
    refine ⟨1, hg.1 _ (by decide) _ (by decide) _ rfl, ?_⟩
    rw [(hf 1 1 (by unfold kp; omega)).trans epl]
    refine ⟨fun hh => absurd hh (nI_ge (by omega) (by omega)), fun _ => ⟨1, hg.1 _ (by decide) _ (by decide) _ rfl, 2, hg.1 _ (by decide) _ (by decide) _ rfl, by rw [hg.2 _ (by decide)]; exact vp_in_nI (show q < 50 by omega) (by decide), fun v ev v2 ev2 => ?_⟩⟩
    rw [nI_clamp (by omega), (hf 2 q (by unfold kp; omega)).trans (hl q (by omega))] at ev
    rw [nI_1] at ev2
    subst ev ev2
    exact ih (q + 1) i j (by omega) hf
theorem dc4 {h0 : Int64} (hg : Gr r len) (hpl : pl ≤ 50) (epl : i0 1 1 = nI pl) (hl : ∀ q, q < pl → i0 2 q = lf q) (hnp : np ≤ 6) (e5 : i0 0 5 = nI np) (hp : ∀ q, q < np → i0 10 q = nI (PR q) ∧ PR q < 12) (hwho : ∀ (Q : Int32 → jI → jL → Prop) i j, wF i0 i → (∀ i' j', wF i0 i' → Q wv i' j') → J_X11_who len r Q i j 0) (hrow : ∀ (Q : Int32 → jI → jL → Prop) i j a, a < 8 → wF i0 i → Q (cf a) i j → J_X11_count len r Q i j 0 (nI a)) (hQ : ∀ i' j', wF i0 i' → Q (D4 cf lf pl wv PR np h0) i' j') : ∀ (m q : Nat) (i : jI) (j : jL), q + m = np → wF i0 i → J_X11_digest_L117 len r Q (m + 1) i j 0 (itr (fun q h => mx (mx (mx h (nI (PR q / 4))) (nI (PR q / 2 % 2))) (nI (PR q % 2))) q h0) (nI q) := by
  intro m
  induction m with
  | zero =>
    intro q i j hq hf
    have : q = np := by omega
    subst this
    rw [J_X11_digest_L117]
    dsimp only
    rw [(hf 0 5 (by unfold kp; omega)).trans e5]
    refine ⟨fun _ => hwho _ i j hf (fun i' j' hf' v ev => ⟨pl + 1, ?_⟩), fun hh => absurd (nI_le (Nat.le_refl _) (by omega)) hh⟩
    subst ev
    exact dc6 (h0 := mx _ wv) hg hpl epl hl hrow hQ pl 0 i' j' (by omega) hf'
  | succ m ih =>
    intro q i j hq hf
    obtain ⟨p1, p2⟩ := hp q (by omega)
    have ec : (nI q).toNatClampNeg = q := nI_clamp (by omega)
    have hv : vp_in (nI q) 6 := vp_in_nI (by omega) (by decide)
    have e10 : i 10 q = nI (PR q) := (hf 10 q (by unfold kp; omega)).trans p1
    rw [J_X11_digest_L117]
    dsimp only
    rw [(hf 0 5 (by unfold kp; omega)).trans e5, ec]
    refine ⟨fun hh => absurd hh (nI_ge (by omega) (by omega)), fun _ => ⟨10, hg.1 _ (by decide) _ (by decide) _ rfl, by rw [hg.2 _ (by decide)]; exact hv, ?_⟩⟩
    rw [e10, J_X11_gateOfPrint, pr_g _ p2]
    intro v1 ev1
    refine ⟨10, hg.1 _ (by decide) _ (by decide) _ rfl, by rw [hg.2 _ (by decide)]; exact hv, ?_⟩
    rw [e10, J_X11_wayOfPrint, pr_w _ p2]
    intro v2 ev2
    refine ⟨10, hg.1 _ (by decide) _ (by decide) _ rfl, by rw [hg.2 _ (by decide)]; exact hv, ?_⟩
    rw [e10, J_X11_footOfPrint, pr_f _ p2]
    intro v3 ev3 v4 ev4
    rw [nI_1] at ev4
    subst ev1 ev2 ev3 ev4
    exact ih (q + 1) i j (by omega) hf
theorem dc2 {h0 : Int64} (hg : Gr r len) (hpl : pl ≤ 50) (epl : i0 1 1 = nI pl) (hl : ∀ q, q < pl → i0 2 q = lf q) (hnp : np ≤ 6) (e5 : i0 0 5 = nI np) (hp : ∀ q, q < np → i0 10 q = nI (PR q) ∧ PR q < 12) (hns : ns ≤ 10) (e30 : i0 3 0 = nI ns) (heven : ∀ (Q : Int32 → jI → jL → Prop) i j, wF i0 i → (∀ o, (∀ b, o = some b → b < 1024) → e0 = told o 0 → e1 = told o 1 → Q (bo o) i j) → J_X11_stonesForEven len r Q i j 0 (nI 0)) (hnw : nw ≤ 5) (e3 : i0 0 3 = nI nw) (hwk : ∀ (Q : Int64 → jI → jL → Prop) i j w h, w < nw → wF i0 i → (∀ i' j', wF i0 i' → Q (wkf w h) i' j') → J_X11_withWalker len r Q i j 0 h (nI w)) (hwho : ∀ (Q : Int32 → jI → jL → Prop) i j, wF i0 i → (∀ i' j', wF i0 i' → Q wv i' j') → J_X11_who len r Q i j 0) (hrow : ∀ (Q : Int32 → jI → jL → Prop) i j a, a < 8 → wF i0 i → Q (cf a) i j → J_X11_count len r Q i j 0 (nI a)) (hQ : ∀ i' j', wF i0 i' → Q (D2 cf lf pl wv PR np ns e0 e1 wkf nw h0) i' j') : ∀ (m w : Nat) (i : jI) (j : jL), w + m = nw → wF i0 i → J_X11_digest_L55 len r Q (m + 1) i j 0 (itr wkf w h0) (nI w) := by
  intro m
  induction m with
  | zero =>
    intro w i j hw hf
    have : w = nw := by omega
    subst this
    rw [J_X11_digest_L55]
    dsimp only
    rw [(hf 0 3 (by unfold kp; omega)).trans e3]
    refine ⟨fun _ => ?_, fun hh => absurd (nI_le (Nat.le_refl _) (by omega)) hh⟩
    rw [J_X11_hasTown]
    refine ⟨3, hg.1 _ (by decide) _ (by decide) _ rfl, ?_⟩
    rw [(hf 3 0 (by unfold kp; omega)).trans e30]
    unfold D2 D3 at hQ
    by_cases h0' : ns = 0
    · rw [if_pos h0'] at hQ
      refine ⟨fun _ => ⟨fun _ => ?_, fun hh => absurd rfl hh⟩, fun hh => absurd (by rw [h0']; decide) hh⟩
      rw [J_X11_digest_L115]
      exact ⟨np + 1, dc4 hg hpl epl hl hnp e5 hp hwho hrow hQ np 0 i j (by omega) hf⟩
    · rw [if_neg h0'] at hQ
      refine ⟨fun hh => absurd hh (nI_nle (by omega) (by omega)), fun _ => ⟨fun hh => absurd hh (by decide), fun _ => ?_⟩⟩
      refine heven _ i j hf (fun o ho q0 q1 => ?_)
      refine sp_streetsTold (a := 0) ho (by decide) (fun v ev => sp_streetsTold (a := 1) ho (by decide) (fun v2 ev2 => ?_))
      rw [← q0] at ev
      rw [← q1] at ev2
      subst ev ev2
      rw [J_X11_digest_L115]
      exact ⟨np + 1, dc4 (h0 := mx (mx (itr wkf w h0) e0) e1) hg hpl epl hl hnp e5 hp hwho hrow hQ np 0 i j (by omega) hf⟩
  | succ m ih =>
    intro w i j hw hf
    rw [J_X11_digest_L55]
    dsimp only
    rw [(hf 0 3 (by unfold kp; omega)).trans e3]
    refine ⟨fun hh => absurd hh (nI_ge (by omega) (by omega)), fun _ => hwk _ i j w _ (by omega) hf (fun i' j' hf' v ev => ?_)⟩
    rw [nI_1] at ev
    subst ev
    exact ih (w + 1) i' j' (by omega) hf'
theorem dc20 {Hd : jI → jL → Nat → Int64 → Int32 → Prop} {h0 : Int64} {s : Nat} {i : jI} {j : jL} (hrow : ∀ (Q : Int32 → jI → jL → Prop) a, a < 4 → Q (stf s a) i j → J_X11_street len r Q i j 0 (nI s) (nI a)) (hQ : Hd i j 0 (itr (fun a h => mx h (stf s a)) 4 h0) (nI (s + 1))) : ∀ (m a : Nat), a + m = 4 → J_X11_digest_L20 len r Q Hd (m + 1) i j 0 (itr (fun a h => mx h (stf s a)) a h0) (nI s) (nI a) := by
  intro m
  induction m with
  | zero =>
    intro a ha
    have : a = 4 := by omega
    subst this
    rw [J_X11_digest_L20]
    refine ⟨fun _ v ev => ?_, fun hh => absurd (by decide) hh⟩
    rw [nI_1] at ev
    subst ev
    exact hQ
  | succ m ih =>
    intro a ha
    rw [J_X11_digest_L20]
    refine ⟨fun hh => absurd hh (nI_nlt (a := 3) (by omega) (by decide)), fun _ => hrow _ a (by omega) (fun v ev v2 ev2 => ?_)⟩
    rw [nI_1] at ev2
    subst ev ev2
    exact ih (a + 1) (by omega)
theorem dc1 {j : jL} (hg : Gr r len) (hns : ns ≤ 10) (e30 : i0 3 0 = nI ns) (hst : ∀ (Q : Int32 → jI → jL → Prop) s a, s < ns → a < 4 → Q (stf s a) i0 j → J_X11_street len r Q i0 j 0 (nI s) (nI a)) (hend : ∀ g0 : Int64, g0 = itr (fun s h => itr (fun a h => mx h (stf s a)) 4 h) ns 619 → ∃ g, J_X11_digest_L55 len r Q g i0 j 0 g0 0) : J_X11_digest len r Q i0 j 0 := by
  have loop : ∀ (m s : Nat), s + m = ns → J_X11_digest_L6 len r Q (m + 1) i0 j 0 (itr (fun s h => itr (fun a h => mx h (stf s a)) 4 h) s 619) (nI s) := by
    intro m
    induction m with
    | zero =>
      intro s hs
      have : s = ns := by omega
      subst this
      rw [J_X11_digest_L6]
      refine ⟨3, hg.1 _ (by decide) _ (by decide) _ rfl, ?_⟩
      rw [e30]
      exact ⟨fun _ => hend _ rfl, fun hh => absurd (nI_le (Nat.le_refl _) (by omega)) hh⟩
    | succ m ih =>
      intro s hs
      rw [J_X11_digest_L6]
      refine ⟨3, hg.1 _ (by decide) _ (by decide) _ rfl, ?_⟩
      rw [e30]
      refine ⟨fun hh => absurd hh (nI_ge (by omega) (by omega)), fun _ => ⟨5, ?_⟩⟩
      exact dc20 (fun Q a ha => hst Q s a (by omega) ha) (ih (s + 1) (by omega)) 4 0 (by omega)
  rw [J_X11_digest]
  exact ⟨ns + 1, loop ns 0 (by omega)⟩
end DgLoopC
section DgWalkC
variable {len : Nat → Nat} {r : jR} {ns nw : Nat} {A B G P KD ST : Nat → Nat} {SK : Nat → Int32} {fr : Bool}
noncomputable def wkv (A B G P KD ST : Nat → Nat) (SK : Nat → Int32) (fr : Bool) (ns w : Nat) (h : Int64) : Int64 := mx (mx (mx (mx (mx (itr (fun a h => mx h (abv (KD w) (ST w) (SK w) a)) 7 h) (nI (shv A B G (fun s => mturn (KD w) (P s)) fr ns (ST w)))) (bo (fO A B G P fr ns (KD w) (ST w) 6))) (bo (fO2 A B G P fr ns (KD w) (ST w) 6))) (skt 10000 (sO A B G P fr ns (KD w) (ST w) 6) 0)) (skt 10000 (sO A B G P fr ns (KD w) (ST w) 6) 1)
theorem dcw {Q : Int64 → jI → jL → Prop} {i : jI} {j : jL} {w : Nat} {h0 : Int64} (hg : Gr r len) (tc : TC i ns A B G P fr) (w2 : i 0 3 = nI nw) (hnw : nw ≤ 5) (hw : w < nw) (hk : RWk i w (KD w) (ST w)) (hsk : i 44 w = SK w) (hQ : ∀ i' j', wF i i' → Q (wkv A B G P KD ST SK fr ns w h0) i' j') : J_X11_withWalker len r Q i j 0 h0 (nI w) := by
  have ew : (nI w).toNatClampNeg = w := nI_clamp (by omega)
  have hv : vp_in (nI w) 5 := vp_in_nI (by omega) (by decide)
  have ref : r 9 (nI w).toNatClampNeg = some (32 + w) := by rw [ew]; exact hg.1 9 (by decide) w (by omega) _ (RR9 w (by omega))
  obtain ⟨q1, q2, q3, q4, q5, q6, q7⟩ := id hk
  have e0 : ∀ i', wF i i' → i' (32 + w) 0 = nI (KD w) := fun i' hf => (hf _ _ (by unfold kp; omega)).trans q4
  have e1 : ∀ i', wF i i' → i' (32 + w) 1 = nI (enc (ST w)) := fun i' hf => (hf _ _ (by unfold kp; omega)).trans q6
  have loop : ∀ (m a : Nat), a + m = 7 → J_X11_withWalker_L6 len r Q (m + 1) i j 0 (nI w) (itr (fun a h => mx h (abv (KD w) (ST w) (SK w) a)) a h0) (nI a) := by
    intro m
    induction m with
    | zero =>
      intro a ha
      have : a = 7 := by omega
      subst this
      rw [J_X11_withWalker_L6]
      refine ⟨fun _ => sp_shutW hg tc w2 hnw hw hk (fun i1 j1 f1 v1 ev1 => ⟨9, hg.1 _ (by decide) _ (by decide) _ rfl, by rw [hg.2 _ (by decide)]; exact hv, 32 + w, ref, ?_⟩), fun hh => absurd (by decide) hh⟩
      refine sp_few (p := 6) hg (tc.wf f1) q1 q2 (by decide) (by omega) (e0 i1 f1) (e1 i1 f1) (fun i2 o ho hb f2 v2 ev2 => ⟨9, hg.1 _ (by decide) _ (by decide) _ rfl, by rw [hg.2 _ (by decide)]; exact hv, 32 + w, ref, ?_⟩)
      have f02 := f1.tr f2
      have eo := lsO_eq ho
      refine sp_first (p := 6) hg (tc.wf f02) q1 q2 (by decide) (by omega) hb (e0 i2 f02) (e1 i2 f02) (fun i3 o2 ho2 f3 v3 ev3 => ⟨9, hg.1 _ (by decide) _ (by decide) _ rfl, by rw [hg.2 _ (by decide)]; exact hv, 32 + w, ref, ?_⟩)
      have f03 := f02.tr f3
      rw [eo] at ho2 ev2
      have eo2 := fO2_eq ho2
      rw [eo2] at ev3
      refine sp_fskips (p := 6) hg (tc.wf f03) q1 q2 (by decide) (by omega) (e0 i3 f03) (e1 i3 f03) (fun i4 o3 ho3 hb3 f4 => sp_skipsTold (a := 0) hb3 (by decide) (fun v4 ev4 => sp_skipsTold (a := 1) hb3 (by decide) (fun v5 ev5 => ?_)))
      rw [skt_eq tc.tok tc.p16 q1 q2 ho3 (lsO_spec _) 0] at ev4
      rw [skt_eq tc.tok tc.p16 q1 q2 ho3 (lsO_spec _) 1] at ev5
      subst ev1 ev2 ev3 ev4 ev5
      exact hQ i4 j1 (f03.tr f4)
    | succ m ih =>
      intro a ha
      rw [J_X11_withWalker_L6]
      refine ⟨fun hh => absurd hh (nI_nlt (a := 6) (by omega) (by decide)), fun _ => sp_aboutC hg w2 hnw hw hk hsk (by omega) (fun v ev v2 ev2 => ?_)⟩
      rw [nI_1] at ev2
      subst ev ev2
      exact ih (a + 1) (by omega)
  rw [J_X11_withWalker]
  exact ⟨8, loop 7 0 (by omega)⟩
end DgWalkC
