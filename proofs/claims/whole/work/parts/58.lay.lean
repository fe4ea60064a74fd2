/-! THE QUEUE of the reference, in plain numbers: q who waits, in order; n how many -/
def qq (N : Nat) (M : Nat → Bool) (q : Nat → Nat) (n : Nat) : Prop := n ≤ N ∧ (∀ t, t < n → q t < N ∧ M (q t) = true) ∧ (∀ y, y < N → M y = true → ∃ t, t < n ∧ q t = y) ∧ ∀ t t', t < t' → t' < n → q t ≠ q t'
section QQ
variable {N n y : Nat} {M : Nat → Bool} {q : Nat → Nat}
theorem qq_room (h : qq N M q n) (hy : y < N) (hm : M y = false) : n < N := by
  obtain ⟨h1, h2, h3, h4⟩ := h
  rcases Nat.lt_or_ge n N with hl | hl
  · exact hl
  · have e : n = N := by omega
    subst e
    obtain ⟨t, ht, e⟩ := fb_onto (f := q) (fun t ht => (h2 t ht).1) h4 hy
    have := (h2 t ht).2
    rw [e, hm] at this
    cases this
theorem qq_push (h : qq N M q n) (hy : y < N) (hm : M y = false) : qq N (sU M y true) (sU q n y) (n + 1) := by
  have hr := qq_room h hy hm
  obtain ⟨h1, h2, h3, h4⟩ := h
  have ne : ∀ t, t < n → q t ≠ y := fun t ht z => by have := (h2 t ht).2; rw [z, hm] at this; cases this
  refine ⟨hr, fun t ht => ?_, fun z hz hmz => ?_, fun t t' h12 ht' => ?_⟩
  · by_cases e : t = n
    · subst e; rw [sU_eq, sU_eq]; exact ⟨hy, rfl⟩
    · rw [sU_ne e, sU_ne (ne t (by omega))]; exact h2 t (by omega)
  · by_cases e : z = y
    · subst e; exact ⟨n, by omega, sU_eq⟩
    · rw [sU_ne e] at hmz
      obtain ⟨t, ht, e2⟩ := h3 z hz hmz
      exact ⟨t, by omega, by rw [sU_ne (by omega)]; exact e2⟩
  · by_cases e : t' = n
    · subst e; rw [sU_eq, sU_ne (by omega)]; exact ne t h12
    · rw [sU_ne e, sU_ne (by omega)]; exact h4 t t' h12 (by omega)
theorem qq_pop (h : qq N M q (n + 1)) : qq N (sU M (q 0) false) (fun t => q (t + 1)) n := by
  obtain ⟨h1, h2, h3, h4⟩ := h
  refine ⟨by omega, fun t ht => ?_, fun z hz hmz => ?_, fun t t' h12 ht' => h4 (t + 1) (t' + 1) (by omega) (by omega)⟩
  · have := h4 0 (t + 1) (by omega) (by omega)
    refine ⟨(h2 (t + 1) (by omega)).1, ?_⟩
    show sU M (q 0) false (q (t + 1)) = true
    rw [sU_ne (fun z => this z.symm)]
    exact (h2 (t + 1) (by omega)).2
  · by_cases e : z = q 0
    · subst e; rw [sU_eq] at hmz; cases hmz
    · rw [sU_ne e] at hmz
      obtain ⟨t, ht, e2⟩ := h3 z hz hmz
      have t0 : t ≠ 0 := fun z2 => by rw [z2] at e2; exact e e2.symm
      exact ⟨t - 1, by omega, by show q (t - 1 + 1) = z; rw [show t - 1 + 1 = t by omega]; exact e2⟩
theorem qq_none (h : qq N M q 0) : ∀ y, y < N → M y = false := by
  intro y hy
  cases hm : M y with
  | false => rfl
  | true =>
    obtain ⟨t, ht, -⟩ := h.2.2.1 y hy hm
    omega
theorem sU_same {α : Type} {f : Nat → α} {y : Nat} {v : α} (h : f y = v) : sU f y v = f := by
  funext k
  by_cases e : k = y
  · subst e; rw [sU_eq, h]
  · rw [sU_ne e]
end QQ
def bI (b : Bool) : Int32 := if b = true then 1 else 0
theorem vb1 : vp_nar .boolean (1 : Int32) = 1 := by decide
theorem vb0 : vp_nar .boolean (0 : Int32) = 0 := by decide
/-- the queue's cells -/
def qv (i : jI) (D : Nat → Nat) (M : Nat → Bool) : Prop := ∃ (q : Nat → Nat) (f n : Nat), i 37 29 = nI f ∧ i 37 30 = nI n ∧ f < 378 ∧ (∀ t, t < n → i 52 ((f + t) % 378) = nI (q t)) ∧ (∀ y, y < 378 → i 51 y = nI (D y)) ∧ (∀ y, y < 378 → i 53 y = bI (M y)) ∧ qq 378 M q n
def qF (i i' : jI) : Prop := ∀ x f, x ≠ 51 → x ≠ 52 → x ≠ 53 → (x = 37 → f ≠ 29 ∧ f ≠ 30) → i' x f = i x f
theorem qF.rf {i : jI} : qF i i := fun _ _ _ _ _ _ => rfl
theorem qF.tr {i i1 i2 : jI} (h1 : qF i i1) (h2 : qF i1 i2) : qF i i2 := fun x f e1 e2 e3 e4 => (h2 x f e1 e2 e3 e4).trans (h1 x f e1 e2 e3 e4)
theorem TM.qf {i i' : jI} {ns : Nat} {A B G P : Nat → Nat} {fr : Bool} (e : qF i i') (h : TM i ns A B G P fr) : TM i' ns A B G P fr := h.frm (fun a f ha => e a f (by omega) (by omega) (by omega) (by omega))
section Come
variable {len : Nat → Nat} {r : jR} {i : jI} {j : jL} {D : Nat → Nat} {M : Nat → Bool}
theorem sp_come {Q : jI → jL → Prop} {x k : Nat} (hg : Gr r len) (hV : qv i D M) (hx : x < 378) (hD : D x < 2 ^ 31) (hk : k < 2 ^ 31) (hQ : ∀ i', qv i' (dD D x k) (dM D M x k) → qF i i' → Q i' j) : J_X12_come len r Q i j 37 (nI x) (nI k) := by
  obtain ⟨q, f, n, v1, v2, v3, v4, v5, v6, v7⟩ := id hV
  have ex : (nI x).toNatClampNeg = x := nI_clamp (by omega)
  have hv : vp_in (nI x) 378 := vp_in_nI hx (by decide)
  rw [J_X12_come]
  refine ⟨51, hg.1 _ (by decide) _ (by decide) _ rfl, by rw [hg.2 _ (by decide)]; exact hv, ?_⟩
  rw [ex, v5 x hx]
  refine pk_lt k (D x) (fun hlt => ?_) (fun hle => ?_)
  · have eD : dD D x k = sU D x k := if_pos hlt
    have eM : dM D M x k = sU M x true := if_pos hlt
    rw [eD, eM] at hQ
    refine ⟨51, hg.1 _ (by decide) _ (by decide) _ rfl, by rw [hg.2 _ (by decide)]; exact hv, fun i1 e1 => ⟨53, hg.1 _ (by decide) _ (by decide) _ rfl, by rw [hg.2 _ (by decide)]; exact hv, ?_⟩⟩
    have i1o : ∀ z f, z ≠ 51 → i1 z f = i z f := fun z f hz => by rw [e1, ju_ne hz]
    have i1a : ∀ y, y < 378 → i1 51 y = nI (sU D x k y) := by
      intro y hy
      rw [e1, ju_eq]
      by_cases e : y = x
      · subst e; rw [pk_us, sU_eq]
      · rw [pk_un e, sU_ne e]; exact v5 y hy
    rw [i1o 53 x (by decide), v6 x hx]
    cases hm : M x with
    | true =>
      rw [sU_same hm] at hQ
      refine ⟨fun _ => hQ i1 ⟨q, f, n, (i1o _ _ (by decide)).trans v1, (i1o _ _ (by decide)).trans v2, v3, fun t ht => (i1o _ _ (by decide)).trans (v4 t ht), i1a, fun y hy => (i1o _ _ (by decide)).trans (v6 y hy), v7⟩ (fun z f z1 z2 z3 z4 => i1o z f z1), fun hh => absurd hh (by decide)⟩
    | false =>
      have hn := qq_room v7 hx hm
      refine ⟨fun hh => absurd (by decide) hh, fun _ => ⟨53, hg.1 _ (by decide) _ (by decide) _ rfl, by rw [hg.2 _ (by decide)]; exact hv, fun i2 e2 => ⟨52, hg.1 _ (by decide) _ (by decide) _ rfl, ?_⟩⟩⟩
      rw [vb1] at e2
      have i2o : ∀ z f, z ≠ 53 → i2 z f = i1 z f := fun z f hz => by rw [e2, ju_ne hz]
      have er : ((i2 37 29) + (i2 37 30)) - ((i2 37 29) + (i2 37 30)) / (378 : Int32) * (378 : Int32) = nI ((f + n) % 378) := by
        rw [i2o _ _ (by decide), i2o _ _ (by decide), i1o _ _ (by decide), i1o _ _ (by decide), v1, v2, nI_add]
        exact pk_rem (d := 378) (by omega) (by decide) (by decide)
      rw [er, nI_clamp (by omega)]
      refine ⟨by rw [hg.2 _ (by decide)]; exact vp_in_nI (Nat.mod_lt _ (by decide)) (by decide), fun i3 e3 i4 e4 => ?_⟩
      have i3o : ∀ z f, z ≠ 52 → i3 z f = i2 z f := fun z f hz => by rw [e3, ju_ne hz]
      have i4o : ∀ z f, z ≠ 37 → i4 z f = i3 z f := fun z f hz => by rw [e4, ju_ne hz]
      refine hQ i4 ⟨sU q n x, f, n + 1, ?_, ?_, v3, fun t ht => ?_, fun y hy => ?_, fun y hy => ?_, qq_push v7 hx hm⟩ (fun z g z1 z2 z3 z4 => ?_)
      · rw [e4, ju_eq, pk_un (by decide), i3o _ _ (by decide), i2o _ _ (by decide), i1o _ _ (by decide)]; exact v1
      · rw [e4, ju_eq, pk_us, i3o _ _ (by decide), i2o _ _ (by decide), i1o _ _ (by decide), v2, nI_1]
      · rw [i4o _ _ (by decide), e3, ju_eq]
        by_cases e : t = n
        · subst e; rw [pk_us, sU_eq]
        · rw [pk_un (by omega), sU_ne e, i2o _ _ (by decide), i1o _ _ (by decide)]; exact v4 t (by omega)
      · rw [i4o _ _ (by decide), i3o _ _ (by decide), i2o _ _ (by decide)]; exact i1a y hy
      · rw [i4o _ _ (by decide), i3o _ _ (by decide), e2, ju_eq]
        by_cases e : y = x
        · subst e; rw [pk_us, sU_eq]; rfl
        · rw [pk_un e, sU_ne e, i1o _ _ (by decide)]; exact v6 y hy
      · by_cases e : z = 37
        · subst e
          rw [e4, ju_eq, pk_un (z4 rfl).2, i3o _ _ (by decide), i2o _ _ (by decide), i1o _ _ (by decide)]
        · rw [i4o z g e, i3o z g z2, i2o z g z3, i1o z g z1]
  · have eD : dD D x k = D := if_neg (by omega)
    have eM : dM D M x k = M := if_neg (by omega)
    rw [eD, eM] at hQ
    exact hQ i hV qF.rf
end Come
/-! all costs from a stand -/
section Lay
variable {len : Nat → Nat} {r : jR} {i0 : jI} {j : jL} {ns st k u : Nat} {A B G P : Nat → Nat} {fr skp : Bool}
abbrev lk (skp : Bool) (k : Nat) : Bool := skp && decide (k ≠ 3)
abbrev lF (A B G P : Nat → Nat) (fr : Bool) (ns k : Nat) (sk : Bool) (st : Nat) (D : Nat → Nat) (M : Nat → Bool) : Prop := gi_F 378 (ns + 1) 268435456 (mes A B G (fun s => mturn k (P s)) fr ns sk) (mwg (fun s => mstep k (P s)) ns 10000) st D M
abbrev lP (A B G P : Nat → Nat) (fr : Bool) (ns k : Nat) (sk : Bool) (st : Nat) (D : Nat → Nat) (M : Nat → Bool) (u x : Nat) : Prop := gi_P 378 (ns + 1) 268435456 (mes A B G (fun s => mturn k (P s)) fr ns sk) (mwg (fun s => mstep k (P s)) ns 10000) st D M u x
theorem so_none {A B G T : Nat → Nat} {fr : Bool} {st s : Nat} (h : ∀ st2, mbeh A B G T fr st s = some st2 → st2 < 378) : so (mbeh A B G T fr st s) = -1 ↔ mbeh A B G T fr st s = none := by
  cases hm : mbeh A B G T fr st s with
  | none => exact ⟨fun _ => rfl, fun _ => rfl⟩
  | some y => exact ⟨fun hh => absurd hh (nI_m1 (by have := h y hm; omega)), fun hh => (by cases hh)⟩
theorem lp_lay103 {Q : jI → jL → Prop} {Hd : jI → jL → Nat → Int32 → Int32 → Prop} {mu : Nat} (hg : Gr r len) (tm : TM i0 ns A B G P fr) (hk : k < 5) (hst : st < 378) (hu : u < 378) (hH : ∀ i' D' M', qv i' D' M' → lF A B G P fr ns k (lk skp k) st D' M' → fb_sm D' 378 + fb_ct M' 378 ≤ mu → qF i0 i' → Hd i' j 37 (nI k) (bI skp)) : ∀ (m x : Nat) (i : jI) (D : Nat → Nat) (M : Nat → Bool), x + m = ns → qv i D M → lP A B G P fr ns k (lk skp k) st D M u x → fb_sm D 378 + fb_ct M 378 ≤ mu → qF i0 i → J_X12_layCosts_L103 len r Q Hd (m + 1) i j 37 (nI k) (bI skp) (nI u) (nI x) := by
  have hn := tm.2.1
  intro m
  induction m with
  | zero =>
    intro x i D M hx hv hi hmu hf
    have hx' : x = ns := by omega
    subst hx'
    have hes : mes A B G (fun s => mturn k (P s)) fr x (lk skp k) u x = if lk skp k = true then some (mtr u) else none := by unfold mes; rw [if_neg (Nat.lt_irrefl x)]
    rw [J_X12_layCosts_L103]
    dsimp only
    rw [hf 37 0 (by decide) (by decide) (by decide) (by omega), tm.1]
    refine ⟨fun _ => ?_, fun hh => absurd (nI_le (Nat.le_refl _) (by omega)) hh⟩
    cases skp with
    | false =>
      refine ⟨fun _ => ?_, fun hh => absurd (by decide) hh⟩
      rw [J_X12_layCosts_L189]
      exact hH i D M hv (gi_close (gi_none hi (by rw [hes]; rfl))) hmu hf
    | true =>
      refine ⟨fun hh => absurd hh (by decide), fun _ => ?_⟩
      by_cases h3 : k = 3
      · subst h3
        refine ⟨fun _ => ?_, fun hh => absurd (by decide) hh⟩
        rw [J_X12_layCosts_L189]
        exact hH i D M hv (gi_close (gi_none hi (by rw [hes]; rfl))) hmu hf
      · refine ⟨fun hh => absurd ((k3 k hk).mp hh) h3, fun _ => sp_turned hu ⟨51, hg.1 _ (by decide) _ (by decide) _ rfl, by rw [hg.2 _ (by decide)]; exact vp_in_nI hu (by decide), ?_⟩⟩
        obtain ⟨q, f, n, v1, v2, v3, v4, v5, v6, v7⟩ := id hv
        have hDu := hi.2.2.2.2.2.2.1
        have htl := mtr_lt u hu
        have hlk : lk true k = true := by simp [lk, h3]
        rw [hlk] at hes
        rw [nI_clamp (by omega), v5 u hu, show (10000 : Int32) = nI 10000 from by decide, nI_add]
        have e2 : mwg (fun s => mstep k (P s)) x 10000 x = 10000 := if_neg (Nat.lt_irrefl x)
        obtain ⟨p1, p2⟩ := gi_off hi (by omega) (by rw [hlk, hes]; rfl) htl
        rw [e2] at p1 p2
        refine sp_come (x := mtr u) hg hv htl (by have := hi.2.1 _ htl; omega) (by omega) (fun i' hv' hf' => ?_)
        rw [J_X12_layCosts_L189]
        exact hH i' _ _ hv' (gi_close p1) (Nat.le_trans (gm_off htl) hmu) (hf.tr hf')
  | succ m ih =>
    intro x i D M hx hv hi hmu hf
    have hxn : x < ns := by omega
    have ex : (nI x).toNatClampNeg = x := nI_clamp (by omega)
    have tmi : TM i ns A B G P fr := tm.qf hf
    obtain ⟨⟨-, -, cP0, -⟩, cA, cB, -, cP, cG⟩ := tmi.2.2.2 x hxn
    have e1 : mes A B G (fun s => mturn k (P s)) fr ns (lk skp k) u x = mbeh A B G (fun s => mturn k (P s)) fr u x := by unfold mes; rw [if_pos hxn]
    have e2 : mwg (fun s => mstep k (P s)) ns 10000 x = mstep k (P x) := if_pos hxn
    have hw := mst_lt k hk (P x) (by omega)
    rw [J_X12_layCosts_L103]
    dsimp only
    rw [hf 37 0 (by decide) (by decide) (by decide) (by omega), tm.1]
    refine ⟨fun hh => absurd hh (nI_ge (by omega) (by omega)), fun _ => sp_behM hg tmi hk hu hxn ?_⟩
    have hb := fun st2 hh => mbeh_lt (T := fun s => mturn k (P s)) (fr := fr) (st2 := st2) hu cA cB cG hh
    have o1 := so_none hb
    cases hm : mbeh A B G (fun s => mturn k (P s)) fr u x with
    | none =>
      refine ⟨fun _ => ?_, fun hh => absurd rfl hh⟩
      rw [J_X12_layCosts_L154]
      intro v ev
      rw [nI_1] at ev
      subst ev
      exact ih (x + 1) i D M (by omega) hv (gi_none hi (by rw [e1]; exact hm)) hmu hf
    | some y =>
      rw [hm] at o1
      have hy := hb y hm
      refine ⟨fun hh => (by cases o1.mp hh), fun _ => ⟨51, hg.1 _ (by decide) _ (by decide) _ rfl, by rw [hg.2 _ (by decide)]; exact vp_in_nI hu (by decide), 40, hg.1 _ (by decide) _ (by decide) _ rfl, by rw [hg.2 _ (by decide)]; exact vp_in_nI (by simp only [LL]; omega) (by decide), ?_⟩⟩
      rw [ex, cP0]
      refine sp_stepsBy hk (by omega) ?_
      obtain ⟨q, f, n, v1, v2, v3, v4, v5, v6, v7⟩ := id hv
      have hDu := hi.2.2.2.2.2.2.1
      rw [nI_clamp (by omega), v5 u hu, nI_add]
      obtain ⟨p1, p2⟩ := gi_off hi (by omega) (by rw [e1]; exact hm) hy
      rw [e2] at p1 p2
      refine sp_come hg hv hy (by have := hi.2.1 _ hy; omega) (by omega) (fun i' hv' hf' => ?_)
      rw [J_X12_layCosts_L154]
      intro v ev
      rw [nI_1] at ev
      subst ev
      exact ih (x + 1) i' _ _ (by omega) hv' p1 (Nat.le_trans (gm_off hy) hmu) (hf.tr hf')
theorem lp_lay50 {Q : jI → jL → Prop} (hg : Gr r len) (tm : TM i0 ns A B G P fr) (hk : k < 5) (hst : st < 378) (hQ : ∀ i' D' M', (∀ y, y < 378 → i' 51 y = nI (D' y)) → lF A B G P fr ns k (lk skp k) st D' M' → (∀ y, y < 378 → M' y = false) → qF i0 i' → Q i' j) : ∀ (g : Nat) (i : jI) (D : Nat → Nat) (M : Nat → Bool), fb_sm D 378 + fb_ct M 378 < g → qv i D M → lF A B G P fr ns k (lk skp k) st D M → qF i0 i → J_X12_layCosts_L50 len r Q g i j 37 (nI k) (bI skp) := by
  intro g
  induction g with
  | zero => intro i D M hmu; omega
  | succ g ih =>
    intro i D M hmu hv hi hf
    obtain ⟨q, f, n, v1, v2, v3, v4, v5, v6, v7⟩ := id hv
    rw [J_X12_layCosts_L50]
    dsimp only
    rw [v2]
    have hn := v7.1
    refine pk_le n 0 (fun hle => ?_) (fun hlt => ?_)
    · have : n = 0 := by omega
      subst this
      exact hQ i D M v5 hi (qq_none v7) hf
    · obtain ⟨n', rfl⟩ : ∃ n', n = n' + 1 := ⟨n - 1, by omega⟩
      have hq0 := v7.2.1 0 (by omega)
      have e0 := v4 0 (by omega)
      rw [Nat.add_zero, Nat.mod_eq_of_lt v3] at e0
      rw [v1, nI_clamp (by omega)]
      refine ⟨52, hg.1 _ (by decide) _ (by decide) _ rfl, by rw [hg.2 _ (by decide)]; exact vp_in_nI v3 (by decide), fun v ev i1 e1 i2 e2 => ⟨53, hg.1 _ (by decide) _ (by decide) _ rfl, ?_⟩⟩
      rw [e0] at ev
      subst ev
      have er : (nI f + (1 : Int32)) - (nI f + (1 : Int32)) / (378 : Int32) * (378 : Int32) = nI ((f + 1) % 378) := by
        rw [nI_1]
        exact pk_rem (d := 378) (by omega) (by decide) (by decide)
      rw [er] at e1
      have i1o : ∀ z f, z ≠ 37 → i1 z f = i z f := fun z f hz => by rw [e1, ju_ne hz]
      have i2o : ∀ z f, z ≠ 37 → i2 z f = i1 z f := fun z f hz => by rw [e2, ju_ne hz]
      rw [nI_clamp (by omega)]
      refine ⟨by rw [hg.2 _ (by decide)]; exact vp_in_nI hq0.1 (by decide), fun i3 e3 => ?_⟩
      rw [vb0] at e3
      have i3o : ∀ z f, z ≠ 53 → i3 z f = i2 z f := fun z f hz => by rw [e3, ju_ne hz]
      have hpop := gi_pop hi hq0.1 hq0.2
      have hct := gm_pop (N := 378) hq0.1 hq0.2
      refine ⟨ns + 1, lp_lay103 (mu := fb_sm D 378 + fb_ct (sU M (q 0) false) 378) hg tm hk hst hq0.1 (fun i' D' M' hv' hi' hmu' hf' => ih i' D' M' (by omega) hv' hi' hf') ns 0 i3 D (sU M (q 0) false) (by omega) ⟨fun t => q (t + 1), (f + 1) % 378, n', ?_, ?_, Nat.mod_lt _ (by decide), fun t ht => ?_, fun y hy => ?_, fun y hy => ?_, qq_pop v7⟩ hpop (Nat.le_refl _) (fun z g z1 z2 z3 z4 => ?_)⟩
      · rw [i3o _ _ (by decide), e2, ju_eq, pk_un (by decide), e1, ju_eq, pk_us]
      · rw [i3o _ _ (by decide), e2, ju_eq, pk_us, e1, ju_eq, pk_un (by decide), v2, nI_pred]
      · rw [i3o _ _ (by decide), i2o _ _ (by decide), i1o _ _ (by decide), show ((f + 1) % 378 + t) % 378 = (f + (t + 1)) % 378 by omega]
        exact v4 (t + 1) (by omega)
      · rw [i3o _ _ (by decide), i2o _ _ (by decide), i1o _ _ (by decide)]; exact v5 y hy
      · rw [e3, ju_eq]
        by_cases e : y = q 0
        · subst e; rw [pk_us, sU_eq]; rfl
        · rw [pk_un e, sU_ne e, i2o _ _ (by decide), i1o _ _ (by decide)]; exact v6 y hy
      · rw [i3o z g z3]
        by_cases e : z = 37
        · subst e
          rw [e2, ju_eq, pk_un (z4 rfl).2, e1, ju_eq, pk_un (z4 rfl).1]
          exact hf 37 g z1 z2 z3 z4
        · rw [i2o z g e, i1o z g e]; exact hf z g z1 z2 z3 z4
theorem lp_lay3 {Q : jI → jL → Prop} (hg : Gr r len) (tm : TM i0 ns A B G P fr) (hk : k < 5) (hst : st < 378) (hQ : ∀ i' D' M', (∀ y, y < 378 → i' 51 y = nI (D' y)) → lF A B G P fr ns k (lk skp k) st D' M' → (∀ y, y < 378 → M' y = false) → qF i0 i' → Q i' j) : ∀ (m x : Nat) (i : jI), x + m = 378 → (∀ y, y < x → i 51 y = nI 268435456 ∧ i 53 y = 0) → qF i0 i → J_X12_layCosts_L3 len r Q (m + 1) i j 37 (nI k) (nI st) (bI skp) (nI x) := by
  intro m
  induction m with
  | zero =>
    intro x i hx h1 hf
    have hx' : x = 378 := by omega
    subst hx'
    rw [J_X12_layCosts_L3]
    refine ⟨fun _ i1 e1 i2 e2 => ?_, fun hh => absurd (by decide) hh⟩
    have i1o : ∀ z f, z ≠ 37 → i1 z f = i z f := fun z f hz => by rw [e1, ju_ne hz]
    have i2o : ∀ z f, z ≠ 37 → i2 z f = i1 z f := fun z f hz => by rw [e2, ju_ne hz]
    have hv2 : qv i2 (fun _ => 268435456) (fun _ => false) := by
      refine ⟨fun _ => 0, 0, 0, ?_, ?_, by decide, fun t ht => by omega, fun y hy => ?_, fun y hy => ?_, by omega, fun t ht => by omega, fun y hy hm => (by cases hm), fun t t' _ ht' => by omega⟩
      · rw [e2, ju_eq, pk_un (by decide), e1, ju_eq, pk_us]; rfl
      · rw [e2, ju_eq, pk_us]; rfl
      · rw [i2o _ _ (by decide), i1o _ _ (by decide)]; exact (h1 y hy).1
      · rw [i2o _ _ (by decide), i1o _ _ (by decide)]; exact (h1 y hy).2
    have hf2 : qF i0 i2 := by
      intro z g z1 z2 z3 z4
      by_cases e : z = 37
      · subst e
        rw [e2, ju_eq, pk_un (z4 rfl).2, e1, ju_eq, pk_un (z4 rfl).1]
        exact hf 37 g z1 z2 z3 z4
      · rw [i2o z g e, i1o z g e]; exact hf z g z1 z2 z3 z4
    refine sp_come (k := 0) hg hv2 hst (by decide) (by decide) (fun i3 hv3 hf3 => ?_)
    have eD : dD (fun _ => 268435456) st 0 = sU (fun _ => 268435456) st 0 := if_pos (show 0 < 268435456 by decide)
    have eM : dM (fun _ => 268435456) (fun _ => false) st 0 = sU (fun _ => false) st true := if_pos (show 0 < 268435456 by decide)
    rw [eD, eM] at hv3
    exact ⟨_, lp_lay50 hg tm hk hst hQ _ i3 _ _ (Nat.lt_succ_self _) hv3 (gi_start hst (by decide)) (hf2.tr hf3)⟩
  | succ m ih =>
    intro x i hx h1 hf
    rw [J_X12_layCosts_L3]
    refine ⟨fun hh => absurd hh (nI_ge (b := 378) (by omega) (by decide)), fun _ => ⟨51, hg.1 _ (by decide) _ (by decide) _ rfl, by rw [hg.2 _ (by decide)]; exact vp_in_nI (by simp only [LL]; omega) (by decide), fun i1 e1 => ⟨53, hg.1 _ (by decide) _ (by decide) _ rfl, by rw [hg.2 _ (by decide)]; exact vp_in_nI (by simp only [LL]; omega) (by decide), fun i2 e2 v ev => ?_⟩⟩⟩
    rw [nI_clamp (by omega)] at e1 e2
    rw [vb0] at e2
    rw [nI_1] at ev
    subst ev
    refine ih (x + 1) i2 (by omega) (fun y hy => ?_) (fun z g z1 z2 z3 z4 => ?_)
    · by_cases e : y = x
      · subst e
        rw [e2, ju_ne (by decide), ju_eq, e1, ju_eq, pk_us, pk_us]
        exact ⟨rfl, rfl⟩
      · rw [e2, ju_ne (by decide), ju_eq, e1, ju_eq, ju_ne (by decide), pk_un e, pk_un e]
        exact h1 y (by omega)
    · rw [e2, ju_ne z3, e1, ju_ne z1]; exact hf z g z1 z2 z3 z4
theorem sp_lay {Q : jI → jL → Prop} (hg : Gr r len) (tm : TM i0 ns A B G P fr) (hk : k < 5) (hst : st < 378) (hQ : ∀ i' D' M', (∀ y, y < 378 → i' 51 y = nI (D' y)) → lF A B G P fr ns k (lk skp k) st D' M' → (∀ y, y < 378 → M' y = false) → qF i0 i' → Q i' j) : J_X12_layCosts len r Q i0 j 37 (nI k) (nI st) (bI skp) := by
  rw [J_X12_layCosts]
  exact ⟨379, lp_lay3 hg tm hk hst hQ 378 0 i0 (by omega) (fun y hy => by omega) qF.rf⟩
theorem lp_costTo {Q : Int32 → jI → jL → Prop} {i : jI} {D : Nat → Nat} {p : Nat} (hg : Gr r len) (hp : p < 7) (hc : ∀ y, y < 378 → i 51 y = nI (D y)) (hD : ∀ y, y < 378 → D y ≤ 268435456) (hQ : ∀ l, l ≤ 268435456 → (l < 268435456 → ∃ x, x < 378 ∧ x % 7 = p ∧ D x = l) → (∀ x, x < 378 → x % 7 = p → l ≤ D x) → Q (nI l) i j) : ∀ (m t l : Nat), t + m = 54 → l ≤ 268435456 → (l < 268435456 → ∃ x, x < 378 ∧ x % 7 = p ∧ D x = l) → (∀ x, x < p + 7 * t → x % 7 = p → l ≤ D x) → J_X12_costTo_L5 len r Q (m + 1) i j 37 (nI l) (nI (p + 7 * t)) := by
  intro m
  induction m with
  | zero =>
    intro t l ht h1 h2 h3
    have ht' : t = 54 := by omega
    subst ht'
    rw [J_X12_costTo_L5]
    refine pk_le 378 (p + 7 * 54) (fun _ => hQ l h1 h2 (fun x hx hxp => h3 x (by omega) hxp)) (fun h => by omega)
  | succ m ih =>
    intro t l ht h1 h2 h3
    have hx : p + 7 * t < 378 := by omega
    have hd := hD _ hx
    have fin : ∀ l', l' ≤ 268435456 → (l' < 268435456 → ∃ x, x < 378 ∧ x % 7 = p ∧ D x = l') → (∀ x, x < p + 7 * t → x % 7 = p → l' ≤ D x) → l' ≤ D (p + 7 * t) → J_X12_costTo_L32 len r Q (J_X12_costTo_L5 len r Q (m + 1)) i j 37 (nI (p + 7 * t)) (nI l') := by
      intro l' a1 a2 a3 a4
      rw [J_X12_costTo_L32]
      intro v ev
      rw [show (7 : Int32) = nI 7 from by decide, nI_add, show p + 7 * t + 7 = p + 7 * (t + 1) by omega] at ev
      subst ev
      refine ih (t + 1) l' (by omega) a1 a2 (fun x hx2 hxp => ?_)
      by_cases e : x = p + 7 * t
      · subst e; exact a4
      · exact a3 x (by omega) hxp
    rw [J_X12_costTo_L5]
    refine pk_le 378 (p + 7 * t) (fun h => by omega) (fun _ => ⟨51, hg.1 _ (by decide) _ (by decide) _ rfl, by rw [hg.2 _ (by decide)]; exact vp_in_nI hx (by decide), ?_⟩)
    rw [nI_clamp (by omega), hc _ hx]
    refine pk_le l (D (p + 7 * t)) (fun hle => fin l h1 h2 h3 hle) (fun hlt => ⟨51, hg.1 _ (by decide) _ (by decide) _ rfl, by rw [hg.2 _ (by decide)]; exact vp_in_nI hx (by decide), ?_⟩)
    rw [hc _ hx]
    exact fin _ hd (fun _ => ⟨_, hx, by omega, rfl⟩) (fun x a b => Nat.le_trans (Nat.le_of_lt hlt) (h3 x a b)) (Nat.le_refl _)
/-- least costs as the reference tells them -/
def cM (o : Option Nat) : Nat := match o with
  | none => 268435456
  | some c => c
theorem mst_39 : ∀ k, k < 5 → ∀ p, p < 16 → mstep k p ≤ 64 := by decide +kernel
theorem wcs_small {T w : Nat → Nat} {sk : Bool} {S p c : Nat} (tok : Tok ns A B G) (hst : st < 378) (hw : ∀ s, s < ns → w s ≤ S) (h : wcs A B G T w fr ns sk S st p c) : ∃ c', c' ≤ c ∧ c' ≤ S * 378 ∧ wcs A B G T w fr ns sk S st p c' := by
  obtain ⟨u, hu, h⟩ := h
  obtain ⟨c', h1, h2, h3⟩ := gw_small (N := 378) (B := S) hst (fun x hx a _ y h => mes_lt tok hx h) (fun a _ => by unfold mwg; split; exact hw a (by assumption); exact Nat.le_refl _) h
  exact ⟨c', h1, h2, u, hu, h3⟩
theorem sp_costTo {Q : Int32 → jI → jL → Prop} {i : jI} {D : Nat → Nat} {M : Nat → Bool} {p : Nat} {sk : Bool} (hg : Gr r len) (tok : Tok ns A B G) (hP : ∀ s, s < ns → P s < 16) (hk : k < 5) (hp : p < 7) (hst : st < 378) (hc : ∀ y, y < 378 → i 51 y = nI (D y)) (hi : lF A B G P fr ns k sk st D M) (hM : ∀ y, y < 378 → M y = false) (hQ : ∀ o, gw_ls (wcs A B G (fun s => mturn k (P s)) (fun s => mstep k (P s)) fr ns sk 10000 st p) o → cM o ≤ 268435456 → (∀ c, o = some c → c ≤ 3780000) → Q (nI (cM o)) i j) : J_X12_costTo len r Q i j 37 (nI p) := by
  have hN : ∀ x, x < 378 → ∀ a, a < ns + 1 → ∀ y, mes A B G (fun s => mturn k (P s)) fr ns sk x a = some y → y < 378 := fun x hx a _ y h => mes_lt tok hx h
  rw [J_X12_costTo]
  refine ⟨55, lp_costTo (D := D) (p := p) hg hp hc hi.2.1 (fun l h1 h2 h3 => ?_) 54 0 268435456 (by omega) (Nat.le_refl _) (fun h => by omega) (fun x hx hxp => ?_)⟩
  · have low : ∀ c, wcs A B G (fun s => mturn k (P s)) (fun s => mstep k (P s)) fr ns sk 10000 st p c → l ≤ c := by
      rintro c ⟨u, hu, hw⟩
      obtain ⟨hul, hd⟩ := gi_done hst hN hi hM hw
      exact Nat.le_trans (h3 u hul hu) hd
    have hsm := fun c hc => wcs_small (T := fun s => mturn k (P s)) (fr := fr) (sk := sk) (S := 10000) (p := p) (c := c) tok hst (fun s hs => Nat.le_trans (mst_39 k hk (P s) (hP s hs)) (by decide)) hc
    rcases Nat.lt_or_ge l 268435456 with hl | hl
    · obtain ⟨x, hx, hxp, e⟩ := h2 hl
      have hw : wcs A B G (fun s => mturn k (P s)) (fun s => mstep k (P s)) fr ns sk 10000 st p l := by
        rw [← e]
        exact ⟨x, hxp, hi.2.2.2.1 x hx (by omega)⟩
      refine hQ (some l) ⟨hw, low⟩ h1 (fun c e2 => ?_)
      cases e2
      obtain ⟨c', a1, a2, a3⟩ := hsm l hw
      have := low c' a3
      omega
    · have hl' : l = 268435456 := by omega
      subst hl'
      refine hQ none (fun c hc => ?_) (Nat.le_refl _) (fun c e => (by cases e))
      obtain ⟨c', a1, a2, a3⟩ := hsm c hc
      have := low c' a3
      omega
  · omega
end Lay
