/-! who is shut out of where -/
noncomputable def dP (p : Prop) : Bool := @decide p (Classical.propDecidable p)
theorem dP_t {p : Prop} : dP p = true ↔ p := by unfold dP; exact @decide_eq_true_iff p (Classical.propDecidable p)
theorem dP_f {p : Prop} : dP p = false ↔ ¬ p := by unfold dP; exact @decide_eq_false_iff_not p (Classical.propDecidable p)
theorem dP_eq {p q : Prop} (h : p ↔ q) : dP p = dP q := by rw [propext h]
theorem bs_cong {f g : Nat → Bool} : ∀ n, (∀ s, s < n → f s = g s) → bs f n = bs g n := by
  intro n
  induction n with
  | zero => intro _; rfl
  | succ n ih => intro h; rw [bs, bs, ih (fun s hs => h s (by omega)), h n (by omega)]
/-- the places that one can't come to -/
noncomputable def shv (A B G T : Nat → Nat) (fr : Bool) (ns st : Nat) : Nat := bs (fun p => dP (¬ ∃ u, u < 378 ∧ re (rs A B G (fun s => 2 ^ T s) fr true) (2 * ns) st u ∧ u % 7 = p)) 7
theorem tp2 : ∀ t, t < 2 → ∀ x, x < 2 → ((2 ^ t).testBit x = true ↔ x = t) := by decide +kernel
section Shv
variable {A B G T P : Nat → Nat} {fr : Bool} {ns st u kd : Nat}
theorem re_way {wt : Nat → Nat} (hT : ∀ s, s < ns → T s < 2) : re (rs A B G (fun s => 2 ^ T s) fr true) (2 * ns) st u ↔ ∃ c, gw_way (mes A B G T fr ns false) (ns + 1) wt st u c := by
  constructor
  · intro h
    refine re_ind (P := fun u => ∃ c, gw_way (mes A B G T fr ns false) (ns + 1) wt st u c) ⟨0, gw_nil⟩ ?_ h
    rintro x a y _ ⟨c, hc⟩ ha he
    unfold rs at he
    split at he
    · rename_i hh
      have e1 := (tp2 _ (hT (a / 2) (by omega)) _ (Nat.mod_lt _ (by decide))).mp hh.2
      refine ⟨_, gw_step (a := a / 2) hc (by omega) ?_⟩
      unfold mes
      rw [if_pos (by omega)]
      rw [e1] at he
      exact he
    · cases he
  · rintro ⟨c, h⟩
    refine gw_ind (P := fun u _ => re (rs A B G (fun s => 2 ^ T s) fr true) (2 * ns) st u) re_nil ?_ h
    intro x c a y _ hx ha he
    unfold mes at he
    split at he
    · rename_i hn
      refine re_step (a := 2 * a + T a) hx (by have := hT a hn; omega) ?_
      rw [rs_eq (tn := fun s => 2 ^ T s) (s := a) (t := T a) (Or.inl rfl) (hT a hn) ((tp2 _ (hT a hn) _ (hT a hn)).mpr rfl)]
      exact he
    · cases he
theorem cw_re {p : Nat} (tok : Tok ns A B G) (hst : st < 378) : (∃ c, cw A B G P fr ns kd false 10000 st p c) ↔ ∃ u, u < 378 ∧ re (rs A B G (fun s => 2 ^ mturn kd (P s)) fr true) (2 * ns) st u ∧ u % 7 = p := by
  have hT : ∀ s, s < ns → mturn kd (P s) < 2 := fun s _ => mtn_lt kd (P s)
  constructor
  · rintro ⟨c, u, hu, hw⟩
    have h2 := (re_way (T := fun s => mturn kd (P s)) hT).mpr ⟨c, hw⟩
    exact ⟨u, re_lt hst (fun x hx a ha y he => rs_lt tok ha hx he) h2, h2, hu⟩
  · rintro ⟨u, hul, hre, hu⟩
    obtain ⟨c, hc⟩ := (re_way (T := fun s => mturn kd (P s)) (wt := mwg (fun s => mstep kd (P s)) ns 10000) hT).mp hre
    exact ⟨c, u, hu, hc⟩
theorem re_congT {T' : Nat → Nat} (h : ∀ s, s < ns → T s = T' s) : re (rs A B G (fun s => 2 ^ T s) fr true) (2 * ns) st u → re (rs A B G (fun s => 2 ^ T' s) fr true) (2 * ns) st u := by
  intro hr
  refine re_ind (P := fun u => re (rs A B G (fun s => 2 ^ T' s) fr true) (2 * ns) st u) re_nil ?_ hr
  intro x a y _ hx ha he
  refine re_step hx ha ?_
  unfold rs at he ⊢
  split at he
  · rename_i hh
    have e := h (a / 2) (by omega)
    rw [if_pos ⟨hh.1, by show (2 ^ T' (a / 2)).testBit (a % 2) = true; rw [← e]; exact hh.2⟩]
    exact he
  · cases he
theorem shv_cong {T' : Nat → Nat} (h : ∀ s, s < ns → T s = T' s) : shv A B G T fr ns st = shv A B G T' fr ns st := by
  unfold shv
  refine bs_cong 7 (fun p _ => dP_eq (not_congr ⟨?_, ?_⟩))
  · rintro ⟨u, h1, h2, h3⟩; exact ⟨u, h1, re_congT h h2, h3⟩
  · rintro ⟨u, h1, h2, h3⟩; exact ⟨u, h1, re_congT (fun s hs => (h s hs).symm) h2, h3⟩
theorem shv_lt : shv A B G T fr ns st < 128 := bs_lt _ 7
end Shv
section ReachQ
variable {len : Nat → Nat} {r : jR} {i : jI} {j : jL} {ns st : Nat} {A B G P tn T w : Nat → Nat} {fr : Bool} {R : Nat → Prop}
theorem lp_rtake {Q : jI → jL → Prop} {i0 : jI} (hg : Gr r len) (hns : ns ≤ 10) (hga : ga i0 17 18 ns w T) (hT : ∀ s, s < ns → T s < 2) (hQ : ∀ i', (∀ z f, z ≠ 29 → i' z f = i0 z f) → (∀ s, s < ns → i' 29 s = nI (2 ^ T s)) → Q i' j) : ∀ (m x : Nat) (i : jI), x + m = ns → (∀ z f, z ≠ 29 → i z f = i0 z f) → (∀ s, s < x → i 29 s = nI (2 ^ T s)) → J_X6_take_L2 len r Q (m + 1) i j 27 16 (nI ns) (nI x) := by
  intro m
  induction m with
  | zero =>
    intro x i hx h1 h2
    have hx' : x = ns := by omega
    subst hx'
    rw [J_X6_take_L2]
    exact ⟨fun _ => hQ i h1 h2, fun hh => absurd (nI_le (Nat.le_refl _) (by omega)) hh⟩
  | succ m ih =>
    intro x i hx h1 h2
    have hxn : x < ns := by omega
    rw [J_X6_take_L2]
    refine ⟨fun hh => absurd hh (nI_ge (by omega) (by omega)), fun _ => ⟨29, hg.1 _ (by decide) _ (by decide) _ rfl, 18, hg.1 _ (by decide) _ (by decide) _ rfl, by rw [hg.2 _ (by decide)]; exact vp_in_nI (by simp only [LL]; omega) (by decide), by rw [hg.2 _ (by decide)]; exact vp_in_nI (by simp only [LL]; omega) (by decide), fun i1 e1 v ev => ?_⟩⟩
    rw [nI_clamp (by omega), h1 18 x (by decide), (hga x hxn).2, sh1 _ (by have := hT x hxn; omega)] at e1
    rw [nI_1] at ev
    subst ev
    refine ih (x + 1) i1 (by omega) (fun z f hz => by rw [e1, ju_ne hz]; exact h1 z f hz) (fun s hs => ?_)
    rw [e1, ju_eq]
    by_cases e : s = x
    · subst e; rw [pk_us]
    · rw [pk_un e]; exact h2 s (by omega)
theorem sp_rtake {Q : jI → jL → Prop} (hg : Gr r len) (hns : ns ≤ 10) (hga : ga i 17 18 ns w T) (hT : ∀ s, s < ns → T s < 2) (hQ : ∀ i', (∀ z f, z ≠ 29 → i' z f = i z f) → (∀ s, s < ns → i' 29 s = nI (2 ^ T s)) → Q i' j) : J_X6_take len r Q i j 27 16 (nI ns) := by
  rw [J_X6_take]
  exact ⟨ns + 1, lp_rtake hg hns hga hT hQ ns 0 i (by omega) (fun _ _ _ => rfl) (fun s hs => by omega)⟩
theorem sp_hasStand {Q : Int32 → jI → jL → Prop} {p f : Nat} (hg : Gr r len) (hR : ∀ e, e < 896 → (mS j e = true ↔ ∃ u, u < 378 ∧ e = enc u ∧ R u)) (hp : p < 7) (hf : f < 2) (hQ0 : (¬ ∃ u, u < 378 ∧ R u ∧ u % 7 = p ∧ u / 7 % 2 = f) → Q 0 i j) (hQ1 : (∃ u, u < 378 ∧ R u ∧ u % 7 = p ∧ u / 7 % 2 = f) → Q 1 i j) : J_X6_hasStand len r Q i j 27 (nI p) (nI f) := by
  rw [J_X6_hasStand, show nI p * (2 : Int32) = nI (p * 2) from pk_mul p 2, nI_add, nI_clamp (show p * 2 + f < 2 ^ 31 by omega)]
  refine ⟨28, hg.1 _ (by decide) _ (by decide) _ rfl, by rw [hg.2 _ (by decide)]; exact vp_in_nI (by show p * 2 + f < 14; omega) (by decide), ?_⟩
  rw [lg_cmp_eq]
  refine ⟨fun hz => hQ0 ?_, fun hz => hQ1 ?_⟩
  · rintro ⟨u, hu, hr, u1, u2⟩
    have h1 := (hR (enc u) (enc_lt u hu)).mpr ⟨u, hu, rfl, hr⟩
    unfold mS at h1
    rw [enc_hi u hu, u1, u2, hz, tb_zero] at h1
    cases h1
  · refine Classical.byContradiction (fun hn => hz (tb_ext (fun b hb => ?_)))
    rw [tb_zero]
    cases h1 : tb (j 28 (p * 2 + f)) b with
    | false => rfl
    | true =>
      obtain ⟨u, hu, he, hr⟩ := (hR ((p * 2 + f) * 64 + b) (by omega)).mp (by
        unfold mS
        rw [show ((p * 2 + f) * 64 + b) / 64 = p * 2 + f by omega, show ((p * 2 + f) * 64 + b) % 64 = b by omega]
        exact h1)
      have hh := enc_hi u hu
      rw [← he] at hh
      exact absurd ⟨u, hu, hr, by omega, by omega⟩ hn
theorem sp_hasPlace {Q : Int32 → jI → jL → Prop} {p : Nat} (hg : Gr r len) (hR : ∀ e, e < 896 → (mS j e = true ↔ ∃ u, u < 378 ∧ e = enc u ∧ R u)) (hp : p < 7) (hQ0 : (¬ ∃ u, u < 378 ∧ R u ∧ u % 7 = p) → Q 0 i j) (hQ1 : (∃ u, u < 378 ∧ R u ∧ u % 7 = p) → Q 1 i j) : J_X6_hasPlace len r Q i j 27 (nI p) := by
  rw [J_X6_hasPlace]
  have yes : ∀ f, (∃ u, u < 378 ∧ R u ∧ u % 7 = p ∧ u / 7 % 2 = f) → J_X6_hasPlace_L18 len r Q i j := by
    rintro f ⟨u, h1, h2, h3, -⟩
    rw [J_X6_hasPlace_L18]
    exact hQ1 ⟨u, h1, h2, h3⟩
  refine sp_hasStand (f := 0) hg hR hp (by decide) (fun n0 => ⟨fun hh => absurd rfl hh, fun _ => ?_⟩) (fun h => ⟨fun _ => yes 0 h, fun hh => absurd hh (by decide)⟩)
  refine sp_hasStand (f := 1) hg hR hp (by decide) (fun n1 => ⟨fun _ => hQ0 ?_, fun hh => absurd rfl hh⟩) (fun h => ⟨fun hh => absurd hh (by decide), fun _ => yes 1 h⟩)
  rintro ⟨u, h1, h2, h3⟩
  rcases (show u / 7 % 2 = 0 ∨ u / 7 % 2 = 1 by omega) with h4 | h4
  · exact n0 ⟨u, h1, h2, h3, h4⟩
  · exact n1 ⟨u, h1, h2, h3, h4⟩
theorem lp_missed {Q : Int32 → jI → jL → Prop} (hg : Gr r len) (hR : ∀ e, e < 896 → (mS j e = true ↔ ∃ u, u < 378 ∧ e = enc u ∧ R u)) (hQ : Q (nI (bs (fun p => dP (¬ ∃ u, u < 378 ∧ R u ∧ u % 7 = p)) 7)) i j) : ∀ (m x : Nat), x + m = 7 → J_X6_placesMissed_L4 len r Q (m + 1) i j 27 (nI (bs (fun p => dP (¬ ∃ u, u < 378 ∧ R u ∧ u % 7 = p)) x)) (nI x) := by
  intro m
  induction m with
  | zero =>
    intro x hx
    have hx' : x = 7 := by omega
    subst hx'
    rw [J_X6_placesMissed_L4]
    exact ⟨fun _ => hQ, fun hh => absurd (by decide) hh⟩
  | succ m ih =>
    intro x hx
    have fin : ∀ z, z = bs (fun p => dP (¬ ∃ u, u < 378 ∧ R u ∧ u % 7 = p)) (x + 1) → J_X6_placesMissed_L24 len r Q (J_X6_placesMissed_L4 len r Q (m + 1)) i j 27 (nI z) (nI x) := by
      intro z hz
      subst hz
      rw [J_X6_placesMissed_L24]
      intro v ev
      rw [nI_1] at ev
      subst ev
      exact ih (x + 1) (by omega)
    rw [J_X6_placesMissed_L4]
    refine ⟨fun hh => absurd hh (nI_ge (b := 7) (by omega) (by decide)), fun _ => ?_⟩
    refine sp_hasPlace hg hR (by omega) (fun hn => ⟨fun hh => absurd rfl hh, fun _ v ev => ?_⟩) (fun hy => ⟨fun _ => fin _ ?_, fun hh => absurd hh (by decide)⟩)
    · rw [nI_setb (bs_lt _ _) (by omega)] at ev
      subst ev
      refine fin _ ?_
      rw [bs, if_pos (dP_t.mpr hn)]
    · rw [bs, if_neg (fun z => absurd hy (dP_t.mp z)), Nat.add_zero]
theorem sp_shutPlaces {Q : Int32 → jI → jL → Prop} {k : Nat} (hg : Gr r len) (tc : TC i ns A B G P fr) (hga : ga i 17 18 ns w T) (hT : ∀ s, s < ns → T s < 2) (hst : st < 378) (hk : k < 5) (e1 : i (32 + k) 1 = nI (enc st)) (hQ : ∀ i' j', (∀ z f, z ≠ 29 → i' z f = i z f) → Q (nI (shv A B G T fr ns st)) i' j') : J_X11_shutPlaces len r Q i j 0 (32 + k) := by
  rw [J_X11_shutPlaces]
  refine ⟨27, hg.1 _ (by decide) _ (by decide) _ rfl, 16, hg.1 _ (by decide) _ (by decide) _ rfl, 3, hg.1 _ (by decide) _ (by decide) _ rfl, ?_⟩
  rw [tc.1]
  refine sp_rtake hg tc.2.1 hga hT (fun i1 f1 t1 => ⟨27, hg.1 _ (by decide) _ (by decide) _ rfl, 3, hg.1 _ (by decide) _ (by decide) _ rfl, ?_⟩)
  rw [f1 (32 + k) 1 (by omega), e1]
  have tc1 : TC i1 ns A B G P fr := tc.frm (fun a f h1 h2 => f1 a f (by omega))
  refine sp_spread (tn := fun s => 2 ^ T s) (thr := true) hg tc1 (fun s hs => ⟨t1 s hs, ?_⟩) hst (fun j1 hR hj => ⟨27, hg.1 _ (by decide) _ (by decide) _ rfl, ?_⟩)
  · rcases (show T s = 0 ∨ T s = 1 by have := hT s hs; omega) with e | e <;> (show 2 ^ T s < 4; rw [e]; decide)
  · rw [J_X6_placesMissed]
    exact ⟨8, lp_missed hg hR (hQ i1 j1 f1) 7 0 (by omega)⟩
end ReachQ
theorem tF.wf {i i1 : jI} (h : ∀ z f, z ≠ 29 → i1 z f = i z f) : wF i i1 := fun x f hk => h x f (by unfold kp at hk; omega)
section ShutM
variable {len : Nat → Nat} {r : jR} {i : jI} {j : jL} {ns kd st w : Nat} {A B G P : Nat → Nat} {fr : Bool}
theorem lp_shutM {Q : Int32 → jI → jL → Prop} {D : Nat → Nat} {M : Nat → Bool} (hg : Gr r len) (tok : Tok ns A B G) (hP : ∀ s, s < ns → P s < 16) (hkd : kd < 5) (hst : st < 378) (h1 : ∀ y, y < 378 → i 51 y = nI (D y)) (h2 : lF A B G P fr ns kd false st D M) (h3 : ∀ y, y < 378 → M y = false) (hQ : Q (nI (shv A B G (fun s => mturn kd (P s)) fr ns st)) i j) : ∀ (m x : Nat), x + m = 7 → J_X12_shutNow_L21 len r Q (m + 1) i j 37 (nI (bs (fun p => dP (¬ ∃ u, u < 378 ∧ re (rs A B G (fun s => 2 ^ mturn kd (P s)) fr true) (2 * ns) st u ∧ u % 7 = p)) x)) (nI x) := by
  intro m
  induction m with
  | zero =>
    intro x hx
    have hx' : x = 7 := by omega
    subst hx'
    rw [J_X12_shutNow_L21]
    exact ⟨fun _ => hQ, fun hh => absurd (by decide) hh⟩
  | succ m ih =>
    intro x hx
    have ih' := ih (x + 1) (by omega)
    rw [J_X12_shutNow_L21]
    refine ⟨fun hh => absurd hh (nI_ge (b := 7) (by omega) (by decide)), fun _ => sp_costTo hg tok hP hkd (by omega) hst h1 h2 h3 (fun o ho _ hb => ?_)⟩
    have ef := cM_far hb
    have hre := cw_re (P := P) (fr := fr) (kd := kd) (p := x) tok hst
    refine ⟨fun hne => ?_, fun heq => ?_⟩
    · rw [J_X12_shutNow_L45]
      intro v ev v2 ev2
      rw [Int32.or_zero] at ev
      rw [nI_1] at ev2
      subst ev ev2
      rw [bs, if_neg (fun z => ?_), Nat.add_zero] at ih'
      · exact ih'
      · refine dP_t.mp z (hre.mp ?_)
        cases o with
        | none => exact absurd (ef.mpr rfl) hne
        | some c => exact ⟨c, ho.1⟩
    · have hn := ef.mp heq
      subst hn
      rw [J_X12_shutNow_L45]
      intro v ev v2 ev2
      rw [nI_setb (bs_lt _ _) (by omega)] at ev
      rw [nI_1] at ev2
      subst ev ev2
      rw [bs, if_pos (dP_t.mpr (fun z => ?_))] at ih'
      · exact ih'
      · obtain ⟨c, hc⟩ := hre.mpr z
        exact ho c hc
theorem sp_shutM {Q : Int32 → jI → jL → Prop} (hg : Gr r len) (tm : TM i ns A B G P fr) (hkd : kd < 5) (hst : st < 378) (hw : w < 5) (e0 : i 42 w = nI kd) (e1 : i 43 w = nI st) (hQ : ∀ i', qF i i' → Q (nI (shv A B G (fun s => mturn kd (P s)) fr ns st)) i' j) : J_X12_shutNow len r Q i j 37 (nI w) := by
  have hv : vp_in (nI w) 5 := vp_in_nI hw (by decide)
  rw [J_X12_shutNow, nI_clamp (show w < 2 ^ 31 by omega)]
  refine ⟨42, hg.1 _ (by decide) _ (by decide) _ rfl, by rw [hg.2 _ (by decide)]; exact hv, 43, hg.1 _ (by decide) _ (by decide) _ rfl, by rw [hg.2 _ (by decide)]; exact hv, ?_⟩
  rw [e0, e1]
  exact sp_lay (skp := false) hg tm hkd hst (fun i1 D M h1 h2 h3 hf => ⟨8, lp_shutM hg tm.tok tm.p16 hkd hst h1 h2 h3 (hQ i1 hf) 7 0 (by omega)⟩)
end ShutM
section OkShut
variable {len : Nat → Nat} {r : jR} {i : jI} {j : jL} {k : Nat} {y1 y2 y3 y4 : Int32}
theorem ok_15 (hg : Gr r len) (h : Rp k i) : J_X11_shut len r (fun q i1 j1 => J_X12_shut len r (fun q2 i2 j2 => q = q2 ∧ Rp (k + 5) i2) i1 j1 37 y1) i j 0 y1 := by
  have hR := h.up (k2 := k + 5) (by omega)
  obtain ⟨ns, ng, nt, nw, np, dn, pl, A, B, G, P, fr, h1, h2, h3, h4, h5, h6, h7, h8⟩ := h
  obtain ⟨w1, w2, w3, w4⟩ := h4
  rw [J_X11_shut]
  rcases out_or y1 (n := nw) (by omega) with ho | ⟨w, hw, rfl⟩
  · refine wkC_no (by omega) w2 ho ⟨fun hh => absurd rfl hh, fun _ => ?_⟩
    rw [J_X12_shut]
    exact wkM_no (by omega) w1 ho ⟨fun _ => ⟨rfl, hR⟩, fun hh => absurd rfl hh⟩
  · obtain ⟨kd, st, q1, q2, q3, q4, q5, q6, q7⟩ := w4 w hw
    have ew : (nI w).toNatClampNeg = w := nI_clamp (by omega)
    have hv : vp_in (nI w) 5 := vp_in_nI (by omega) (by decide)
    refine wkC_yes (by omega) w2 hw ⟨fun _ => ⟨9, hg.1 _ (by decide) _ (by decide) _ rfl, by rw [hg.2 _ (by decide)]; exact hv, 32 + w, by rw [ew]; exact hg.1 9 (by decide) w (by omega) _ (RR9 w (by omega)), 16, hg.1 _ (by decide) _ (by decide) _ rfl, 3, hg.1 _ (by decide) _ (by decide) _ rfl, ?_⟩, fun hh => absurd hh (by decide)⟩
    rw [q4]
    refine sp_gait hg (hg16 hg) h1.2.1 q1 (fun i1 f1 ga1 => ?_)
    have tc1 : TC i1 ns A B G P fr := h1.2.1.wf (gF.wf f1)
    refine sp_shutPlaces hg tc1 ga1 (fun s _ => mtn_lt kd (P s)) q2 (by omega) ((f1 (32 + w) 1 (by omega) (by omega)).trans q6) (fun i2 j2 f2 => ?_)
    have hf := (gF.wf f1).tr (tF.wf f2)
    rw [J_X12_shut]
    refine wkM_yes (by omega) ((hf 37 8 (by unfold kp; omega)).trans w1) hw ⟨fun hh => absurd hh (by decide), fun _ => ?_⟩
    exact sp_shutM hg (h1.1.wf hf) q1 q2 (by omega) ((hf _ _ (by unfold kp; omega)).trans q3) ((hf _ _ (by unfold kp; omega)).trans q5) (fun i3 hf3 => ⟨rfl, hR.sm (hf.tr hf3.wf).sm⟩)
/-- kinds and stands of the walkers, read off the reference's rows -/
def kdo (i : jI) (w : Nat) : Nat := (i 42 w).toNatClampNeg
def sto (i : jI) (w : Nat) : Nat := (i 43 w).toNatClampNeg
theorem RW.fn {nw : Nat} (h : RW i nw) : ∀ w, w < nw → RWk i w (kdo i w) (sto i w) := by
  intro w hw
  obtain ⟨kd, st, h1, h2, h3, h4⟩ := h.2.2.2 w hw
  have e1 : kdo i w = kd := by unfold kdo; rw [h3, nI_clamp (by omega)]
  have e2 : sto i w = st := by unfold sto; rw [h4.2.1, nI_clamp (by omega)]
  rw [e1, e2]
  exact ⟨h1, h2, h3, h4⟩
noncomputable def chF (A B G P : Nat → Nat) (fr : Bool) (ns s v : Nat) (i : jI) (w : Nat) : Bool := decide (shv A B G (fun z => mturn (kdo i w) (if z = s then v else P z)) fr ns (sto i w) ≠ shv A B G (fun z => mturn (kdo i w) (P z)) fr ns (sto i w))
theorem lp_change {Q : Int32 → jI → jL → Prop} {ns ng nw s v : Nat} {A B G P : Nat → Nat} {fr : Bool} {i0 : jI} (hg : Gr r len) (tc : TC i0 ns A B G P fr) (hW : RW i0 nw) (hs : s < ns) (hv : v ≤ 9) (hQ : ∀ i' j', wF i0 i' → Q (nI (bs (chF A B G P fr ns s v i0) nw)) i' j') : ∀ (m x : Nat) (i : jI) (j : jL), x + m = nw → wF i0 i → J_X11_change_L28 len r Q (m + 1) i j 0 (nI s) (nI v) (nI (bs (chF A B G P fr ns s v i0) x)) (nI x) := by
  have hwf := hW.fn
  obtain ⟨w1, w2, w3, w4⟩ := hW
  intro m
  induction m with
  | zero =>
    intro x i j hx hf
    have hx' : x = nw := by omega
    subst hx'
    rw [J_X11_change_L28]
    dsimp only
    rw [(hf 0 3 (by unfold kp; omega)).trans w2]
    exact ⟨fun _ => hQ i j hf, fun hh => absurd (nI_le (Nat.le_refl _) (by omega)) hh⟩
  | succ m ih =>
    intro x i j hx hf
    obtain ⟨q1, q2, q3, q4, q5, q6, q7⟩ := hwf x (by omega)
    have ew : (nI x).toNatClampNeg = x := nI_clamp (by omega)
    have hn := tc.2.1
    rw [J_X11_change_L28]
    dsimp only
    rw [(hf 0 3 (by unfold kp; omega)).trans w2]
    refine ⟨fun hh => absurd hh (nI_ge (by omega) (by omega)), fun _ => ⟨9, hg.1 _ (by decide) _ (by decide) _ rfl, by rw [hg.2 _ (by decide)]; exact vp_in_nI (by simp only [LL]; omega) (by decide), 32 + x, by rw [ew]; exact hg.1 9 (by decide) x (by omega) _ (RR9 x (by omega)), ?_⟩⟩
    rw [J_X11_isShutOtherwise]
    refine ⟨16, hg.1 _ (by decide) _ (by decide) _ rfl, 3, hg.1 _ (by decide) _ (by decide) _ rfl, ?_⟩
    have e0 : i (32 + x) 0 = nI (kdo i0 x) := (hf _ _ (by unfold kp; omega)).trans q4
    have e1 : i (32 + x) 1 = nI (enc (sto i0 x)) := (hf _ _ (by unfold kp; omega)).trans q6
    rw [e0]
    refine sp_gait hg (hg16 hg) (tc.wf hf) q1 (fun i1 f1 ga1 => ?_)
    have tc1 : TC i1 ns A B G P fr := (tc.wf hf).wf (gF.wf f1)
    refine sp_shutPlaces hg tc1 ga1 (fun s _ => mtn_lt (kdo i0 x) (P s)) q2 (by omega) ((f1 _ _ (by omega) (by omega)).trans e1) (fun i2 j2 f2 => ⟨16, hg.1 _ (by decide) _ (by decide) _ rfl, ?_⟩)
    rw [f2 (32 + x) 0 (by omega), f1 (32 + x) 0 (by omega) (by omega), e0]
    refine sp_pave (hg16 hg) q1 (by omega) (by omega) (fun i3 f3 a3 b3 c3 => ?_)
    have tc3 : TC i3 ns A B G P fr := (tc1.wf (tF.wf f2)).wf (gF.wf f3)
    have ga3 : ga i3 17 18 ns (fun z => mstep (kdo i0 x) (if z = s then v else P z)) (fun z => mturn (kdo i0 x) (if z = s then v else P z)) := by
      intro z hz
      by_cases e : z = s
      · subst e; simp only [if_pos]; exact ⟨a3, b3⟩
      · simp only [if_neg e]
        rw [(c3 z e).1, (c3 z e).2, f2 _ _ (by decide), f2 _ _ (by decide)]
        exact ga1 z hz
    refine sp_shutPlaces hg tc3 ga3 (fun z _ => mtn_lt _ _) q2 (by omega) ((f3 _ _ (by omega) (by omega)).trans ((f2 _ _ (by omega)).trans ((f1 _ _ (by omega) (by omega)).trans e1))) (fun i4 j4 f4 => ?_)
    have hf4 : wF i0 i4 := hf.tr ((gF.wf f1).tr ((tF.wf f2).tr ((gF.wf f3).tr (tF.wf f4))))
    have fin : ∀ z, z = bs (chF A B G P fr ns s v i0) (x + 1) → J_X11_change_L60 len r Q (J_X11_change_L28 len r Q (m + 1)) i4 j4 0 (nI s) (nI v) (nI z) (nI x) := by
      intro z hz
      subst hz
      rw [J_X11_change_L60]
      intro v' ev
      rw [nI_1] at ev
      subst ev
      exact ih (x + 1) i4 j4 (by omega) hf4
    have l1 : shv A B G (fun z => mturn (kdo i0 x) (if z = s then v else P z)) fr ns (sto i0 x) < 128 := shv_lt
    have l2 : shv A B G (fun z => mturn (kdo i0 x) (P z)) fr ns (sto i0 x) < 128 := shv_lt
    refine pk_eq (shv A B G (fun z => mturn (kdo i0 x) (if z = s then v else P z)) fr ns (sto i0 x)) (shv A B G (fun z => mturn (kdo i0 x) (P z)) fr ns (sto i0 x)) (fun he => ⟨fun _ => fin _ ?_, fun hh => absurd rfl hh⟩) (fun hne => ⟨fun hh => absurd hh (by decide), fun _ v' ev => ?_⟩)
    · rw [bs, if_neg (by simp [chF, he]), Nat.add_zero]
    · rw [nI_setb (bs_lt _ _) (by omega)] at ev
      subst ev
      refine fin _ ?_
      rw [bs, if_pos (by simp [chF, hne])]
theorem lp_changeM {Q : Int32 → jI → jL → Prop} {ns ng nw s v : Nat} {A B G P : Nat → Nat} {fr : Bool} {i0 iw : jI} (hg : Gr r len) (tm : TM i0 ns A B G P fr) (hw8 : i0 37 8 = nI nw) (hnw : nw ≤ 5) (hwf : ∀ w, w < nw → RWk i0 w (kdo iw w) (sto iw w)) (hs : s < ns) (hv : v ≤ 9) (hQ : ∀ i', qF i0 i' → Q (nI (bs (chF A B G P fr ns s v iw) nw)) i' j) : ∀ (m x : Nat) (i : jI), x + m = nw → qF i0 i → J_X12_changeNow_L13 len r Q (m + 1) i j 37 (nI s) (nI v) (nI (P s)) (nI (bs (chF A B G P fr ns s v iw) x)) (nI x) := by
  have hn := tm.2.1
  intro m
  induction m with
  | zero =>
    intro x i hx hf
    have hx' : x = nw := by omega
    subst hx'
    rw [J_X12_changeNow_L13]
    dsimp only
    rw [(hf 37 8 (by decide) (by decide) (by decide) (by omega)).trans hw8]
    exact ⟨fun _ => hQ i hf, fun hh => absurd (nI_le (Nat.le_refl _) (by omega)) hh⟩
  | succ m ih =>
    intro x i hx hf
    obtain ⟨q1, q2, q3, q4, q5, q6, q7⟩ := hwf x (by omega)
    have es : (nI s).toNatClampNeg = s := nI_clamp (by omega)
    have hvs : vp_in (nI s) 10 := vp_in_nI (by omega) (by decide)
    have e0 : ∀ i', qF i0 i' → i' 42 x = nI (kdo iw x) := fun i' h => (h _ _ (by decide) (by decide) (by decide) (by omega)).trans q3
    have e1 : ∀ i', qF i0 i' → i' 43 x = nI (sto iw x) := fun i' h => (h _ _ (by decide) (by decide) (by decide) (by omega)).trans q5
    rw [J_X12_changeNow_L13]
    dsimp only
    rw [(hf 37 8 (by decide) (by decide) (by decide) (by omega)).trans hw8]
    refine ⟨fun hh => absurd hh (nI_ge (by omega) (by omega)), fun _ => sp_shutM hg (tm.qf hf) q1 q2 (by omega) (e0 i hf) (e1 i hf) (fun i1 hf1 => ⟨40, hg.1 _ (by decide) _ (by decide) _ rfl, by rw [hg.2 _ (by decide)]; exact hvs, fun i2 ei2 => ?_⟩)⟩
    rw [es] at ei2
    have hf01 := hf.tr hf1
    have tm1 := tm.qf hf01
    have i2o : ∀ z f, z ≠ 40 → i2 z f = i1 z f := fun z f hz => by rw [ei2, ju_ne hz]
    have tm2 : TM i2 ns A B G (fun z => if z = s then v else P z) fr := by
      obtain ⟨t1, t2, t3, t4⟩ := tm1
      refine ⟨(i2o _ _ (by decide)).trans t1, t2, (i2o _ _ (by decide)).trans t3, fun z hz => ?_⟩
      obtain ⟨⟨b1, b2, b3, b4⟩, b5, b6, b7, b8, b9⟩ := t4 z hz
      refine ⟨⟨(i2o _ _ (by decide)).trans b1, (i2o _ _ (by decide)).trans b2, ?_, (i2o _ _ (by decide)).trans b4⟩, b5, b6, b7, ?_, b9⟩
      · rw [ei2, ju_eq]
        by_cases e : z = s
        · subst e; rw [pk_us]; simp
        · rw [pk_un e]; simp [e, b3]
      · by_cases e : z = s
        · simp [e]; omega
        · simp [e]; omega
    refine sp_shutM hg tm2 q1 q2 (by omega) ((i2o _ _ (by decide)).trans (e0 i1 hf01)) ((i2o _ _ (by decide)).trans (e1 i1 hf01)) (fun i3 hf3 => ?_)
    have fin : ∀ z (t : Int32), nI (bs (chF A B G P fr ns s v iw) x) ||| t = nI z → z = bs (chF A B G P fr ns s v iw) (x + 1) → J_X12_changeNow_L58 len r Q (J_X12_changeNow_L13 len r Q (m + 1)) i3 j 37 (nI s) (nI v) (nI (P s)) (nI x) (nI (bs (chF A B G P fr ns s v iw) x)) t := by
      intro z t ht hz
      subst hz
      rw [J_X12_changeNow_L58]
      intro v1 ev1
      rw [ht] at ev1
      subst ev1
      refine ⟨40, hg.1 _ (by decide) _ (by decide) _ rfl, by rw [hg.2 _ (by decide)]; exact hvs, fun i4 ei4 v2 ev2 => ?_⟩
      rw [es] at ei4
      rw [nI_1] at ev2
      subst ev2
      refine ih (x + 1) i4 (by omega) (fun z f z1 z2 z3 z4 => ?_)
      by_cases e : z = 40
      · subst e
        rw [ei4, ju_eq]
        by_cases e2 : f = s
        · subst e2; rw [pk_us]; exact (tm.2.2.2 f hs).1.2.2.1.symm
        · rw [pk_un e2, hf3 _ _ (by decide) (by decide) (by decide) (by omega), ei2, ju_eq, pk_un e2]
          exact hf01 _ _ (by decide) (by decide) (by decide) (by omega)
      · rw [ei4, ju_ne e, hf3 _ _ z1 z2 z3 z4, i2o _ _ e]
        exact hf01 _ _ z1 z2 z3 z4
    have l1 : shv A B G (fun z => mturn (kdo iw x) (if z = s then v else P z)) fr ns (sto iw x) < 128 := shv_lt
    have l2 : shv A B G (fun z => mturn (kdo iw x) (P z)) fr ns (sto iw x) < 128 := shv_lt
    refine ⟨fun hne => fin _ _ (nI_setb (bs_lt _ _) (by omega)) ?_, fun heq => fin _ _ (Int32.or_zero) ?_⟩
    · have hne' : shv A B G (fun z => mturn (kdo iw x) (if z = s then v else P z)) fr ns (sto iw x) ≠ shv A B G (fun z => mturn (kdo iw x) (P z)) fr ns (sto iw x) := fun z => hne (by rw [z])
      rw [bs, if_pos (by simp [chF, hne'])]
    · have heq' := (nI_eq (by omega) (by omega)).mp heq
      rw [bs, if_neg (by simp [chF, heq']), Nat.add_zero]
theorem ok_20 (hg : Gr r len) (h : Rp k i) : J_X11_change len r (fun q i1 j1 => J_X12_change len r (fun q2 i2 j2 => q = q2 ∧ Rp (k + 5) i2) i1 j1 37 y1 y2) i j 0 y1 y2 := by
  have hR := h.up (k2 := k + 5) (by omega)
  obtain ⟨ns, ng, nt, nw, np, dn, pl, A, B, G, P, fr, h1, h2, h3, h4, h5, h6, h7, h8⟩ := h
  have hn : ns ≤ 10 := h1.1.2.1
  have hwf := h4.fn
  rw [J_X11_change]
  rcases out_or y1 (n := ns) (by omega) with ho | ⟨s, hs, rfl⟩
  · refine stC_no hg (by omega) h1.2.1.1 ho ⟨fun hh => absurd rfl hh, fun _ => ?_⟩
    rw [J_X12_change]
    exact stM_no (by omega) h1.1.1 ho ⟨fun hh => absurd rfl hh, fun _ => ⟨rfl, hR⟩⟩
  · refine stC_yes hg (by omega) h1.2.1.1 hs ⟨fun _ => ?_, fun hh => absurd hh (by decide)⟩
    rcases out_or y2 (n := 10) (by decide) with ho | ⟨v, hv, rfl⟩
    · refine gC_no (m := 9) (by decide) ho ⟨fun hh => absurd rfl hh, fun _ => ?_⟩
      rw [J_X12_change]
      exact stM_yes (by omega) h1.1.1 hs ⟨fun _ => gM_noK (m := 9) ho (by decide) ⟨fun _ => ⟨rfl, hR⟩, fun hh => absurd rfl hh⟩, fun hh => absurd hh (by decide)⟩
    · refine gC_yes (m := 9) (by decide) (by omega) ⟨fun _ => ⟨nw + 1, ?_⟩, fun hh => absurd hh (by decide)⟩
      refine lp_change (ng := ng) hg h1.2.1 h4 hs (by omega) (fun i1 j1 hf => ?_) nw 0 i j (by omega) wF.rf
      have tm1 := h1.1.wf hf
      have es : (nI s).toNatClampNeg = s := nI_clamp (by omega)
      rw [J_X12_change]
      refine stM_yes (by omega) tm1.1 hs ⟨fun _ => gM_yesK (m := 9) (by omega) (by decide) ⟨fun hh => absurd hh (by decide), fun _ => ?_⟩, fun hh => absurd hh (by decide)⟩
      rw [J_X12_changeNow]
      refine ⟨40, hg.1 _ (by decide) _ (by decide) _ rfl, by rw [hg.2 _ (by decide)]; exact vp_in_nI (by simp only [LL]; omega) (by decide), fun v6 e6 => ⟨nw + 1, ?_⟩⟩
      rw [es, (tm1.2.2.2 s hs).1.2.2.1] at e6
      subst e6
      exact lp_changeM (ng := ng) (iw := i) hg tm1 ((hf _ _ (by unfold kp; omega)).trans h4.1) h4.2.2.1 (fun w hw => (hwf w hw).wf (by have := h4.2.2.1; omega) hf) hs (by omega) (fun i2 hf2 => ⟨rfl, hR.sm (hf.tr hf2.wf).sm⟩) nw 0 i1 (by omega) qF.rf
end OkShut
