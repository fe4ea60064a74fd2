section RndM
variable {len : Nat → Nat} {r : jR} {j : jL} {Q : Int32 → jI → jL → Prop} {ns w home kd : Nat} {A B G P : Nat → Nat} {fr : Bool}
abbrev uN (L : Nat → Bool) (ns : Nat) : Int32 := nI (bs (fun s => !L s) ns)
theorem uN_go {L : Nat → Bool} {t : Nat} (ht : t < ns) : nI (bs (fun s => !L s) ns) ||| nI (2 ^ t) = uN (sU L t false) ns := by
  rw [fa_or, bs_or ht]
  unfold uN
  congr 1
  refine bs_cong ns (fun s _ => ?_)
  by_cases e : s = t
  · subst e; rw [sU_eq, sU_eq]; rfl
  · rw [sU_ne e, sU_ne e]
theorem uN_back {L : Nat → Bool} {t : Nat} (hn : ns ≤ 10) (ht : t < ns) (hL : L t = true) : nI (bs (fun s => !(sU L t false) s) ns) &&& (nI (2 ^ t) ^^^ (-1 : Int32)) = uN L ns := by
  rw [bs_clr hn ht]
  unfold uN
  congr 1
  refine bs_cong ns (fun s _ => ?_)
  by_cases e : s = t
  · subst e; rw [sU_eq, hL]; rfl
  · rw [sU_ne e, sU_ne e]
theorem it_77 {g d : Nat} {i : jI} {U : Int32} (hg : Gr r len) (hn : ns ≤ 10) (hh : home < 7) (h0 : i 37 0 = nI ns) (hd : d ≤ ns) (he : d = ns → ∃ st, i 54 d = nI st ∧ st < 378 ∧ st % 7 ≠ home) (h : J_X12_roundNow_L77 len r Q (J_X12_roundNow_L43 len r Q g) i j 37 (nI w) (nI home) (nI d) U) : J_X12_roundNow_L43 len r Q (g + 1) i j 37 (nI w) (nI home) (nI d) U := by
  rw [J_X12_roundNow_L43]
  dsimp only
  rw [h0]
  refine ⟨fun hneg => absurd hneg (nI_pos (by omega)), fun _ => ⟨fun _ => h, fun heq => ?_⟩⟩
  have heq' : d = ns := (nI_eq (by omega) (by omega)).mp heq
  obtain ⟨st, e1, e2, e3⟩ := he heq'
  refine ⟨54, hg.1 _ (by decide) _ (by decide) _ rfl, by rw [hg.2 _ (by decide)]; exact vp_in_nI (by show d < 11; omega) (by decide), ?_⟩
  rw [nI_clamp (show d < 2 ^ 31 by omega), e1]
  have h7 : st % 7 < 7 := Nat.mod_lt _ (by decide)
  exact sp_placeIn e2 ⟨fun _ => h, fun hq => absurd ((nI_eq (by omega) (by omega)).mp hq) e3⟩
/-- home at last -/
theorem it_end {g : Nat} {i : jI} {U : Int32} {st : Nat} (hg : Gr r len) (hn : ns ≤ 10) (hh : home < 7) (h0 : i 37 0 = nI ns) (e1 : i 54 ns = nI st) (e2 : st < 378) (e3 : st % 7 = home) (h : Q (i 55 0 - 1) i j) : J_X12_roundNow_L43 len r Q (g + 1) i j 37 (nI w) (nI home) (nI ns) U := by
  rw [J_X12_roundNow_L43]
  dsimp only
  rw [h0]
  refine ⟨fun hneg => absurd hneg (nI_pos (by omega)), fun _ => ⟨fun hne => absurd rfl hne, fun _ => ⟨54, hg.1 _ (by decide) _ (by decide) _ rfl, by rw [hg.2 _ (by decide)]; exact vp_in_nI (by show ns < 11; omega) (by decide), ?_⟩⟩⟩
  rw [nI_clamp (show ns < 2 ^ 31 by omega), e1]
  exact sp_placeIn e2 ⟨fun hne => absurd (by rw [e3]) hne, fun _ => ⟨55, hg.1 _ (by decide) _ (by decide) _ rfl, by rw [hg.2 _ (by decide)]; exact pk_in 0 11 (by decide), h⟩⟩
/-- the next street is tried -/
theorem it_try {g d t st : Nat} {i : jI} {L : Nat → Bool} (hg : Gr r len) (tm : TM i ns A B G P fr) (hkd : kd < 5) (hw : w < 5) (e42 : i 42 w = nI kd) (hd : d ≤ ns) (ht : t < ns) (e54 : i 54 d = nI st) (hst : st < 378) (e55 : i 55 d = nI t) (hs : (L t = false ∨ mbeh A B G (fun s => mturn kd (P s)) fr st t = none) → ∀ i', i' = ju i 55 d (nI (t + 1)) → J_X12_roundNow_L43 len r Q g i' j 37 (nI w) (nI home) (nI d) (uN L ns)) (hgo : L t = true → ∀ y, mbeh A B G (fun s => mturn kd (P s)) fr st t = some y → d < ns ∧ ∀ i', i' = ju (ju (ju i 55 d (nI (t + 1))) 54 (d + 1) (nI y)) 55 (d + 1) 0 → J_X12_roundNow_L43 len r Q g i' j 37 (nI w) (nI home) (nI (d + 1)) (uN (sU L t false) ns)) : J_X12_roundNow_L77 len r Q (J_X12_roundNow_L43 len r Q g) i j 37 (nI w) (nI home) (nI d) (uN L ns) := by
  have hn := tm.2.1
  have hb10 := bs1024 (ns := ns) (fun s => !L s) hn
  have ed : (nI d).toNatClampNeg = d := nI_clamp (by omega)
  have hvd : vp_in (nI d) 11 := vp_in_nI (by omega) (by decide)
  obtain ⟨-, cA, cB, -, cP, cG⟩ := tm.2.2.2 t ht
  rw [J_X12_roundNow_L77, ed, tm.1]
  refine ⟨55, hg.1 _ (by decide) _ (by decide) _ rfl, by rw [hg.2 _ (by decide)]; exact hvd, fun v ev => ?_⟩
  rw [e55] at ev
  subst ev
  refine ⟨fun _ => ⟨55, hg.1 _ (by decide) _ (by decide) _ rfl, by rw [hg.2 _ (by decide)]; exact hvd, by rw [hg.2 _ (by decide)]; exact hvd, fun i1 e1 => ?_⟩, fun hh => absurd (nI_lt ht (by omega)) hh⟩
  rw [e55, nI_1] at e1
  have i1o : ∀ z f, z ≠ 55 → i1 z f = i z f := fun z f hz => by rw [e1, ju_ne hz]
  have tm1 : TM i1 ns A B G P fr := tm.frm (fun a f z => i1o a f (by omega))
  rw [J_X12_has, sz_bit _ hb10 t (by omega), bs_tbn _ ht]
  cases hL : L t with
  | false =>
    refine ⟨fun hh => absurd (by decide) hh, fun _ => ⟨fun hh => absurd hh (by decide), fun _ => ?_⟩⟩
    rw [J_X12_roundNow_L167]
    refine ⟨fun _ => ?_, fun hh => absurd rfl hh⟩
    rw [J_X12_roundNow_L202]
    exact hs (Or.inl hL) i1 e1
  | true =>
    refine ⟨fun _ => ⟨fun _ => ⟨42, hg.1 _ (by decide) _ (by decide) _ rfl, by rw [hg.2 _ (by decide)]; exact vp_in_nI hw (by decide), 54, hg.1 _ (by decide) _ (by decide) _ rfl, by rw [hg.2 _ (by decide)]; exact hvd, ?_⟩, fun hh => absurd rfl hh⟩, fun hh => absurd hh (by decide)⟩
    rw [nI_clamp (show w < 2 ^ 31 by omega), i1o 42 w (by decide), e42, i1o 54 d (by decide), e54]
    refine sp_behM hg tm1 hkd hst ht ?_
    have hb := fun st2 hh => mbeh_lt (T := fun s => mturn kd (P s)) (fr := fr) (st2 := st2) hst cA cB cG hh
    have o1 := so_none hb
    rw [J_X12_roundNow_L167]
    cases hm : mbeh A B G (fun s => mturn kd (P s)) fr st t with
    | none =>
      refine ⟨fun _ => ?_, fun hh => absurd rfl hh⟩
      rw [J_X12_roundNow_L202]
      exact hs (Or.inr hm) i1 e1
    | some y =>
      rw [hm] at o1
      obtain ⟨hdn, hgo⟩ := hgo hL y hm
      refine ⟨fun hh => (by cases o1.mp hh), fun _ v182 e182 v184 e184 => ?_⟩
      rw [sh1 t (by omega), uN_go ht] at e182
      rw [nI_1] at e184
      subst e182 e184
      have hv1 : vp_in (nI (d + 1)) 11 := vp_in_nI (by omega) (by decide)
      refine ⟨54, hg.1 _ (by decide) _ (by decide) _ rfl, by rw [hg.2 _ (by decide)]; exact hv1, fun i2 e2 => ⟨55, hg.1 _ (by decide) _ (by decide) _ rfl, by rw [hg.2 _ (by decide)]; exact hv1, fun i3 e3 => ?_⟩⟩
      rw [nI_clamp (show d + 1 < 2 ^ 31 by omega)] at e2 e3
      rw [J_X12_roundNow_L202]
      exact hgo i3 (by rw [e3, e2, e1]; rfl)
/-- all streets were tried there: one step back -/
theorem it_back {g d t : Nat} {i : jI} {L : Nat → Bool} (hg : Gr r len) (hn : ns ≤ 10) (h0 : i 37 0 = nI ns) (hd : d < ns) (ht : t < ns) (hL : L t = true) (e55 : i 55 (d + 1) = nI ns) (e55d : i 55 d = nI (t + 1)) (h : J_X12_roundNow_L43 len r Q g i j 37 (nI w) (nI home) (nI d) (uN L ns)) : J_X12_roundNow_L77 len r Q (J_X12_roundNow_L43 len r Q g) i j 37 (nI w) (nI home) (nI (d + 1)) (uN (sU L t false) ns) := by
  rw [J_X12_roundNow_L77, nI_clamp (show d + 1 < 2 ^ 31 by omega), h0]
  refine ⟨55, hg.1 _ (by decide) _ (by decide) _ rfl, by rw [hg.2 _ (by decide)]; exact vp_in_nI (by show d + 1 < 11; omega) (by decide), fun v ev => ?_⟩
  rw [e55] at ev
  subst ev
  refine ⟨fun hh => absurd hh (nI_nlt (Nat.le_refl _) (by omega)), fun _ v94 e94 => ?_⟩
  rw [pk_m1] at e94
  subst e94
  refine ⟨fun hh => absurd hh (nI_pos (by omega)), fun _ => ⟨55, hg.1 _ (by decide) _ (by decide) _ rfl, by rw [hg.2 _ (by decide)]; exact vp_in_nI (by show d < 11; omega) (by decide), ?_⟩⟩
  rw [J_X12_roundNow_L120, J_X12_roundNow_L202, nI_clamp (show d < 2 ^ 31 by omega), e55d, nI_pred, sh1 t (by omega), uN_back hn ht hL]
  exact h
theorem it_stop {g : Nat} {i : jI} {U : Int32} (hg : Gr r len) (hn : ns ≤ 10) (h0 : i 37 0 = nI ns) (e55 : i 55 0 = nI ns) (h : Q (-1) i j) : J_X12_roundNow_L77 len r Q (J_X12_roundNow_L43 len r Q (g + 1)) i j 37 (nI w) (nI home) (nI 0) U := by
  rw [J_X12_roundNow_L77, nI_clamp (show 0 < 2 ^ 31 by omega), h0]
  refine ⟨55, hg.1 _ (by decide) _ (by decide) _ rfl, by rw [hg.2 _ (by decide)]; exact pk_in 0 11 (by decide), fun v ev => ?_⟩
  rw [e55] at ev
  subst ev
  refine ⟨fun hh => absurd hh (nI_nlt (Nat.le_refl _) (by omega)), fun _ v94 e94 => ?_⟩
  rw [show nI 0 + (-1 : Int32) = -1 from by decide] at e94
  subst e94
  refine ⟨fun _ => ?_, fun hh => absurd (by decide) hh⟩
  rw [J_X12_roundNow_L120, J_X12_roundNow_L202, J_X12_roundNow_L43]
  exact ⟨fun _ => h, fun hh => absurd (by decide) hh⟩
def rF (d : Nat) (i i' : jI) : Prop := (∀ x f, x ≠ 54 → x ≠ 55 → i' x f = i x f) ∧ (∀ f, f ≤ d → i' 54 f = i 54 f) ∧ ∀ f, f < d → i' 55 f = i 55 f
theorem rF.rf {d : Nat} {i : jI} : rF d i i := ⟨fun _ _ _ _ => rfl, fun _ _ => rfl, fun _ _ => rfl⟩
theorem rF.tr {d : Nat} {i i1 i2 : jI} (h1 : rF d i i1) (h2 : rF d i1 i2) : rF d i i2 := ⟨fun x f a b => (h2.1 x f a b).trans (h1.1 x f a b), fun f a => (h2.2.1 f a).trans (h1.2.1 f a), fun f a => (h2.2.2 f a).trans (h1.2.2 f a)⟩
theorem rF.dn {d : Nat} {i i1 : jI} (h : rF (d + 1) i i1) : rF d i i1 := ⟨h.1, fun f a => h.2.1 f (by omega), fun f a => h.2.2 f (by omega)⟩
abbrev eM (A B G P : Nat → Nat) (fr : Bool) (kd : Nat) : Nat → Nat → Option Nat := mbeh A B G (fun s => mturn kd (P s)) fr
theorem dfs {i0 : jI} (hg : Gr r len) (tm : TM i0 ns A B G P fr) (hkd : kd < 5) (hw : w < 5) (hh : home < 7) (e42 : i0 42 w = nI kd) : ∀ (n : Nat) (m t d : Nat) (L : Nat → Bool) (st : Nat) (i : jI), d + n = ns → t + m = ns → fb_ct L ns = n → (∀ x f, x ≠ 54 → x ≠ 55 → i x f = i0 x f) → i 54 d = nI st → i 55 d = nI t → st < 378 → (n = 0 → st % 7 ≠ home) →
    ((∀ s, t ≤ s → s < ns → L s = true → ∀ y, eM A B G P fr kd st s = some y → ¬ hm (eM A B G P fr kd) home ns (n - 1) y (sU L s false)) → ∀ i', rF d i i' → i' 55 d = nI ns → ∃ g, J_X12_roundNow_L43 len r Q g i' j 37 (nI w) (nI home) (nI d) (uN L ns)) →
    (∀ s, t ≤ s → s < ns → L s = true → ∀ y, eM A B G P fr kd st s = some y → hm (eM A B G P fr kd) home ns (n - 1) y (sU L s false) → (∀ s', t ≤ s' → s' < s → L s' = true → ∀ y', eM A B G P fr kd st s' = some y' → ¬ hm (eM A B G P fr kd) home ns (n - 1) y' (sU L s' false)) → ∀ i', rF d i i' → i' 55 d = nI (s + 1) → Q (i' 55 0 - 1) i' j) →
    ∃ g, J_X12_roundNow_L43 len r Q g i j 37 (nI w) (nI home) (nI d) (uN L ns) := by
  have hn := tm.2.1
  intro n
  induction n with
  | zero =>
    intro m
    induction m with
    | zero =>
      intro t d L st i hd ht hc hf e54 e55 hst hne hF hS
      have ht' : t = ns := by omega
      subst ht'
      exact hF (fun s h1 h2 => by omega) i rF.rf e55
    | succ m ihm =>
      intro t d L st i hd ht hc hf e54 e55 hst hne hF hS
      have htn : t < ns := by omega
      have hLt : L t = false := fb_ct_zero.mp hc t htn
      have r1 : rF d i (ju i 55 d (nI (t + 1))) := ⟨fun x f a b => by rw [ju_ne b], fun f a => by rw [ju_ne (by decide)], fun f a => by rw [ju_eq, pk_un (by omega)]⟩
      obtain ⟨g, hJ⟩ := ihm (t + 1) d L st (ju i 55 d (nI (t + 1))) hd (by omega) hc (fun x f a b => (r1.1 x f a b).trans (hf x f a b)) (by rw [ju_ne (by decide)]; exact e54) (by rw [ju_eq, pk_us]) hst hne
        (fun hno i' hr' he' => hF (fun s h1 h2 h3 => by
          by_cases e : s = t
          · subst e; rw [hLt] at h3; cases h3
          · exact hno s (by omega) h2 h3) i' (r1.tr hr') he')
        (fun s h1 h2 h3 y hy hyes hno i' hr' he' => hS s (by omega) h2 h3 y hy hyes (fun s' a1 a2 a3 => by
          by_cases e : s' = t
          · subst e; rw [hLt] at a3; cases a3
          · exact hno s' (by omega) a2 a3) i' (r1.tr hr') he')
      have tmi : TM i ns A B G P fr := tm.frm (fun a f z => hf a f (by omega) (by omega))
      refine ⟨g + 1, it_77 hg hn hh tmi.1 (by omega) (fun _ => ⟨st, e54, hst, hne rfl⟩) (it_try hg tmi hkd hw ((hf _ _ (by decide) (by decide)).trans e42) (by omega) htn e54 hst e55 (fun _ i' ei' => ?_) (fun hL => by rw [hLt] at hL; cases hL))⟩
      rw [ei']
      exact hJ
  | succ n ihn =>
    intro m
    induction m with
    | zero =>
      intro t d L st i hd ht hc hf e54 e55 hst hne hF hS
      have ht' : t = ns := by omega
      subst ht'
      exact hF (fun s h1 h2 => by omega) i rF.rf e55
    | succ m ihm =>
      intro t d L st i hd ht hc hf e54 e55 hst hne hF hS
      rw [Nat.add_sub_cancel] at hF hS
      have htn : t < ns := by omega
      have tmi : TM i ns A B G P fr := tm.frm (fun a f z => hf a f (by omega) (by omega))
      have e42i : i 42 w = nI kd := (hf _ _ (by decide) (by decide)).trans e42
      obtain ⟨-, cA, cB, -, cP, cG⟩ := tm.2.2.2 t htn
      -- on with the next street, from any state in which street t has failed
      have on : (L t = true → ∀ y, eM A B G P fr kd st t = some y → ¬ hm (eM A B G P fr kd) home ns n y (sU L t false)) → ∀ i1, rF d i i1 → i1 55 d = nI (t + 1) → ∃ g, J_X12_roundNow_L43 len r Q g i1 j 37 (nI w) (nI home) (nI d) (uN L ns) := by
        intro hfail i1 r1 e1
        refine ihm (t + 1) d L st i1 hd (by omega) hc (fun x f a b => (r1.1 x f a b).trans (hf x f a b)) ((r1.2.1 d (Nat.le_refl _)).trans e54) e1 hst hne
          (fun hno i' hr' he' => hF (fun s h1 h2 h3 => by
            rw [Nat.add_sub_cancel] at hno
            by_cases e : s = t
            · subst e; exact hfail h3
            · exact hno s (by omega) h2 h3) i' (r1.tr hr') he')
          (fun s h1 h2 h3 y hy hyes hno i' hr' he' => ?_)
        rw [Nat.add_sub_cancel] at hyes hno
        exact hS s (by omega) h2 h3 y hy hyes (fun s' a1 a2 a3 => by
          by_cases e : s' = t
          · subst e; exact hfail a3
          · exact hno s' (by omega) a2 a3) i' (r1.tr hr') he'
      have r1 : rF d i (ju i 55 d (nI (t + 1))) := ⟨fun x f a b => by rw [ju_ne b], fun f a => by rw [ju_ne (by decide)], fun f a => by rw [ju_eq, pk_un (by omega)]⟩
      by_cases hsk : L t = false ∨ eM A B G P fr kd st t = none
      · obtain ⟨g, hJ⟩ := on (fun hL y hy => by
          rcases hsk with z | z
          · rw [z] at hL; cases hL
          · rw [z] at hy; cases hy) _ r1 (by rw [ju_eq, pk_us])
        refine ⟨g + 1, it_77 hg hn hh tmi.1 (by omega) (fun z => by omega) (it_try hg tmi hkd hw e42i (by omega) htn e54 hst e55 (fun _ i' ei' => by rw [ei']; exact hJ) (fun hL y hy => ?_))⟩
        rcases hsk with z | z
        · rw [z] at hL; cases hL
        · rw [show mbeh A B G (fun s => mturn kd (P s)) fr st t = none from z] at hy; cases hy
      · have hL : L t = true := by
          cases hh : L t with
          | true => rfl
          | false => exact absurd (Or.inl hh) hsk
        cases hy : eM A B G P fr kd st t with
        | none => exact absurd (Or.inr hy) hsk
        | some y =>
          have hyl : y < 378 := mbeh_lt hst cA cB cG hy
          -- the state below
          have r2 : ∀ i2, i2 = ju (ju (ju i 55 d (nI (t + 1))) 54 (d + 1) (nI y)) 55 (d + 1) 0 → rF d i i2 ∧ i2 55 d = nI (t + 1) ∧ i2 54 (d + 1) = nI y ∧ i2 55 (d + 1) = 0 := by
            intro i2 e2
            refine ⟨⟨fun x f a b => by rw [e2, ju_ne b, ju_ne a, ju_ne b], fun f a => ?_, fun f a => ?_⟩, ?_, ?_, ?_⟩
            · rw [e2, ju_ne (by decide), ju_eq, pk_un (by omega), ju_ne (by decide)]
            · rw [e2, ju_eq, pk_un (by omega), ju_ne (by decide), ju_eq, pk_un (by omega)]
            · rw [e2, ju_eq, pk_un (by omega), ju_ne (by decide), ju_eq, pk_us]
            · rw [e2, ju_ne (by decide), ju_eq, pk_us]
            · rw [e2, ju_eq, pk_us]
          obtain ⟨q1, q2, q3, q4⟩ := r2 _ rfl
          have goal : ∃ g, J_X12_roundNow_L43 len r Q g (ju (ju (ju i 55 d (nI (t + 1))) 54 (d + 1) (nI y)) 55 (d + 1) 0) j 37 (nI w) (nI home) (nI (d + 1)) (uN (sU L t false) ns) := by
            generalize ju (ju (ju i 55 d (nI (t + 1))) 54 (d + 1) (nI y)) 55 (d + 1) 0 = i2 at q1 q2 q3 q4 ⊢
            have hf2 : ∀ x f, x ≠ 54 → x ≠ 55 → i2 x f = i0 x f := fun x f a b => (q1.1 x f a b).trans (hf x f a b)
            have tm2 : TM i2 ns A B G P fr := tm.frm (fun a f z => hf2 a f (by omega) (by omega))
            have hc2 : fb_ct (sU L t false) ns = n := by have := ct_del htn hL; omega
            by_cases hend : n = 0 ∧ y % 7 = home
            · obtain ⟨hn0, hy7⟩ := hend
              subst hn0
              have hdn : d + 1 = ns := by omega
              rw [hdn] at q3 q4 ⊢
              refine ⟨1, it_end hg hn hh tm2.1 q3 hyl hy7 (hS t (Nat.le_refl _) htn hL y hy hy7 (fun s' a1 a2 => by omega) i2 q1 q2)⟩
            · refine ihn ns 0 (d + 1) (sU L t false) y i2 (by omega) (by omega) hc2 hf2 q3 (by rw [q4]; rfl) hyl (fun z => fun z2 => hend ⟨z, z2⟩) (fun hno i3 r3 e3 => ?_) (fun s h1 h2 h3 y3 hy3 hyes hno i3 r3 e3 => ?_)
              · -- below all has failed
                have hfail : ¬ hm (eM A B G P fr kd) home ns n y (sU L t false) := by
                  cases n with
                  | zero => exact fun z => hend ⟨rfl, z⟩
                  | succ n' =>
                    rintro ⟨s, hs, hLs, y', hy', hh'⟩
                    exact hno s (Nat.zero_le _) hs hLs y' hy' hh'
                have r4 : rF d i i3 := q1.tr r3.dn
                have e4 : i3 55 d = nI (t + 1) := (r3.2.2 d (by omega)).trans q2
                obtain ⟨g, hJ⟩ := on (fun _ y' hy' => by rw [hy] at hy'; cases hy'; exact hfail) i3 r4 e4
                have tm3 : TM i3 ns A B G P fr := tm.frm (fun a f z => (r4.1 a f (by omega) (by omega)).trans (hf a f (by omega) (by omega)))
                refine ⟨g + 1, it_77 hg hn hh tm3.1 (by omega) (fun z => ⟨y, (r3.2.1 _ (Nat.le_refl _)).trans q3, hyl, fun z2 => hend ⟨by omega, z2⟩⟩) (it_back hg hn tm3.1 (by omega) htn hL e3 e4 hJ)⟩
              · -- below there is a way home
                have hyes' : hm (eM A B G P fr kd) home ns n y (sU L t false) := by
                  cases n with
                  | zero => rw [fb_ct_zero.mp hc2 s h2] at h3; cases h3
                  | succ n' => exact ⟨s, h2, h3, y3, hy3, hyes⟩
                exact hS t (Nat.le_refl _) htn hL y hy hyes' (fun s' a1 a2 => by omega) i3 (q1.tr r3.dn) ((r3.2.2 d (by omega)).trans q2)
          obtain ⟨g, hJ⟩ := goal
          refine ⟨g + 1, it_77 hg hn hh tmi.1 (by omega) (fun z => by omega) (it_try hg tmi hkd hw e42i (by omega) htn e54 hst e55 (fun z => absurd z hsk) (fun _ y' hy' => ⟨by omega, fun i' ei' => ?_⟩))⟩
          have hyy : y = y' := by
            have : some y = some y' := hy.symm.trans hy'
            cases this
            rfl
          subst hyy
          rw [ei']
          exact hJ
theorem lp_evT {i : jI} (hg : Gr r len) (tm : TM i ns A B G P fr) (hQ0 : xr A B (fun _ => false) ns ≠ 0 → Q 0 i j) (hQ1 : xr A B (fun _ => false) ns = 0 → Q 1 i j) : ∀ (m x : Nat), x + m = ns → J_X12_isEvenTown_L4 len r Q (m + 1) i j 37 (nI (xr A B (fun _ => false) x)) (nI x) := by
  have hn := tm.2.1
  have hlt : ∀ x, x ≤ ns → xr A B (fun _ => false) x < 2 ^ 7 := by
    intro x
    induction x with
    | zero => intro _; show 0 < 2 ^ 7; decide
    | succ x ih =>
      intro hx
      obtain ⟨-, cA, cB, -⟩ := tm.2.2.2 x (by omega)
      rw [xr]
      refine Nat.xor_lt_two_pow (ih (by omega)) ?_
      simp only [Bool.false_eq_true, if_false]
      exact Nat.xor_lt_two_pow (Nat.pow_lt_pow_right (by decide) cA) (Nat.pow_lt_pow_right (by decide) cB)
  intro m
  induction m with
  | zero =>
    intro x hx
    have hx' : x = ns := by omega
    subst hx'
    have hl := hlt x (Nat.le_refl _)
    rw [J_X12_isEvenTown_L4]
    dsimp only
    rw [tm.1]
    refine ⟨fun _ => ⟨fun hne => hQ0 (fun z => hne (by rw [z]; decide)), fun heq => hQ1 ((nI_zero (by omega)).mp heq)⟩, fun hh => absurd (nI_le (Nat.le_refl _) (by omega)) hh⟩
  | succ m ih =>
    intro x hx
    obtain ⟨⟨c0, c1, -, -⟩, cA, cB, -⟩ := tm.2.2.2 x (by omega)
    have hv : vp_in (nI x) 10 := vp_in_nI (by omega) (by decide)
    rw [J_X12_isEvenTown_L4]
    dsimp only
    rw [tm.1]
    refine ⟨fun hh => absurd hh (nI_ge (by omega) (by omega)), fun _ => ⟨38, hg.1 _ (by decide) _ (by decide) _ rfl, by rw [hg.2 _ (by decide)]; exact hv, 39, hg.1 _ (by decide) _ (by decide) _ rfl, by rw [hg.2 _ (by decide)]; exact hv, fun v ev v2 ev2 => ?_⟩⟩
    rw [nI_clamp (by omega), c0, c1, sh1 _ (by omega), sh1 _ (by omega), fb_xorI, fb_xorI] at ev
    rw [nI_1] at ev2
    subst ev ev2
    have := ih (x + 1) (by omega)
    rw [xr] at this
    exact this
theorem sp_roundM {i : jI} {st : Nat} (hg : Gr r len) (tm : TM i ns A B G P fr) (hns : 0 < ns) (hin : ∀ s t, s < ns → t < ns → G s = G t → G s ≠ 0 → s = t) (hkd : kd < 5) (hw : w < 5) (e42 : i 42 w = nI kd) (e43 : i 43 w = nI st) (hst : st < 378) (hQ : ∀ i' o, fs_ls (rP1 A B G (fun s => mturn kd (P s)) fr ns st) ns o → (∀ x f, x ≠ 54 → x ≠ 55 → i' x f = i x f) → Q (bo o) i' j) : J_X12_roundNow len r Q i j 37 (nI w) := by
  have hn := tm.2.1
  have hv : vp_in (nI w) 5 := vp_in_nI hw (by decide)
  have ew : (nI w).toNatClampNeg = w := nI_clamp (by omega)
  have h7 : st % 7 < 7 := Nat.mod_lt _ (by decide)
  rw [J_X12_roundNow]
  refine ⟨43, hg.1 _ (by decide) _ (by decide) _ rfl, by rw [hg.2 _ (by decide)]; exact hv, ?_⟩
  rw [ew, e43]
  refine sp_placeIn hst ?_
  rw [J_X12_isEvenTown]
  refine ⟨ns + 1, lp_evT hg tm (fun hodd => ⟨fun hh => absurd rfl hh, fun _ => hQ i none (fun s hs => ?_) (fun _ _ _ _ => rfl)⟩) (fun heven => ⟨fun _ => ?_, fun hh => absurd hh (by decide)⟩) ns 0 (by omega)⟩
  · rintro ⟨y, hy, hh⟩
    have hct : fb_ct (sU (fun _ => true) s false) ns = ns - 1 := by
      have := ct_del (L := fun _ => true) hs rfl
      have := (fb_ct_all (p := fun _ => true) (n := ns)).mpr (fun _ _ => rfl)
      omega
    exact hodd (hm_even tm.tok hin (ns - 1) _ y hct (cons_step tm.tok hin (cons_0 hst) hs (L := fun _ => true) rfl hy) hh)
  · refine ⟨54, hg.1 _ (by decide) _ (by decide) _ rfl, 43, hg.1 _ (by decide) _ (by decide) _ rfl, by rw [hg.2 _ (by decide)]; exact hv, by rw [hg.2 _ (by decide)]; exact pk_in 0 11 (by decide), fun i1 e1 => ⟨55, hg.1 _ (by decide) _ (by decide) _ rfl, by rw [hg.2 _ (by decide)]; exact pk_in 0 11 (by decide), fun i2 e2 => ?_⟩⟩
    rw [show (0 : Int32).toNatClampNeg = 0 from by decide] at e1 e2
    rw [e43] at e1
    have hf2 : ∀ x f, x ≠ 54 → x ≠ 55 → i2 x f = i x f := fun x f a b => by rw [e2, ju_ne b, e1, ju_ne a]
    have e54 : i2 54 0 = nI st := by rw [e2, ju_ne (by decide), e1, ju_eq, pk_us]
    have e55 : i2 55 0 = nI 0 := by rw [e2, ju_eq, pk_us]; rfl
    have hall := (fb_ct_all (p := fun _ => true) (n := ns)).mpr (fun _ _ => rfl)
    have := dfs (Q := Q) (j := j) (home := st % 7) (i0 := i) hg tm hkd hw h7 e42 ns ns 0 0 (fun _ => true) st i2 (by omega) (by omega) hall hf2 e54 e55 hst (fun z => by omega) (fun hno i' r' e' => ?_) (fun s h1 h2 _ y hy hyes hno i' r' e' => ?_)
    · have eu : uN (fun _ => true) ns = 0 := by
        unfold uN
        have : bs (fun s => !(fun _ : Nat => true) s) ns = 0 := bs_zero.mpr (fb_ct_zero.mpr (fun _ _ => rfl))
        rw [this]
        rfl
      rw [eu] at this
      exact this
    · have h0 : i' 37 0 = nI ns := (r'.1 _ _ (by decide) (by decide)).trans ((hf2 _ _ (by decide) (by decide)).trans tm.1)
      refine ⟨2, it_77 hg hn h7 h0 (by omega) (fun z => by omega) (it_stop hg hn h0 e' (hQ i' none (fun s hs => ?_) (fun x f a b => (r'.1 x f a b).trans (hf2 x f a b))))⟩
      rintro ⟨y, hy, hh⟩
      exact hno s (Nat.zero_le _) hs rfl y hy hh
    · rw [e', nI_pred]
      refine hQ i' (some s) ⟨h2, ⟨y, hy, hyes⟩, fun s' hs' => ?_⟩ (fun x f a b => (r'.1 x f a b).trans (hf2 x f a b))
      rintro ⟨y', hy', hh'⟩
      exact hno s' (Nat.zero_le _) hs' rfl y' hy' hh'
end RndM
section OkRound
variable {len : Nat → Nat} {r : jR} {i : jI} {j : jL} {k : Nat} {y1 y2 y3 y4 : Int32}
theorem ok_16 (hg : Gr r len) (h : Rp k i) : J_X11_round len r (fun q i1 j1 => J_X12_round len r (fun q2 i2 j2 => q = q2 ∧ Rp (k + 5) i2) i1 j1 37 y1 y2) i j 0 y1 y2 := by
  have hR := h.up (k2 := k + 5) (by omega)
  obtain ⟨ns, ng, nt, nw, np, dn, pl, A, B, G, P, fr, h1, h2, h3, h4, h5, h6, h7, h8⟩ := h
  obtain ⟨w1, w2, w3, w4⟩ := h4
  obtain ⟨d1, d2, d3⟩ := h6
  have hn : ns ≤ 10 := h1.1.2.1
  rw [J_X11_round]
  rcases out_or y1 (n := nw) (by omega) with ho | ⟨w, hw, rfl⟩
  · refine wkC_no (by omega) w2 ho ⟨fun hh => absurd rfl hh, fun _ => ?_⟩
    rw [J_X12_round]
    exact wkM_no (by omega) w1 ho ⟨fun hh => absurd rfl hh, fun _ => ⟨rfl, hR⟩⟩
  · obtain ⟨kd, st, q1, q2, q3, q4, q5, q6, q7⟩ := w4 w hw
    have ew : (nI w).toNatClampNeg = w := nI_clamp (by omega)
    have hv : vp_in (nI w) 5 := vp_in_nI (by omega) (by decide)
    have hns : 0 < ns := h3 (by omega)
    refine wkC_yes (by omega) w2 hw ⟨fun _ => ?_, fun hh => absurd hh (by decide)⟩
    rcases out_or y2 (n := 2) (by decide) with ho | ⟨a, ha, rfl⟩
    · refine gC_no (m := 1) (by decide) ho ⟨fun hh => absurd rfl hh, fun _ => ?_⟩
      rw [J_X12_round]
      exact wkM_yes (by omega) w1 hw ⟨fun _ => gM_noK (m := 1) ho (by decide) ⟨fun hh => absurd rfl hh, fun _ => ⟨rfl, hR⟩⟩, fun hh => absurd hh (by decide)⟩
    · refine gC_yes (m := 1) (by decide) (by omega) ⟨fun _ => ?_, fun hh => absurd hh (by decide)⟩
      rw [d2]
      refine pk_lt dn 40 (fun hlt => ?_) (fun hge => ?_)
      · intro i1 ei1
        rw [nI_1] at ei1
        have i1o : ∀ z f, z ≠ 0 → i1 z f = i z f := fun z f hz => by rw [ei1, ju_ne hz]
        have i1x : ∀ f, f ≠ 8 → i1 0 f = i 0 f := fun f hf => by rw [ei1, ju_eq, pk_un hf]
        have i18 : i1 0 8 = nI (dn + 1) := by rw [ei1, ju_eq, pk_us]
        refine ⟨9, hg.1 _ (by decide) _ (by decide) _ rfl, by rw [hg.2 _ (by decide)]; exact hv, 32 + w, by rw [ew]; exact hg.1 9 (by decide) w (by omega) _ (RR9 w (by omega)), 16, hg.1 _ (by decide) _ (by decide) _ rfl, 3, hg.1 _ (by decide) _ (by decide) _ rfl, ?_⟩
        rw [i1o (32 + w) 0 (by omega), q4]
        have tc1 : TC i1 ns A B G P fr := h1.2.1.frm (fun a f z1 z2 => i1o a f (by omega))
        refine sp_gait hg (hg16 hg) tc1 q1 (fun i2 f2 ga2 => ⟨30, hg.1 _ (by decide) _ (by decide) _ rfl, 3, hg.1 _ (by decide) _ (by decide) _ rfl, 16, hg.1 _ (by decide) _ (by decide) _ rfl, ?_⟩)
        have tc2 : TC i2 ns A B G P fr := tc1.wf (gF.wf f2)
        rw [f2 (32 + w) 1 (by omega) (by omega), i1o (32 + w) 1 (by omega), q6]
        refine sp_rfirst hg h1.2.2.2.2.2.2 (fun s _ => mtn_lt kd (P s)) q2 tc2 ga2 (fun i3 o ho hf3 => ?_)
        have k3 : ∀ x f, kp x f → ¬ (x = 0 ∧ f = 8) → i3 x f = i x f := by
          intro x f hk hne
          rw [hf3 x f (by unfold kp at hk; omega), f2 x f (by unfold kp at hk; omega) (by unfold kp at hk; omega)]
          by_cases e : x = 0
          · subst e; exact i1x f (fun z => hne ⟨rfl, z⟩)
          · exact i1o x f e
        have i38 : i3 0 8 = nI (dn + 1) := by rw [hf3 0 8 (by decide), f2 0 8 (by decide) (by decide)]; exact i18
        -- the reference
        have ref : ∀ q : Int32, q = (if a = 1 then bo o else if o = none then 0 else 1) → J_X12_round len r (fun q2 i2 j2 => q = q2 ∧ Rp (k + 5) i2) i3 j 37 (nI w) (nI a) := by
          intro q hq
          rw [J_X12_round]
          refine wkM_yes (by omega) ((k3 37 8 (by unfold kp; omega) (by omega)).trans w1) hw ⟨fun _ => gM_yesK (m := 1) (by omega) (by decide) ⟨fun _ => ?_, fun hh => absurd hh (by decide)⟩, fun hh => absurd hh (by decide)⟩
          rw [(k3 37 14 (by unfold kp; omega) (by omega)).trans d1]
          refine ⟨fun _ => ?_, fun hh => absurd ((nI_eq (b := 40) (by omega) (by decide)).mp hh) (by omega)⟩
          intro i4 ei4
          rw [nI_1] at ei4
          have i4o : ∀ z f, ¬ (z = 37 ∧ f = 14) → i4 z f = i3 z f := by
            intro z f hz
            rw [ei4]
            by_cases e : z = 37
            · subst e; rw [ju_eq, pk_un (fun z => hz ⟨rfl, z⟩)]
            · rw [ju_ne e]
          have i414 : i4 37 14 = nI (dn + 1) := by rw [ei4, ju_eq, pk_us]
          have tm4 : TM i4 ns A B G P fr := h1.1.frm (fun a f z => (i4o a f (by omega)).trans (k3 a f (by unfold kp; omega) (by omega)))
          refine sp_roundM hg tm4 hns h1.2.2.2.2.2.2 q1 (by omega) ((i4o _ _ (by omega)).trans ((k3 _ _ (by unfold kp; omega) (by omega)).trans q3)) ((i4o _ _ (by omega)).trans ((k3 _ _ (by unfold kp; omega) (by omega)).trans q5)) q2 (fun i5 o' ho' hf5 => ?_)
          have e := fs_ls_eq ho ho'
          subst e
          have fin : Rp (k + 5) i5 := by
            refine hR.bump d2 hlt (fun x f hk n1 n2 => ?_) ?_ ?_
            · rw [hf5 x f (by unfold kp at hk; omega) (by unfold kp at hk; omega), i4o x f n2, k3 x f hk n1]
            · rw [hf5 0 8 (by decide) (by decide), i4o _ _ (by omega)]; exact i38
            · rw [hf5 37 14 (by decide) (by decide)]; exact i414
          rcases (show a = 0 ∨ a = 1 by omega) with rfl | rfl
          · refine ⟨fun _ => ⟨fun hne => ⟨?_, fin⟩, fun heq => ⟨?_, fin⟩⟩, fun hh => absurd hh (by decide)⟩
            · cases o with
              | none => exact absurd rfl hne
              | some s => rw [hq]; simp
            · cases o with
              | none => rw [hq]; simp
              | some s => exact absurd heq (nI_m1 (by have := ho.1; omega))
          · refine ⟨fun hh => absurd (by decide) hh, fun _ => ⟨?_, fin⟩⟩
            rw [hq]; simp
        rcases (show a = 0 ∨ a = 1 by omega) with rfl | rfl
        · refine ⟨fun _ => ⟨fun hne => ref 1 ?_, fun heq => ref 0 ?_⟩, fun hh => absurd hh (by decide)⟩
          · cases o with
            | none => exact absurd rfl hne
            | some s => simp
          · cases o with
            | none => simp
            | some s => exact absurd heq (nI_m1 (by have := ho.1; omega))
        · exact ⟨fun hh => absurd (by decide) hh, fun _ => ref _ (by simp)⟩
      · have e40 : dn = 40 := by omega
        rw [J_X12_round]
        refine wkM_yes (by omega) w1 hw ⟨fun _ => gM_yesK (m := 1) (by omega) (by decide) ⟨fun _ => ?_, fun hh => absurd hh (by decide)⟩, fun hh => absurd hh (by decide)⟩
        rw [d1, e40]
        exact ⟨fun hh => absurd (by decide) hh, fun _ => ⟨rfl, hR⟩⟩
end OkRound
