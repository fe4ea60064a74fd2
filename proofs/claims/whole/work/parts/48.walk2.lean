/-! walk -/
/-- m turns more: the stand, the seed, how often one might not go -/
def wsim (A B G T : Nat → Nat) (fr : Bool) (ns : Nat) : Nat → Nat → Nat → Nat → Nat × Nat × Nat
  | 0, st, d, y => (st, d, y)
  | m + 1, st, d, y => if cntF (atF A B (st % 7)) ns 0 = 0 then (st, d, y) else
      match mbeh A B G T fr st (sel (atF A B (st % 7)) ns 0 (nxs d / 65536 % cntF (atF A B (st % 7)) ns 0)) with
      | none => wsim A B G T fr ns m st (nxs d) (y + 1)
      | some st2 => wsim A B G T fr ns m st2 (nxs d) y
theorem wsim_stop {A B G T : Nat → Nat} {fr : Bool} {ns st : Nat} (h : cntF (atF A B (st % 7)) ns 0 = 0) : ∀ (m d y : Nat), wsim A B G T fr ns m st d y = (st, d, y) := by
  intro m d y
  cases m with
  | zero => rfl
  | succ m => rw [wsim, if_pos h]
/-- the answer, by what is asked -/
def wans (u : Nat × Nat × Nat) (a : Nat) : Int32 := if a = 0 then nI (u.1 % 7) else if a = 1 then nI (u.1 / 7 % 2) else if a = 2 then nI u.2.2 else nI u.2.1
section WalkB
variable {len : Nat → Nat} {r : jR} {Q : Int32 → jI → jL → Prop} {i : jI} {ns w kd a tn : Nat} {A B G P : Nat → Nat} {fr : Bool}
theorem sp_walkEndC {j : jL} {u : Nat × Nat × Nat} (hu : u.1 < 378) (ha : a < 4) (h : Q (wans u a) i j) : J_X11_walk_L172 len r Q i j (nI a) (nI (enc u.1)) (nI u.2.1) (nI u.2.2) := by
  rw [J_X11_walk_L172]
  rcases (show a = 0 ∨ a = 1 ∨ a = 2 ∨ a = 3 by omega) with rfl | rfl | rfl | rfl
  · exact ⟨fun _ => sp_placeOf hu h, fun hh => absurd hh (by decide), fun hh => absurd hh (by decide), fun hh => absurd (by decide) hh⟩
  · exact ⟨fun hh => absurd hh (by decide), fun _ => sp_footOf hu h, fun hh => absurd hh (by decide), fun _ hh => absurd (by decide) hh⟩
  · exact ⟨fun hh => absurd hh (by decide), fun hh => absurd hh (by decide), fun _ => h, fun _ _ hh => absurd (by decide) hh⟩
  · exact ⟨fun hh => absurd hh (by decide), fun hh => absurd hh (by decide), fun hh => absurd hh (by decide), fun _ _ _ => h⟩
theorem lp_walkC {j : jL} (hg : Gr r len) (tc : TC i ns A B G P fr) (hk : kd < 5) (e0 : i (32 + w) 0 = nI kd) (ha : a < 4) (htn : tn ≤ 60) : ∀ (m t st d y : Nat), t + m = tn → st < 378 → d < 2 ^ 31 → Q (wans (wsim A B G (fun s => mturn kd (P s)) fr ns m st d y) a) i j → J_X11_walk_L62 len r Q (m + 1) i j 0 (nI tn) (nI a) (32 + w) (nI (enc st)) (nI d) (nI y) (nI t) := by
  have hn := tc.2.1
  intro m
  induction m with
  | zero =>
    intro t st d y ht hst hd h
    have ht' : t = tn := by omega
    subst ht'
    rw [J_X11_walk_L62]
    exact ⟨fun _ => sp_walkEndC (u := (st, d, y)) hst ha h, fun hh => absurd (nI_le (Nat.le_refl _) (by omega)) hh⟩
  | succ m ih =>
    intro t st d y ht hst hd h
    have hp7 : st % 7 < 7 := Nat.mod_lt _ (by decide)
    have hcl := cntF_le (atF A B (st % 7)) ns 0
    rw [J_X11_walk_L62]
    refine ⟨fun hh => absurd hh (nI_ge (by omega) (by omega)), fun _ => ⟨_, hg.1 _ (by decide) _ (by decide) _ rfl, sp_placeOf hst ?_⟩⟩
    rw [J_X8_streetsAt]
    refine ⟨ns + 1, lp_streetsAt hg tc hp7 ns 0 0 (by omega) (Nat.le_refl _) ?_⟩
    rw [Nat.zero_add]
    by_cases hc : cntF (atF A B (st % 7)) ns 0 = 0
    · rw [wsim, if_pos hc] at h
      rw [hc]
      exact bn_f (by decide) (sp_walkEndC (u := (st, d, y)) hst ha h)
    · rw [wsim, if_neg hc] at h
      have hd' := nxs_lt d
      have hcp : 0 < cntF (atF A B (st % 7)) ns 0 := by omega
      have hlt : nxs d / 65536 % cntF (atF A B (st % 7)) ns 0 < cntF (atF A B (st % 7)) ns 0 := Nat.mod_lt _ hcp
      have hsl := sel_lt (atF A B (st % 7)) ns 0 _ hlt
      have hcz : ¬ nI (cntF (atF A B (st % 7)) ns 0) = 0 := nI_ne0 hcp (by omega)
      refine bn_t hcz ?_
      rw [J_X11_nextSeed, seedC hd]
      refine ⟨_, hg.1 _ (by decide) _ (by decide) _ rfl, sp_placeOf hst ⟨hcz, ?_⟩⟩
      rw [idxC hd' hcp (by omega), J_X8_streetAt]
      refine ⟨ns + 1, lp_streetAt hg tc hp7 ns 0 _ (by omega) hlt ?_⟩
      generalize sel (atF A B (st % 7)) ns 0 (nxs d / 65536 % cntF (atF A B (st % 7)) ns 0) = sl at h hsl ⊢
      have hsl' : sl < ns := by omega
      obtain ⟨⟨c0, c1, c2, c3⟩, cA, cB, -, cP, cG⟩ := tc.2.2.2 sl hsl'
      have es : (nI sl).toNatClampNeg = sl := nI_clamp (by omega)
      have hs10 : vp_in (nI sl) 10 := vp_in_nI (by omega) (by decide)
      refine ⟨_, hg.1 _ (by decide) _ (by decide) _ rfl, _, hg.1 _ (by decide) _ (by decide) _ rfl, _, hg.1 _ (by decide) _ (by decide) _ rfl, by rw [hg.2 _ (by decide)]; exact hs10, ?_⟩
      rw [es, e0, c2]
      refine sp_turnOf hk (by omega) (sp_behC hg tc (mtn_lt _ _) hst hsl' ?_)
      have hb := fun st2 hh => mbeh_lt (T := fun _ => mturn kd (P sl)) (fr := fr) (st2 := st2) hst cA cB cG hh
      obtain ⟨o1, -⟩ := eo_none hb
      have emb : mbeh A B G (fun s => mturn kd (P s)) fr st sl = mbeh A B G (fun _ => mturn kd (P sl)) fr st sl := rfl
      rw [emb] at h
      cases hm : mbeh A B G (fun _ => mturn kd (P sl)) fr st sl with
      | none =>
        rw [hm] at h
        refine bn_f rfl (fun v e => ?_)
        rw [nI_1] at e
        subst e
        rw [J_X11_walk_L166]
        intro v e
        rw [nI_1] at e
        subst e
        exact ih (t + 1) st (nxs d) (y + 1) (by omega) hst hd' h
      | some st2 =>
        rw [hm] at h o1
        refine bn_t (fun hh => by cases o1.mp hh) ?_
        rw [J_X11_walk_L166]
        intro v e
        rw [nI_1] at e
        subst e
        exact ih (t + 1) st2 (nxs d) y (by omega) (hb st2 hm) hd' h
theorem lp_walkM (hg : Gr r len) (tm : TM i ns A B G P fr) (hk : kd < 5) (hw : w < 5) (e0 : i 42 w = nI kd) (ha : a < 4) (htn : tn ≤ 60) : ∀ (m t st d y : Nat) (j : jL), t + m = tn → st < 378 → d < 2 ^ 31 → j 37 41 = lN d → (∀ j', Q (wans (wsim A B G (fun s => mturn kd (P s)) fr ns m st d y) a) i j') → J_X12_walkNow_L20 len r Q (m + 1) i j 37 (nI w) (nI tn) (nI a) (nI st) (nI y) (nI t) := by
  have hn := tm.2.1
  have ew : (nI w).toNatClampNeg = w := nI_clamp (by omega)
  have hvw : vp_in (nI w) 5 := vp_in_nI hw (by decide)
  intro m
  induction m with
  | zero =>
    intro t st d y j ht hst hd ej h
    have ht' : t = tn := by omega
    subst ht'
    rw [J_X12_walkNow_L20]
    refine ⟨fun _ => ?_, fun hh => absurd (nI_le (Nat.le_refl _) (by omega)) hh⟩
    have h := h j
    rcases (show a = 0 ∨ a = 1 ∨ a = 2 ∨ a = 3 by omega) with rfl | rfl | rfl | rfl
    · exact bn_f (by decide) (sp_placeIn hst h)
    · exact bn_t (by decide) (bn_f (by decide) (sp_footIn hst h))
    · exact bn_t (by decide) (bn_t (by decide) (bn_f (by decide) h))
    · refine bn_t (by decide) (bn_t (by decide) (bn_t (by decide) ?_))
      rw [ej, lN_i]
      exact h
  | succ m ih =>
    intro t st d y j ht hst hd ej h
    have hcl := cntF_le (atF A B (st % 7)) ns 0
    rw [J_X12_walkNow_L20]
    refine ⟨fun hh => absurd hh (nI_ge (by omega) (by omega)), fun _ => ?_⟩
    rw [J_X12_drawStreet]
    refine ⟨ns + 1, lp_draw4 hg tm hst ns 0 0 (by omega) (Nat.le_refl _) ?_⟩
    rw [Nat.zero_add]
    by_cases hc : cntF (atF A B (st % 7)) ns 0 = 0
    · rw [wsim, if_pos hc] at h
      rw [hc]
      refine bn_f (by decide) ⟨fun _ => ?_, fun hh => absurd rfl hh⟩
      rw [J_X12_walkNow_L87]
      intro v e
      rw [nI_1] at e
      subst e
      exact ih (t + 1) st d y j (by omega) hst hd ej (fun j' => by rw [wsim_stop hc]; exact h j')
    · rw [wsim, if_neg hc] at h
      have hd' := nxs_lt d
      have hcp : 0 < cntF (atF A B (st % 7)) ns 0 := by omega
      have hlt : nxs d / 65536 % cntF (atF A B (st % 7)) ns 0 < cntF (atF A B (st % 7)) ns 0 := Nat.mod_lt _ hcp
      have hsl := sel_lt (atF A B (st % 7)) ns 0 _ hlt
      have hcz : ¬ nI (cntF (atF A B (st % 7)) ns 0) = 0 := nI_ne0 hcp (by omega)
      refine bn_t hcz ?_
      rw [J_X12_draw]
      intro j1 e1
      rw [ej, seedL hd] at e1
      have ej1 : j1 37 41 = lN (nxs d) := by rw [e1, jul_eq]; simp [vp_updL]
      rw [ej1, idxM hd' hcp (by omega)]
      refine ⟨fun hh => ?_, ns, lp_draw50 hg tm hst ns 0 _ (by omega) hlt ?_⟩
      · rw [nI_l (by omega)] at hh
        have := (lN_eq (a := cntF (atF A B (st % 7)) ns 0) (b := 0) (by omega) (by decide)).mp hh
        omega
      generalize sel (atF A B (st % 7)) ns 0 (nxs d / 65536 % cntF (atF A B (st % 7)) ns 0) = sl at h hsl ⊢
      have hsl' : sl < ns := by omega
      obtain ⟨-, cA, cB, -, cP, cG⟩ := tm.2.2.2 sl hsl'
      have k1 : ∀ n : Nat, n < 20 → ¬ nI n = (-1 : Int32) := by decide +kernel
      refine ⟨fun hh => absurd hh (k1 sl (by omega)), fun _ => ⟨_, hg.1 _ (by decide) _ (by decide) _ rfl, by rw [hg.2 _ (by decide)]; exact hvw, ?_⟩⟩
      rw [ew, e0]
      refine sp_behM hg tm hk hst hsl' ?_
      have hb := fun st2 hh => mbeh_lt (T := fun s => mturn kd (P s)) (fr := fr) (st2 := st2) hst cA cB cG hh
      obtain ⟨-, o2⟩ := eo_none hb
      cases hm : mbeh A B G (fun s => mturn kd (P s)) fr st sl with
      | none =>
        rw [hm] at h
        refine bn_f rfl ?_
        rw [J_X12_walkNow_L69]
        intro v e
        rw [nI_1] at e
        subst e
        refine bn_f rfl ?_
        rw [J_X12_walkNow_L85, J_X12_walkNow_L87]
        intro v e
        rw [nI_1] at e
        subst e
        exact ih (t + 1) st (nxs d) (y + 1) j1 (by omega) hst hd' ej1 h
      | some st2 =>
        rw [hm] at h o2
        refine bn_t (fun hh => by cases o2.mp hh) ?_
        rw [J_X12_walkNow_L69]
        intro v e
        rw [show nI y + (0 : Int32) = nI y from nI_add y 0] at e
        subst e
        refine bn_t (fun hh => by cases o2.mp hh) ?_
        rw [J_X12_walkNow_L85, J_X12_walkNow_L87]
        intro v e
        rw [nI_1] at e
        subst e
        exact ih (t + 1) st2 (nxs d) y j1 (by omega) (hb st2 hm) hd' ej1 h
end WalkB
section WalkC
variable {len : Nat → Nat} {r : jR} {i : jI} {j : jL} {k : Nat} {y1 y2 y3 y4 : Int32}
theorem w60 (x : Int32) : ((x < 1 ∨ 60 < x) ∧ Out (x - 1) 60) ∨ ∃ t : Nat, 1 ≤ t ∧ t ≤ 60 ∧ x = nI t := by
  by_cases h : 1 ≤ x.toInt ∧ x.toInt ≤ 60
  · right
    refine ⟨x.toInt.toNat, by omega, by omega, ?_⟩
    apply Int32.toInt_inj.mp
    rw [nI_toInt (by omega)]
    omega
  · left
    have h1 : (1 : Int32).toInt = 1 := by decide
    have h60 : (60 : Int32).toInt = 60 := by decide
    have hx : x < 1 ∨ 60 < x := by
      rw [Int32.lt_iff_toInt_lt, Int32.lt_iff_toInt_lt, h1, h60]
      omega
    refine ⟨hx, ?_⟩
    by_cases hm : (x - 1 : Int32) < 0
    · exact Or.inl hm
    · right
      obtain ⟨t, ht, e⟩ := nI_of hm
      have e2 : x = nI (t + 1) := by
        have : x = (x - 1) + 1 := by rw [Int32.sub_add_cancel]
        rw [this, e, nI_1]
      rw [e]
      rcases Nat.lt_or_ge t 60 with h6 | h6
      · exfalso
        rw [e2, nI_toInt (by omega)] at h
        omega
      · exact nI_le h6 ht
end WalkC
