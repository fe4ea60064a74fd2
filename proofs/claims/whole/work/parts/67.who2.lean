/-! the reference's search: node 378 m + x: one stands at x behind m prints -/
def wls (A B G T PR : Nat → Nat) (fr : Bool) (np node k : Nat) : Option Nat :=
  if node / 378 < np then (mbeh A B G T fr (node % 378) k).bind (fun y => if G k = 0 then some (378 * (node / 378) + y) else if 4 * (G k - 1) + 2 * (if A k = node % 378 % 7 then 0 else 1) + y / 7 % 2 = PR (node / 378) then some (378 * (node / 378 + 1) + y) else none) else none
section Wls
variable {A B G T PR : Nat → Nat} {fr : Bool} {ns np st : Nat}
theorem wls_G0 {m x s y : Nat} (hm : m < np) (hx : x < 378) (h0 : G s = 0) (hb : mbeh A B G T fr x s = some y) : wls A B G T PR fr np (378 * m + x) s = some (378 * m + y) := by
  unfold wls
  rw [show (378 * m + x) / 378 = m by omega, show (378 * m + x) % 378 = x by omega, if_pos hm, hb, Option.bind_some, if_pos h0]
theorem wls_gate {m x s y : Nat} (hm : m < np) (hx : x < 378) (hy : y < 378) (h : stp A B G T PR fr ns m x s y) : wls A B G T PR fr np (378 * m + x) s = some (378 * (m + 1) + y) := by
  obtain ⟨h1, h2, h3, h4, h5⟩ := h
  unfold wls
  rw [show (378 * m + x) / 378 = m by omega, show (378 * m + x) % 378 = x by omega, if_pos hm, h4, Option.bind_some, if_neg (by omega), if_pos ?_]
  by_cases ha : A s = x % 7
  · rw [if_pos ha]
    have := h3.mpr ha
    omega
  · rw [if_neg ha]
    have : ¬ PR m / 2 % 2 = 0 := fun z => ha (h3.mp z)
    omega
/-- what a step of it is -/
theorem wls_inv {node k z : Nat} (hk : k < ns) (hz : wls A B G T PR fr np node k = some z) : node / 378 < np ∧ ∃ y, mbeh A B G T fr (node % 378) k = some y ∧ ((G k = 0 ∧ z = 378 * (node / 378) + y) ∨ (G k ≠ 0 ∧ z = 378 * (node / 378 + 1) + y ∧ (4 * (G k - 1) + 2 * (if A k = node % 378 % 7 then 0 else 1) + y / 7 % 2 = PR (node / 378)))) := by
  unfold wls at hz
  split at hz
  · rename_i hm
    refine ⟨hm, ?_⟩
    cases hb : mbeh A B G T fr (node % 378) k with
    | none => rw [hb] at hz; cases hz
    | some y =>
      rw [hb, Option.bind_some] at hz
      refine ⟨y, rfl, ?_⟩
      by_cases h0 : G k = 0
      · rw [if_pos h0] at hz
        cases hz
        exact Or.inl ⟨h0, rfl⟩
      · rw [if_neg h0] at hz
        by_cases he : 4 * (G k - 1) + 2 * (if A k = node % 378 % 7 then 0 else 1) + y / 7 % 2 = PR (node / 378)
        · rw [if_pos he] at hz
          cases hz
          exact Or.inr ⟨h0, rfl, he⟩
        · rw [if_neg he] at hz
          cases hz
  · cases hz
theorem wls_lt {node k z : Nat} (tok : Tok ns A B G) (hk : k < ns) (hz : wls A B G T PR fr np node k = some z) : z / 378 ≤ np := by
  obtain ⟨h1, y, hy, h⟩ := wls_inv hk hz
  obtain ⟨t1, t2, -, t3⟩ := tok.2 k hk
  have := mbeh_lt (Nat.mod_lt _ (by decide)) t1 t2 t3 hy
  rcases h with ⟨-, e⟩ | ⟨-, e, -⟩ <;> omega
theorem ch_wls (tok : Tok ns A B G) (hT : ∀ s, s < ns → T s < 2) (hst : st < 378) : ∀ m, m ≤ np → ∀ u, ch A B G T PR fr ns st m u → re (wls A B G T PR fr np) ns st (378 * m + u) := by
  intro m
  induction m with
  | zero =>
    intro _ u h
    rw [show u = st from h, Nat.mul_zero, Nat.zero_add]
    exact re_nil
  | succ m ih =>
    rintro hm u ⟨u', x, s, h1, h2, h3⟩
    have hu' := ch_lt tok hst m u' h1
    have hx := (re_mk tok hu' h2).1
    obtain ⟨t1, t2, -, t3⟩ := tok.2 s h3.1
    have hul := mbeh_lt hx t1 t2 t3 h3.2.2.2.1
    have hx2 : x < 378 ∧ re (wls A B G T PR fr np) ns st (378 * m + x) := by
      refine re_ind (P := fun x => x < 378 ∧ re (wls A B G T PR fr np) ns st (378 * m + x)) ⟨hu', ih (by omega) u' h1⟩ ?_ h2
      rintro x a y _ ⟨hx, hr⟩ ha he
      refine ⟨rs_lt tok ha hx he, ?_⟩
      unfold rs at he
      split at he
      · rename_i hh
        have e1 := (tp2 _ (hT (a / 2) (by omega)) _ (Nat.mod_lt _ (by decide))).mp hh.2
        rw [e1] at he
        exact re_step (a := a / 2) hr (by omega) (wls_G0 (by omega) hx (hh.1.resolve_left (by decide)) he)
      · cases he
    exact re_step (a := s) hx2.2 h3.1 (wls_gate (by omega) hx hul h3)
theorem wls_ch (tok : Tok ns A B G) (hT : ∀ s, s < ns → T s < 2) (hst : st < 378) {z : Nat} (h : re (wls A B G T PR fr np) ns st z) : ∃ u, ch A B G T PR fr ns st (z / 378) u ∧ re (rs A B G (fun s => 2 ^ T s) fr false) (2 * ns) u (z % 378) := by
  refine re_ind (P := fun z => ∃ u, ch A B G T PR fr ns st (z / 378) u ∧ re (rs A B G (fun s => 2 ^ T s) fr false) (2 * ns) u (z % 378)) ?_ ?_ h
  · rw [show st / 378 = 0 by omega, show st % 378 = st by omega]
    exact ⟨st, rfl, re_nil⟩
  · rintro x k y _ ⟨u, hu, hr⟩ hk he
    obtain ⟨h1, v, hv, hh⟩ := wls_inv hk he
    obtain ⟨t1, t2, t12, t3⟩ := tok.2 k hk
    have hxl : x % 378 < 378 := Nat.mod_lt _ (by decide)
    have hvl := mbeh_lt hxl t1 t2 t3 hv
    rcases hh with ⟨h0, e⟩ | ⟨h0, e, hp⟩
    · rw [e, show (378 * (x / 378) + v) / 378 = x / 378 by omega, show (378 * (x / 378) + v) % 378 = v by omega]
      refine ⟨u, hu, re_step (a := 2 * k + T k) hr (by have := hT k hk; omega) ?_⟩
      rw [rs_eq (tn := fun s => 2 ^ T s) (s := k) (t := T k) (Or.inr h0) (hT k hk) ((tp2 _ (hT k hk) _ (hT k hk)).mpr rfl)]
      exact hv
    · rw [e, show (378 * (x / 378 + 1) + v) / 378 = x / 378 + 1 by omega, show (378 * (x / 378 + 1) + v) % 378 = v by omega]
      refine ⟨v, ⟨u, x % 378, k, hu, hr, hk, ?_, ?_, hv, ?_⟩, re_nil⟩
      · by_cases ha : A k = x % 378 % 7
        · rw [if_pos ha] at hp; omega
        · rw [if_neg ha] at hp; omega
      · by_cases ha : A k = x % 378 % 7
        · rw [if_pos ha] at hp; exact ⟨fun _ => ha, fun _ => by omega⟩
        · rw [if_neg ha] at hp; exact ⟨fun z => by omega, fun z => absurd z ha⟩
      · by_cases ha : A k = x % 378 % 7
        · rw [if_pos ha] at hp; omega
        · rw [if_neg ha] at hp; omega
end Wls
/-! its queue -/
def mkd (F : Nat → Nat) (en x : Nat) : Prop := ∃ t, t < en ∧ F t = x
def bQ (es : Nat → Nat → Option Nat) (ns st np : Nat) (i : jI) (en : Nat) (F : Nat → Nat) : Prop := en ≤ 2646 ∧ (∀ t, t < en → i 60 t = nI (F t) ∧ F t / 378 ≤ np ∧ re es ns st (F t)) ∧ (∀ t t', t < t' → t' < en → F t ≠ F t') ∧ (∀ x, x < 2646 → (i 59 x = 0 ↔ ¬ mkd F en x)) ∧ mkd F en st
def lvF (i i' : jI) : Prop := ∀ x f, x ≠ 59 → x ≠ 60 → i' x f = i x f
section BQ
variable {es : Nat → Nat → Option Nat} {ns st np en : Nat} {i : jI} {F : Nat → Nat}
theorem mkd_up {x y : Nat} (h : mkd F en x) : mkd (sU F en y) (en + 1) x := by
  obtain ⟨t, ht, e⟩ := h
  exact ⟨t, by omega, by rw [sU_ne (by omega)]; exact e⟩
theorem bQ_push {y : Nat} {i' : jI} (hnp : np ≤ 6) (h : bQ es ns st np i en F) (hy : y / 378 ≤ np) (hr : re es ns st y) (hn : ¬ mkd F en y) (hi' : en < 2646 → i' = ju (ju i 59 y 1) 60 en (nI y)) : en < 2646 ∧ (i' = ju (ju i 59 y 1) 60 en (nI y) → bQ es ns st np i' (en + 1) (sU F en y)) := by
  obtain ⟨h1, h2, h3, h4, h5⟩ := h
  have hlt : ∀ t, t < en → F t < 2646 := fun t ht => by have := (h2 t ht).2.1; omega
  have hen : en < 2646 := by
    rcases Nat.lt_or_ge en 2646 with hl | hl
    · exact hl
    · exfalso
      have e : en = 2646 := by omega
      subst e
      obtain ⟨t, ht, e⟩ := fb_onto hlt h3 (show y < 2646 by omega)
      exact hn ⟨t, ht, e⟩
  refine ⟨hen, fun e => ⟨hen, fun t ht => ?_, fun t t' h12 ht' => ?_, fun x hx => ?_, mkd_up h5⟩⟩
  · by_cases et : t = en
    · subst et
      rw [sU_eq, e, ju_eq, pk_us]
      exact ⟨rfl, hy, hr⟩
    · rw [sU_ne et, e, ju_eq, pk_un et, ju_ne (by decide)]
      exact h2 t (by omega)
  · by_cases et : t' = en
    · subst et
      rw [sU_eq, sU_ne (by omega)]
      exact fun z => hn ⟨t, h12, z⟩
    · rw [sU_ne et, sU_ne (by omega)]
      exact h3 t t' h12 (by omega)
  · rw [e, ju_ne (by decide), ju_eq]
    by_cases ex : x = y
    · subst ex
      rw [pk_us]
      exact ⟨fun hh => absurd hh (by decide), fun hh => absurd ⟨en, by omega, sU_eq⟩ hh⟩
    · rw [pk_un ex, h4 x hx]
      refine not_congr ⟨mkd_up, ?_⟩
      rintro ⟨t, ht, et⟩
      by_cases e2 : t = en
      · subst e2; rw [sU_eq] at et; exact absurd et.symm ex
      · rw [sU_ne e2] at et; exact ⟨t, by omega, et⟩
end BQ
section LvM
variable {len : Nat → Nat} {r : jR} {j : jL} {ns np st kd w : Nat} {A B G P PR : Nat → Nat} {fr : Bool}
abbrev wE (A B G P PR : Nat → Nat) (fr : Bool) (kd np : Nat) : Nat → Nat → Option Nat := wls A B G (fun s => mturn kd (P s)) PR fr np
def ext (en0 : Nat) (F0 : Nat → Nat) (en : Nat) (F : Nat → Nat) : Prop := en0 ≤ en ∧ ∀ t, t < en0 → F t = F0 t
theorem ext_mkd {en0 en x : Nat} {F0 F : Nat → Nat} (h : ext en0 F0 en F) (hm : mkd F0 en0 x) : mkd F en x := by
  obtain ⟨t, ht, e⟩ := hm
  exact ⟨t, by have := h.1; omega, (h.2 t ht).trans e⟩
theorem lp_lv93 {Q : Int32 → jI → jL → Prop} {Hd : jI → jL → Nat → Int32 → Int32 → Int32 → Prop} {i0 : jI} {q node en0 : Nat} {F0 : Nat → Nat} (hg : Gr r len) (tm : TM i0 ns A B G P fr) (hkd : kd < 5) (hw : w < 5) (e42 : i0 42 w = nI kd) (hnp : np ≤ 6) (hPR : ∀ q, q < np → i0 45 q = nI (PR q) ∧ PR q < 12) (hnode : node / 378 < np) (hre : re (wE A B G P PR fr kd np) ns st node) (hH : ∀ i' en F, lvF i0 i' → bQ (wE A B G P PR fr kd np) ns st np i' en F → ext en0 F0 en F → (∀ k, k < ns → ∀ y, wE A B G P PR fr kd np node k = some y → mkd F en y) → Hd i' j 37 (nI w) (nI en) (nI (q + 1))) : ∀ (m k : Nat) (i : jI) (en : Nat) (F : Nat → Nat), k + m = ns → lvF i0 i → bQ (wE A B G P PR fr kd np) ns st np i en F → ext en0 F0 en F → (∀ k', k' < k → ∀ y, wE A B G P PR fr kd np node k' = some y → mkd F en y) → J_X12_leaves_L93 len r Q Hd (m + 1) i j 37 (nI w) (nI en) (nI q) (nI (node / 378)) (nI (node % 378)) (nI k) := by
  have hn := tm.2.1
  have tok := tm.tok
  have hx : node % 378 < 378 := Nat.mod_lt _ (by decide)
  intro m
  induction m with
  | zero =>
    intro k i en F hk hf hb hex hdone
    have hk' : k = ns := by omega
    subst hk'
    rw [J_X12_leaves_L93]
    dsimp only
    rw [hf 37 0 (by decide) (by decide), tm.1]
    refine ⟨fun _ v ev => ?_, fun hh => absurd (nI_le (Nat.le_refl _) (by omega)) hh⟩
    rw [nI_1] at ev
    subst ev
    exact hH i en F hf hb hex hdone
  | succ m ih =>
    intro k i en F hk hf hb hex hdone
    have hkn : k < ns := by omega
    have ek : (nI k).toNatClampNeg = k := nI_clamp (by omega)
    have hvk : vp_in (nI k) 10 := vp_in_nI (by omega) (by decide)
    have tmi : TM i ns A B G P fr := tm.frm (fun a f z => hf a f (by omega) (by omega))
    obtain ⟨⟨c0, c1, c2, c3⟩, cA, cB, cAB, cP, cG⟩ := tmi.2.2.2 k hkn
    have nxt : ∀ i' en' F', lvF i0 i' → bQ (wE A B G P PR fr kd np) ns st np i' en' F' → ext en F en' F' → (∀ y, wE A B G P PR fr kd np node k = some y → mkd F' en' y) → J_X12_leaves_L255 len r Q Hd (J_X12_leaves_L93 len r Q Hd (m + 1)) i' j 37 (nI w) (nI en') (nI q) (nI (node / 378)) (nI (node % 378)) (nI k) := by
      intro i' en' F' hf' hb' hex' hk'
      rw [J_X12_leaves_L255]
      intro v ev
      rw [nI_1] at ev
      subst ev
      refine ih (k + 1) i' en' F' (by omega) hf' hb' ⟨Nat.le_trans hex.1 hex'.1, fun t ht => (hex'.2 t (by have := hex.1; omega)).trans (hex.2 t ht)⟩ (fun k2 hk2 y hy => ?_)
      by_cases e : k2 = k
      · subst e; exact hk' y hy
      · exact ext_mkd hex' (hdone k2 (by omega) y hy)
    have rf : ext en F en F := ⟨Nat.le_refl _, fun _ _ => rfl⟩
    -- a node to which the street leads
    have put : ∀ z, wE A B G P PR fr kd np node k = some z → J_X12_leaves_L218 len r Q Hd (J_X12_leaves_L93 len r Q Hd (m + 1)) i j 37 (nI w) (nI en) (nI q) (nI (node / 378)) (nI (node % 378)) (nI k) (nI z) := by
      intro z hz
      have hzl := wls_lt tok hkn hz
      have hz2 : z < 2646 := by omega
      have hrz := re_step hre hkn hz
      obtain ⟨b1, b2, b3, b4, b5⟩ := id hb
      rw [J_X12_leaves_L218]
      refine ⟨fun hh => absurd hh (nI_m1 (by omega)), fun _ => ⟨59, hg.1 _ (by decide) _ (by decide) _ rfl, by rw [hg.2 _ (by decide)]; exact vp_in_nI hz2 (by decide), ?_⟩⟩
      rw [nI_clamp (show z < 2 ^ 31 by omega)]
      refine ⟨fun hne => nxt i en F hf hb rf (fun y hy => ?_), fun heq => ⟨59, hg.1 _ (by decide) _ (by decide) _ rfl, by rw [hg.2 _ (by decide)]; exact vp_in_nI hz2 (by decide), fun i1 e1 => ⟨60, hg.1 _ (by decide) _ (by decide) _ rfl, ?_⟩⟩⟩
      · rw [hz] at hy
        cases hy
        exact Classical.byContradiction (fun hn => hne ((b4 z hz2).mpr hn))
      · obtain ⟨p1, p2⟩ := bQ_push (i' := ju (ju i 59 z 1) 60 en (nI z)) hnp hb hzl hrz ((b4 z hz2).mp heq) (fun _ => rfl)
        refine ⟨by rw [hg.2 _ (by decide)]; exact vp_in_nI p1 (by decide), fun i2 e2 v ev => ?_⟩
        rw [vb1] at e1
        rw [nI_clamp (by omega)] at e2
        rw [nI_1] at ev
        subst ev
        have ei2 : i2 = ju (ju i 59 z 1) 60 en (nI z) := by rw [e2, e1]
        refine nxt i2 (en + 1) (sU F en z) (fun x f a b => ?_) (by rw [ei2]; exact p2 rfl) ⟨by omega, fun t ht => sU_ne (by omega)⟩ (fun y hy => ?_)
        · rw [ei2, ju_ne b, ju_ne a]; exact hf x f a b
        · rw [hz] at hy
          cases hy
          exact ⟨en, by omega, sU_eq⟩
    rw [J_X12_leaves_L93]
    dsimp only
    rw [tmi.1, nI_clamp (show w < 2 ^ 31 by omega), ek]
    refine ⟨fun hh => absurd hh (nI_ge (by omega) (by omega)), fun _ => ⟨42, hg.1 _ (by decide) _ (by decide) _ rfl, by rw [hg.2 _ (by decide)]; exact vp_in_nI hw (by decide), ?_⟩⟩
    rw [hf 42 w (by decide) (by decide), e42]
    refine sp_behM hg tmi hkd hx hkn ?_
    have hbl := fun st2 hh => mbeh_lt (T := fun s => mturn kd (P s)) (fr := fr) (st2 := st2) hx cA cB cG hh
    have o1 := so_none hbl
    cases hm : mbeh A B G (fun s => mturn kd (P s)) fr (node % 378) k with
    | none =>
      refine ⟨fun _ => nxt i en F hf hb rf (fun y hy => ?_), fun hh => absurd rfl hh⟩
      obtain ⟨-, y', hy', -⟩ := wls_inv hkn hy
      rw [hm] at hy'
      cases hy'
    | some y =>
      rw [hm] at o1
      have hy := hbl y hm
      have h7 : node % 378 % 7 < 7 := Nat.mod_lt _ (by decide)
      -- by which way
      have way : ∀ wy, wy < 2 → wy = (if A k = node % 378 % 7 then 0 else 1) → J_X12_leaves_L144 len r Q Hd (J_X12_leaves_L93 len r Q Hd (m + 1)) i j 37 (nI w) (nI en) (nI q) (nI (node / 378)) (nI (node % 378)) (nI k) (nI y) (nI wy) := by
        intro wy hwy2 hwy
        rw [J_X12_leaves_L144]
        refine ⟨41, hg.1 _ (by decide) _ (by decide) _ rfl, by rw [hg.2 _ (by decide)]; exact hvk, sp_footIn hy (fun v ev => ⟨41, hg.1 _ (by decide) _ (by decide) _ rfl, by rw [hg.2 _ (by decide)]; exact hvk, ?_⟩)⟩
        rw [ek, c3] at ev ⊢
        by_cases h0 : G k = 0
        · refine ⟨fun hh => absurd ((gt_eq _ (by omega)).1.mpr h0) hh, fun _ => ?_⟩
          rw [show (378 : Int32) * nI (node / 378) = nI (378 * (node / 378)) from pk_mul 378 _, nI_add]
          refine put _ ?_
          unfold wE wls
          rw [if_pos hnode, hm, Option.bind_some, if_pos h0]
        · rw [(gt_eq _ (by omega)).2 (by omega), prM _ (by omega) _ hwy2 _ (by omega)] at ev
          subst ev
          obtain ⟨p1, p2⟩ := hPR _ hnode
          refine ⟨fun _ => ⟨45, hg.1 _ (by decide) _ (by decide) _ rfl, by rw [hg.2 _ (by decide)]; exact vp_in_nI (by show node / 378 < 6; omega) (by decide), ?_⟩, fun hh => absurd ((gt_eq _ (by omega)).1.mp hh) h0⟩
          rw [nI_clamp (show node / 378 < 2 ^ 31 by omega), hf 45 _ (by decide) (by decide), p1]
          refine ⟨fun hne => ?_, fun heq => ?_⟩
          · rw [J_X12_leaves_L218]
            refine ⟨fun _ => nxt i en F hf hb rf (fun z hz => ?_), fun hh => absurd rfl hh⟩
            obtain ⟨-, y', hy', hcase⟩ := wls_inv hkn hz
            rw [hm] at hy'
            cases hy'
            rcases hcase with ⟨z0, -⟩ | ⟨-, -, z1⟩
            · exact absurd z0 h0
            · rw [← hwy] at z1
              exact absurd (by rw [z1]) hne
          · have heq' : 4 * (G k - 1) + 2 * wy + y / 7 % 2 = PR (node / 378) := (nI_eq (by omega) (by omega)).mp heq
            rw [nI_1, show (378 : Int32) * nI (node / 378 + 1) = nI (378 * (node / 378 + 1)) from pk_mul 378 _, nI_add]
            refine put _ ?_
            unfold wE wls
            rw [if_pos hnode, hm, Option.bind_some, if_neg h0, ← hwy, if_pos heq']
      refine ⟨fun hh => (by cases o1.mp hh), fun _ => ⟨38, hg.1 _ (by decide) _ (by decide) _ rfl, by rw [hg.2 _ (by decide)]; exact hvk, sp_placeIn hx ?_⟩⟩
      rw [c0]
      refine ⟨fun hne => way 1 (by decide) ?_, fun heq => way 0 (by decide) ?_⟩
      · rw [if_neg (fun z => hne (by rw [z]))]
      · rw [if_pos ((nI_eq (by omega) (by omega)).mp heq)]
theorem lp_lv50 {Q : Int32 → jI → jL → Prop} {i0 : jI} (hg : Gr r len) (tm : TM i0 ns A B G P fr) (hkd : kd < 5) (hw : w < 5) (e42 : i0 42 w = nI kd) (hnp : np ≤ 6) (e12 : i0 37 12 = nI np) (hPR : ∀ q, q < np → i0 45 q = nI (PR q) ∧ PR q < 12) (hQ1 : (∃ z, re (wE A B G P PR fr kd np) ns st z ∧ z / 378 = np) → ∀ i', lvF i0 i' → Q 1 i' j) (hQ0 : (¬ ∃ z, re (wE A B G P PR fr kd np) ns st z ∧ z / 378 = np) → ∀ i', lvF i0 i' → Q 0 i' j) : ∀ (g q : Nat) (i : jI) (en : Nat) (F : Nat → Nat), q + g = 2647 → q ≤ en → lvF i0 i → bQ (wE A B G P PR fr kd np) ns st np i en F → (∀ t, t < q → F t / 378 ≠ np ∧ ∀ k, k < ns → ∀ y, wE A B G P PR fr kd np (F t) k = some y → mkd F en y) → J_X12_leaves_L50 len r Q g i j 37 (nI w) (nI en) (nI q) := by
  intro g
  induction g with
  | zero => intro q i en F hq hqe hf hb; have := hb.1; omega
  | succ g ih =>
    intro q i en F hq hqe hf hb hdone
    obtain ⟨b1, b2, b3, b4, b5⟩ := id hb
    rw [J_X12_leaves_L50]
    refine pk_le en q (fun hle => hQ0 ?_ i hf) (fun hlt => ?_)
    · have hqe' : q = en := by omega
      subst hqe'
      rintro ⟨z, hz, hzn⟩
      have : mkd F q z := re_ind (P := fun z => mkd F q z) b5 (fun x a y _ hx ha he => by
        obtain ⟨t, ht, e⟩ := hx
        subst e
        exact (hdone t ht).2 a ha y he) hz
      obtain ⟨t, ht, e⟩ := this
      subst e
      exact (hdone t ht).1 hzn
    · obtain ⟨f1, f2, f3⟩ := b2 q hlt
      have eq : (nI q).toNatClampNeg = q := nI_clamp (by omega)
      have hvq : vp_in (nI q) 2646 := vp_in_nI (by omega) (by decide)
      rw [eq]
      refine ⟨60, hg.1 _ (by decide) _ (by decide) _ rfl, by rw [hg.2 _ (by decide)]; exact hvq, fun v65 e65 => ⟨60, hg.1 _ (by decide) _ (by decide) _ rfl, by rw [hg.2 _ (by decide)]; exact hvq, fun v77 e77 => ?_⟩⟩
      rw [f1, show nI (F q) / (378 : Int32) = nI (F q / 378) from pk_div (d := 378) (by omega) (by decide) (by decide)] at e65
      rw [f1, show nI (F q) - nI (F q) / (378 : Int32) * (378 : Int32) = nI (F q % 378) from pk_rem (d := 378) (by omega) (by decide) (by decide)] at e77
      subst e65 e77
      rw [hf 37 12 (by decide) (by decide), e12]
      refine ⟨fun hne => ⟨ns + 1, ?_⟩, fun heq => hQ1 ⟨F q, f3, (nI_eq (by omega) (by omega)).mp heq⟩ i hf⟩
      have hne' : F q / 378 ≠ np := fun z => hne (by rw [z])
      refine lp_lv93 (en0 := en) (F0 := F) hg tm hkd hw e42 hnp hPR (by omega) f3 (fun i' en' F' hf' hb' hex' hk' => ?_) ns 0 i en F (by omega) hf hb ⟨Nat.le_refl _, fun _ _ => rfl⟩ (fun k' hk' => by omega)
      refine ih (q + 1) i' en' F' (by omega) (by have := hex'.1; omega) hf' hb' (fun t ht => ?_)
      by_cases e : t = q
      · subst e
        rw [hex'.2 t hlt]
        exact ⟨hne', hk'⟩
      · rw [hex'.2 t (by omega)]
        exact ⟨(hdone t (by omega)).1, fun k hk y hy => ext_mkd hex' ((hdone t (by omega)).2 k hk y hy)⟩
theorem lp_lv2 {Q : Int32 → jI → jL → Prop} {i0 : jI} (hg : Gr r len) (tm : TM i0 ns A B G P fr) (hkd : kd < 5) (hw : w < 5) (e42 : i0 42 w = nI kd) (e43 : i0 43 w = nI st) (hst : st < 378) (hnp : np ≤ 6) (e12 : i0 37 12 = nI np) (hPR : ∀ q, q < np → i0 45 q = nI (PR q) ∧ PR q < 12) (hQ1 : (∃ z, re (wE A B G P PR fr kd np) ns st z ∧ z / 378 = np) → ∀ i', lvF i0 i' → Q 1 i' j) (hQ0 : (¬ ∃ z, re (wE A B G P PR fr kd np) ns st z ∧ z / 378 = np) → ∀ i', lvF i0 i' → Q 0 i' j) : ∀ (m x : Nat) (i : jI), x + m = 2646 → lvF i0 i → (∀ y, y < x → i 59 y = 0) → J_X12_leaves_L2 len r Q (m + 1) i j 37 (nI w) (nI x) := by
  intro m
  induction m with
  | zero =>
    intro x i hx hf h0
    have hx' : x = 2646 := by omega
    subst hx'
    have hvw : vp_in (nI w) 5 := vp_in_nI hw (by decide)
    have ew : (nI w).toNatClampNeg = w := nI_clamp (by omega)
    rw [J_X12_leaves_L2]
    refine ⟨fun _ => ⟨59, hg.1 _ (by decide) _ (by decide) _ rfl, 43, hg.1 _ (by decide) _ (by decide) _ rfl, by rw [hg.2 _ (by decide)]; exact hvw, ?_⟩, fun hh => absurd (by decide) hh⟩
    rw [ew, hf 43 w (by decide) (by decide), e43, nI_clamp (show st < 2 ^ 31 by omega)]
    refine ⟨by rw [hg.2 _ (by decide)]; exact vp_in_nI (by show st < 2646; omega) (by decide), fun i1 e1 => ⟨60, hg.1 _ (by decide) _ (by decide) _ rfl, 43, hg.1 _ (by decide) _ (by decide) _ rfl, by rw [hg.2 _ (by decide)]; exact hvw, by rw [hg.2 _ (by decide)]; exact pk_in 0 2646 (by decide), fun i2 e2 => ⟨2647, ?_⟩⟩⟩
    rw [vb1] at e1
    rw [show (0 : Int32).toNatClampNeg = 0 from by decide] at e2
    have e143 : i1 43 w = nI st := by rw [e1, ju_ne (by decide), hf 43 w (by decide) (by decide), e43]
    rw [e143] at e2
    refine lp_lv50 hg tm hkd hw e42 hnp e12 hPR hQ1 hQ0 2647 0 i2 1 (fun _ => st) (by omega) (by omega) (fun z f a b => by rw [e2, ju_ne b, e1, ju_ne a]; exact hf z f a b) ⟨by decide, fun t ht => ?_, fun t t' h12 ht' => by omega, fun y hy => ?_, 0, by decide, rfl⟩ (fun t ht => by omega)
    · have : t = 0 := by omega
      subst this
      rw [e2, ju_eq, pk_us]
      exact ⟨rfl, by show st / 378 ≤ np; omega, re_nil⟩
    · rw [e2, ju_ne (by decide), e1, ju_eq]
      by_cases e : y = st
      · subst e
        rw [pk_us]
        exact ⟨fun hh => absurd hh (by decide), fun hh => absurd ⟨0, by decide, rfl⟩ hh⟩
      · rw [pk_un e]
        refine ⟨fun _ => ?_, fun _ => h0 y hy⟩
        rintro ⟨t, ht, et⟩
        exact e et.symm
  | succ m ih =>
    intro x i hx hf h0
    rw [J_X12_leaves_L2]
    refine ⟨fun hh => absurd hh (nI_ge (b := 2646) (by omega) (by decide)), fun _ => ⟨59, hg.1 _ (by decide) _ (by decide) _ rfl, by rw [hg.2 _ (by decide)]; exact vp_in_nI (by simp only [LL]; omega) (by decide), fun i1 e1 v ev => ?_⟩⟩
    rw [nI_clamp (by omega), vb0] at e1
    rw [nI_1] at ev
    subst ev
    refine ih (x + 1) i1 (by omega) (fun z f a b => by rw [e1, ju_ne a]; exact hf z f a b) (fun y hy => ?_)
    rw [e1, ju_eq]
    by_cases e : y = x
    · subst e; rw [pk_us]
    · rw [pk_un e]; exact h0 y (by omega)
theorem sp_leaves {Q : Int32 → jI → jL → Prop} {i : jI} (hg : Gr r len) (tm : TM i ns A B G P fr) (hkd : kd < 5) (hw : w < 5) (e42 : i 42 w = nI kd) (e43 : i 43 w = nI st) (hst : st < 378) (hnp : np ≤ 6) (e12 : i 37 12 = nI np) (hPR : ∀ q, q < np → i 45 q = nI (PR q) ∧ PR q < 12) (hQ1 : (∃ u, ch A B G (fun s => mturn kd (P s)) PR fr ns st np u) → ∀ i', lvF i i' → Q 1 i' j) (hQ0 : (¬ ∃ u, ch A B G (fun s => mturn kd (P s)) PR fr ns st np u) → ∀ i', lvF i i' → Q 0 i' j) : J_X12_leaves len r Q i j 37 (nI w) := by
  have hT : ∀ s, s < ns → (fun s => mturn kd (P s)) s < 2 := fun s _ => mtn_lt kd (P s)
  have key : (∃ z, re (wE A B G P PR fr kd np) ns st z ∧ z / 378 = np) ↔ ∃ u, ch A B G (fun s => mturn kd (P s)) PR fr ns st np u := by
    constructor
    · rintro ⟨z, hz, e⟩
      obtain ⟨u, hu, -⟩ := wls_ch tm.tok hT hst hz
      rw [e] at hu
      exact ⟨u, hu⟩
    · rintro ⟨u, hu⟩
      have hul := ch_lt tm.tok hst np u hu
      exact ⟨378 * np + u, ch_wls tm.tok hT hst np (Nat.le_refl _) u hu, by omega⟩
  rw [J_X12_leaves]
  exact ⟨2647, lp_lv2 hg tm hkd hw e42 e43 hst hnp e12 hPR (fun h => hQ1 (key.mp h)) (fun h => hQ0 (fun z => h (key.mpr z))) 2646 0 i (by omega) (fun _ _ _ _ => rfl) (fun y hy => by omega)⟩
theorem lvF.wf {i i1 : jI} (h : lvF i i1) : wF i i1 := fun x f hk => h x f (by unfold kp at hk; omega) (by unfold kp at hk; omega)
theorem lp_whoM {Q : Int32 → jI → jL → Prop} {nw ng : Nat} {KD ST : Nat → Nat} {i0 : jI} (hg : Gr r len) (tm : TM i0 ns A B G P fr) (hnp : np ≤ 6) (e12 : i0 37 12 = nI np) (hPR : ∀ q, q < np → i0 45 q = nI (PR q) ∧ PR q < 12) (hnw : nw ≤ 5) (e8 : i0 37 8 = nI nw) (hW : ∀ w, w < nw → RWk i0 w (KD w) (ST w)) (hQ : ∀ i', wF i0 i' → Q (nI (bs (whF A B G P PR KD ST fr ns np) nw)) i' j) : ∀ (m x : Nat) (i : jI), x + m = nw → wF i0 i → J_X12_whoNow_L4 len r Q (m + 1) i j 37 (nI (bs (whF A B G P PR KD ST fr ns np) x)) (nI x) := by
  intro m
  induction m with
  | zero =>
    intro x i hx hf
    have hx' : x = nw := by omega
    subst hx'
    rw [J_X12_whoNow_L4]
    dsimp only
    rw [(hf 37 8 (by unfold kp; omega)).trans e8]
    exact ⟨fun _ => hQ i hf, fun hh => absurd (nI_le (Nat.le_refl _) (by omega)) hh⟩
  | succ m ih =>
    intro x i hx hf
    obtain ⟨q1, q2, q3, q4, q5, q6, q7⟩ := hW x (by omega)
    have fin : ∀ z (t : Int32) i', wF i0 i' → nI (bs (whF A B G P PR KD ST fr ns np) x) ||| t = nI z → z = bs (whF A B G P PR KD ST fr ns np) (x + 1) → J_X12_whoNow_L28 len r Q (J_X12_whoNow_L4 len r Q (m + 1)) i' j 37 (nI x) (nI (bs (whF A B G P PR KD ST fr ns np) x)) t := by
      intro z t i' hf' ht hz
      subst hz
      rw [J_X12_whoNow_L28]
      intro v ev v2 ev2
      rw [ht] at ev
      rw [nI_1] at ev2
      subst ev ev2
      exact ih (x + 1) i' (by omega) hf'
    rw [J_X12_whoNow_L4]
    dsimp only
    rw [(hf 37 8 (by unfold kp; omega)).trans e8]
    refine ⟨fun hh => absurd hh (nI_ge (by omega) (by omega)), fun _ => ?_⟩
    refine sp_leaves (PR := PR) (st := ST x) hg (tm.wf hf) q1 (by omega) ((hf _ _ (by unfold kp; omega)).trans q3) ((hf _ _ (by unfold kp; omega)).trans q5) q2 hnp ((hf _ _ (by unfold kp; omega)).trans e12) (fun q hq => ⟨(hf _ _ (by unfold kp; omega)).trans (hPR q hq).1, (hPR q hq).2⟩) (fun hyes i1 f1 => ⟨fun hh => absurd hh (by decide), fun _ => fin _ _ i1 (hf.tr f1.wf) (nI_setb (bs_lt _ _) (by omega)) ?_⟩) (fun hno i1 f1 => ⟨fun _ => fin _ _ i1 (hf.tr f1.wf) Int32.or_zero ?_, fun hh => absurd rfl hh⟩)
    · rw [bs, if_pos (show whF A B G P PR KD ST fr ns np x = true from dP_t.mpr hyes)]
    · rw [bs, if_neg (show ¬ whF A B G P PR KD ST fr ns np x = true from fun z => hno (dP_t.mp z)), Nat.add_zero]
end LvM
section OkWho
variable {len : Nat → Nat} {r : jR} {i : jI} {j : jL} {k : Nat}
theorem ok_23 (hg : Gr r len) (h : Rp k i) : J_X11_who len r (fun q i1 j1 => J_X12_who len r (fun q2 i2 j2 => q = q2 ∧ Rp (k + 5) i2) i1 j1 37) i j 0 := by
  have hR := h.up (k2 := k + 5) (by omega)
  obtain ⟨ns, ng, nt, nw, np, dn, pl, A, B, G, P, fr, h1, h2, h3, h4, h5, h6, h7, h8⟩ := h
  have hwf := h4.fn
  have hng : ng ≤ 3 := h1.2.2.2.1.2.2
  have hpr := h5.fn hng
  have hnw := h4.2.2.1
  rw [J_X11_who]
  refine ⟨nw + 1, lp_whoC (PR := pro i) (KD := kdo i) (ST := sto i) hg h1 h5.2.2.1 h5.2.1 (fun q hq => ⟨(hpr q hq).2.1, (hpr q hq).2.2⟩) hnw h4.2.1 hwf (fun i1 j1 hf => ?_) nw 0 i j (by omega) wF.rf⟩
  rw [J_X12_who, J_X12_whoNow]
  exact ⟨nw + 1, lp_whoM (ng := ng) (PR := pro i) (KD := kdo i) (ST := sto i) hg (h1.1.wf hf) h5.2.2.1 ((hf _ _ (by unfold kp; omega)).trans h5.1) (fun q hq => ⟨(hf _ _ (by unfold kp; omega)).trans (hpr q hq).1, by have := (hpr q hq).2.2; omega⟩) hnw ((hf _ _ (by unfold kp; omega)).trans h4.1) (fun w hw => (hwf w hw).wf (by omega) hf) (fun i2 hf2 => ⟨rfl, hR.sm (hf.tr hf2).sm⟩) nw 0 i1 (by omega) wF.rf⟩
end OkWho
