/-! what is only worked with, and what is kept -/
def kp (x f : Nat) : Prop := x ≤ 16 ∨ (32 ≤ x ∧ x ≤ 36) ∨ (38 ≤ x ∧ x ≤ 46) ∨ (61 ≤ x ∧ x ≤ 64) ∨ (x = 37 ∧ (f = 0 ∨ f = 5 ∨ f = 6 ∨ f = 7 ∨ f = 8 ∨ f = 12 ∨ f = 14 ∨ f = 15 ∨ f = 42 ∨ f = 43 ∨ f = 44 ∨ f = 45))
def wF (i i' : jI) : Prop := ∀ x f, kp x f → i' x f = i x f
section WF
variable {i i1 i2 : jI} {ns : Nat} {A B G P : Nat → Nat} {fr : Bool}
theorem wF.rf : wF i i := fun _ _ _ => rfl
theorem wF.tr (h1 : wF i i1) (h2 : wF i1 i2) : wF i i2 := fun x f hk => (h2 x f hk).trans (h1 x f hk)
theorem wF.cell {x : Nat} (h : wF i i1) (hx : ∀ f, kp x f) : i1 x = i x := funext (fun f => h x f (hx f))
theorem wF.sm (h : wF i i1) : Sm i i1 := ⟨⟨fun a ha => h.cell (fun f => by unfold kp; omega), h _ _ (by unfold kp; omega), h _ _ (by unfold kp; omega), h _ _ (by unfold kp; omega)⟩, ⟨h _ _ (by unfold kp; omega), h _ _ (by unfold kp; omega)⟩, ⟨fun a ha => h.cell (fun f => by unfold kp; omega), h _ _ (by unfold kp; omega), h _ _ (by unfold kp; omega)⟩, ⟨h.cell (fun f => by unfold kp; omega), h.cell (fun f => by unfold kp; omega), h _ _ (by unfold kp; omega), h _ _ (by unfold kp; omega)⟩, ⟨h _ _ (by unfold kp; omega), h _ _ (by unfold kp; omega)⟩, ⟨h.cell (fun f => by unfold kp; omega), h.cell (fun f => by unfold kp; omega), h _ _ (by unfold kp; omega), h _ _ (by unfold kp; omega)⟩, ⟨fun a ha => h.cell (fun f => by unfold kp; omega), h _ _ (by unfold kp; omega), h _ _ (by unfold kp; omega), h _ _ (by unfold kp; omega), h _ _ (by unfold kp; omega)⟩⟩
theorem TM.wf (e : wF i i1) (h : TM i ns A B G P fr) : TM i1 ns A B G P fr := h.cong e.sm.1
theorem TC.wf (e : wF i i1) (h : TC i ns A B G P fr) : TC i1 ns A B G P fr := h.cong e.sm.1
theorem hF.wf (h : hF 23 24 25 26 i i1) : wF i i1 := fun x f hk => h x f (by unfold kp at hk; omega) (by unfold kp at hk; omega) (by unfold kp at hk; omega) (by unfold kp at hk; omega)
theorem qF.wf (h : qF i i1) : wF i i1 := fun x f hk => h x f (by unfold kp at hk; omega) (by unfold kp at hk; omega) (by unfold kp at hk; omega) (by unfold kp at hk; omega)
theorem gF.wf (h : ∀ z f, z ≠ 17 → z ≠ 18 → i1 z f = i z f) : wF i i1 := fun x f hk => h x f (by unfold kp at hk; omega) (by unfold kp at hk; omega)
theorem RWk.wf {w kd st : Nat} (hw : w < 5) (e : wF i i1) (h : RWk i w kd st) : RWk i1 w kd st := h.cong hw e.sm.2.2.1.1
end WF
/-! the costs of a walker's ways -/
abbrev cw (A B G P : Nat → Nat) (fr : Bool) (ns k : Nat) (sk : Bool) (S st p c : Nat) : Prop := wcs A B G (fun s => mturn k (P s)) (fun s => mstep k (P s)) fr ns sk S st p c
theorem mst_22 : ∀ k, k < 5 → ∀ p, p < 16 → mstep k p ≤ 22 := by decide +kernel
theorem gw_cons {α : Type} {es : α → Nat → Option α} {m : Nat} {wt : Nat → Nat} {s x y : α} {c a : Nat} (ha : a < m) (he : es s a = some y) (h : gw_way es m wt y x c) : gw_way es m wt s x (wt a + c) := by
  obtain ⟨l, h1, h2, h3⟩ := h
  refine ⟨l ++ [a], fun b hb => ?_, ?_, ?_⟩
  · rcases List.mem_append.mp hb with hb | hb
    · exact h1 b hb
    · rw [List.mem_singleton.mp hb]; exact ha
  · rw [gw_app]
    show ((some s).bind (fun x => es x a)).bind (fun x => gw_run es x l) = some x
    rw [Option.bind_some, he, Option.bind_some]
    exact h2
  · rw [gw_sum_app, h3]
    show c + (0 + wt a) = wt a + c
    omega
section CW
variable {ns k st p : Nat} {A B G P T w : Nat → Nat} {fr sk : Bool}
theorem wcs_S1 {S S' c : Nat} (h : wcs A B G T w fr ns false S st p c) : wcs A B G T w fr ns false S' st p c := by
  obtain ⟨u, hu, h⟩ := h
  refine ⟨u, hu, gw_ind (P := fun x c => gw_way (mes A B G T fr ns false) (ns + 1) (mwg w ns S') st x c) gw_nil ?_ h⟩
  intro x c a y _ h2 ha he
  by_cases hn : a < ns
  · have e1 : mwg w ns S a = mwg w ns S' a := by unfold mwg; rw [if_pos hn, if_pos hn]
    rw [e1]
    exact gw_step h2 ha he
  · unfold mes at he
    rw [if_neg hn] at he
    cases he
theorem wcs_S {S S' c : Nat} : wcs A B G T w fr ns false S st p c ↔ wcs A B G T w fr ns false S' st p c := ⟨wcs_S1, wcs_S1⟩
theorem cw_cons {S s y c : Nat} (hs : s < ns) (hb : mbeh A B G (fun s => mturn k (P s)) fr st s = some y) (h : cw A B G P fr ns k sk S y p c) : cw A B G P fr ns k sk S st p (mstep k (P s) + c) := by
  obtain ⟨u, hu, h⟩ := h
  have e1 : mes A B G (fun s => mturn k (P s)) fr ns sk st s = some y := by unfold mes; rw [if_pos hs]; exact hb
  have e2 : mwg (fun s => mstep k (P s)) ns S s = mstep k (P s) := if_pos hs
  have := gw_cons (a := s) (by omega) e1 h
  rw [e2] at this
  exact ⟨u, hu, this⟩
theorem cw_small {S c : Nat} (tok : Tok ns A B G) (hP : ∀ s, s < ns → P s < 16) (hk : k < 5) (hst : st < 378) (hS : 22 ≤ S) (h : cw A B G P fr ns k sk S st p c) : ∃ c', c' ≤ c ∧ c' ≤ S * 378 ∧ cw A B G P fr ns k sk S st p c' := wcs_small tok hst (fun s hs => Nat.le_trans (mst_22 k hk (P s) (hP s hs)) hS) h
theorem lsm_ls {C : Nat → Prop} {o : Option Nat} (hs : ∀ c, C c → ∃ c', c' ≤ c ∧ c' ≤ 16384 * 378 ∧ C c') (h : lsm C 1073741824 o) : gw_ls C o ∧ ∀ c, o = some c → c ≤ 16384 * 378 := by
  cases o with
  | none =>
    refine ⟨fun c hc => ?_, fun c e => (by cases e)⟩
    obtain ⟨c', h1, h2, h3⟩ := hs c hc
    rcases h c' h3 with h | h <;> omega
  | some c =>
    refine ⟨⟨h.1, h.2.2⟩, fun d e => ?_⟩
    cases e
    obtain ⟨c', h1, h2, h3⟩ := hs c h.1
    have := h.2.2 c' h3
    omega
/-- skips and steps of a way -/
theorem gw_two (w : Nat → Nat) (ns S : Nat) : ∀ l, gw_sum (mwg w ns S) l = gw_sum (mwg w ns 0) l + S * gw_sum (mwg (fun _ => 0) ns 1) l := by
  intro l
  induction l with
  | nil => rfl
  | cons a l ih =>
    rw [gw_sum, gw_sum, gw_sum, ih, Nat.mul_add]
    by_cases h : a < ns
    · have e1 : mwg w ns S a = w a := if_pos h
      have e2 : mwg w ns 0 a = w a := if_pos h
      have e3 : mwg (fun _ => 0) ns 1 a = 0 := if_pos h
      rw [e1, e2, e3]
      omega
    · have e1 : mwg w ns S a = S := if_neg h
      have e2 : mwg w ns 0 a = 0 := if_neg h
      have e3 : mwg (fun _ => 0) ns 1 a = 1 := if_neg h
      rw [e1, e2, e3]
      omega
theorem cw_lists {S c : Nat} (tok : Tok ns A B G) (hP : ∀ s, s < ns → P s < 16) (hk : k < 5) (hst : st < 378) (h : gw_ls (cw A B G P fr ns k sk S st p) (some c)) : ∃ sm kn : Nat, sm ≤ 8316 ∧ c = sm + S * kn ∧ ∀ S', cw A B G P fr ns k sk S' st p (sm + S' * kn) := by
  obtain ⟨⟨u, hu, l, h1, h2, h3⟩, hmin⟩ := h
  obtain ⟨l2, a1, a2, a3, a4⟩ := gw_short (N := 378) hst (fun x hx a _ y h => mes_lt tok hx h) l.length l (Nat.le_refl _) h1 h2
  have two := gw_two (fun s => mstep k (P s)) ns
  have hb : gw_sum (mwg (fun s => mstep k (P s)) ns 0) l2 ≤ 22 * l2.length := gw_sum_le (fun a _ => by unfold mwg; split; exact mst_22 k hk _ (hP a (by assumption)); exact Nat.zero_le _) l2 a1
  have all : ∀ S', cw A B G P fr ns k sk S' st p (gw_sum (mwg (fun s => mstep k (P s)) ns 0) l2 + S' * gw_sum (mwg (fun _ => 0) ns 1) l2) := fun S' => ⟨u, hu, l2, a1, a2, two S' l2⟩
  refine ⟨_, _, by omega, ?_, all⟩
  have e1 := a3 (mwg (fun s => mstep k (P s)) ns S)
  have e2 := hmin _ (all S)
  rw [h3, two S l2] at e1
  omega
def skt (S : Nat) (o : Option Nat) (a : Nat) : Int32 := match o with
  | none => -1
  | some c => if a = 0 then nI (c / S) else nI (c % S)
theorem skt_eq {o o' : Option Nat} (tok : Tok ns A B G) (hP : ∀ s, s < ns → P s < 16) (hk : k < 5) (hst : st < 378) (h : gw_ls (cw A B G P fr ns k sk 16384 st p) o) (h' : gw_ls (cw A B G P fr ns k sk 10000 st p) o') (a : Nat) : skt 16384 o a = skt 10000 o' a := by
  cases o with
  | none =>
    cases o' with
    | none => rfl
    | some c' =>
      obtain ⟨sm, kn, -, -, h3⟩ := cw_lists tok hP hk hst h'
      exact absurd (h3 16384) (h _)
  | some c =>
    obtain ⟨sm, kn, b1, b2, b3⟩ := cw_lists tok hP hk hst h
    cases o' with
    | none => exact absurd (b3 10000) (h' _)
    | some c' =>
      obtain ⟨sm', kn', d1, d2, d3⟩ := cw_lists tok hP hk hst h'
      have e1 := h.2 _ (d3 16384)
      have e2 := h'.2 _ (b3 10000)
      have e3 : kn = kn' := by omega
      have e4 : sm = sm' := by omega
      subst e3 e4
      have f1 : c / 16384 = c' / 10000 := by omega
      have f2 : c % 16384 = c' % 10000 := by omega
      show (if a = 0 then nI (c / 16384) else nI (c % 16384)) = (if a = 0 then nI (c' / 10000) else nI (c' % 10000))
      rw [f1, f2]
/-- by which street first -/
def fs_ls (p : Nat → Prop) (n : Nat) (o : Option Nat) : Prop := match o with
  | none => ∀ s, s < n → ¬ p s
  | some s => s < n ∧ p s ∧ ∀ t, t < s → ¬ p t
theorem fs_ls_eq {p : Nat → Prop} {n : Nat} {o o' : Option Nat} (h : fs_ls p n o) (h' : fs_ls p n o') : o = o' := by
  cases o with
  | none =>
    cases o' with
    | none => rfl
    | some s => exact absurd h'.2.1 (h s h'.1)
  | some s =>
    cases o' with
    | none => exact absurd h.2.1 (h' s h.1)
    | some t =>
      rcases Nat.lt_trichotomy s t with e | e | e
      · exact absurd h.2.1 (h'.2.2 s e)
      · rw [e]
      · exact absurd h'.2.1 (h.2.2 t e)
def fP (A B G P : Nat → Nat) (fr : Bool) (ns k st p c s : Nat) : Prop := ∃ y c', mbeh A B G (fun s => mturn k (P s)) fr st s = some y ∧ cw A B G P fr ns k false 10000 y p c' ∧ mstep k (P s) + c' ≤ c
def fwt (A B G P : Nat → Nat) (fr : Bool) (ns k st p : Nat) (o o2 : Option Nat) : Prop := match o with
  | none => o2 = none
  | some c => if st % 7 = p then o2 = none else fs_ls (fP A B G P fr ns k st p c) ns o2
theorem fwt_eq {o o2 o3 : Option Nat} (h : fwt A B G P fr ns k st p o o2) (h' : fwt A B G P fr ns k st p o o3) : o2 = o3 := by
  cases o with
  | none => rw [show o2 = none from h, show o3 = none from h']
  | some c =>
    unfold fwt at h h'
    simp only at h h'
    split at h
    · rename_i e
      rw [if_pos e] at h'
      rw [h, h']
    · rename_i e
      rw [if_neg e] at h'
      exact fs_ls_eq h h'
end CW
section FewC
variable {len : Nat → Nat} {r : jR} {i : jI} {j : jL} {ns kd st p w : Nat} {A B G P : Nat → Nat} {fr : Bool}
theorem TC.p16 (h : TC i ns A B G P fr) : ∀ s, s < ns → P s < 16 := fun s hs => by have := (h.2.2.2 s hs).2.2.2.2.1; omega
theorem TM.p16 (h : TM i ns A B G P fr) : ∀ s, s < ns → P s < 16 := fun s hs => by have := (h.2.2.2 s hs).2.2.2.2.1; omega
theorem sp_few {Q : Int32 → jI → jL → Prop} (hg : Gr r len) (tc : TC i ns A B G P fr) (hkd : kd < 5) (hst : st < 378) (hp : p < 7) (hw : w < 5) (e0 : i (32 + w) 0 = nI kd) (e1 : i (32 + w) 1 = nI (enc st)) (hQ : ∀ i' o, gw_ls (cw A B G P fr ns kd false 10000 st p) o → (∀ c, o = some c → c ≤ 16384 * 378) → wF i i' → Q (bo o) i' j) : J_X11_fewestSteps len r Q i j 0 (32 + w) (nI p) := by
  rw [J_X11_fewestSteps, e0]
  refine ⟨16, hg.1 _ (by decide) _ (by decide) _ rfl, 3, hg.1 _ (by decide) _ (by decide) _ rfl, sp_gait hg (hg16 hg) tc hkd (fun i1 f1 ga1 => ⟨22, hg.1 _ (by decide) _ (by decide) _ rfl, 3, hg.1 _ (by decide) _ (by decide) _ rfl, 16, hg.1 _ (by decide) _ (by decide) _ rfl, ?_⟩)⟩
  rw [f1 (32 + w) 1 (by omega) (by omega), e1]
  have tc1 : TC i1 ns A B G P fr := tc.frm (fun a f h1 h2 => f1 a f (by omega) (by omega))
  refine sp_leastTo (sk := false) (most := 1073741824) hg tc1 ga1 (fun s hs => mst_39 kd hkd _ (tc.p16 s hs)) (fun s _ => mtn_lt kd (P s)) hst hp (Nat.le_refl _) (fun i2 o ho hf => ?_)
  obtain ⟨b1, b2⟩ := lsm_ls (fun c hc => cw_small (S := 16384) tc.tok tc.p16 hkd hst (by decide) hc) ho
  exact hQ i2 o (gw_ls_congr (fun c => wcs_S) b1) b2 ((gF.wf f1).tr hf.wf)
theorem lp_first {Q : Int32 → jI → jL → Prop} {i0 : jI} {c : Nat} (hg : Gr r len) (tc : TC i0 ns A B G P fr) (hkd : kd < 5) (hst : st < 378) (hp : p < 7) (hw : w < 5) (hc : c ≤ 16384 * 378) (hga : ga i0 17 18 ns (fun s => mstep kd (P s)) (fun s => mturn kd (P s))) (e1 : i0 (32 + w) 1 = nI (enc st)) (hQ : ∀ i' o, fs_ls (fP A B G P fr ns kd st p c) ns o → hF 23 24 25 26 i0 i' → Q (bo o) i' j) : ∀ (m x : Nat) (i : jI), x + m = ns → (∀ t, t < x → ¬ fP A B G P fr ns kd st p c t) → hF 23 24 25 26 i0 i → J_X11_firstStreet_L36 len r Q (m + 1) i j 0 (32 + w) (nI p) (nI c) (nI x) := by
  have hn := tc.2.1
  intro m
  induction m with
  | zero =>
    intro x i hx hno hf
    have hx' : x = ns := by omega
    subst hx'
    rw [J_X11_firstStreet_L36]
    refine ⟨3, hg.1 _ (by decide) _ (by decide) _ rfl, ?_⟩
    rw [hf 3 0 (by decide) (by decide) (by decide) (by omega), tc.1]
    exact ⟨fun _ => hQ i none hno hf, fun hh => absurd (nI_le (Nat.le_refl _) (by omega)) hh⟩
  | succ m ih =>
    intro x i hx hno hf
    have hxn : x < ns := by omega
    have ex : (nI x).toNatClampNeg = x := nI_clamp (by omega)
    have tci : TC i ns A B G P fr := tc.frm (fun a f h1 h2 => hf a f (by omega) (by omega) (by omega) (by omega))
    have gai : ga i 17 18 ns (fun s => mstep kd (P s)) (fun s => mturn kd (P s)) := fun s hs => by
      rw [hf 17 s (by decide) (by decide) (by decide) (by omega), hf 18 s (by decide) (by decide) (by decide) (by omega)]
      exact hga s hs
    obtain ⟨-, cA, cB, -, cP, cG⟩ := tc.2.2.2 x hxn
    have hwx := mst_22 kd hkd (P x) (by omega)
    have next : ∀ i', hF 23 24 25 26 i0 i' → ¬ fP A B G P fr ns kd st p c x → J_X11_firstStreet_L126 len r Q (J_X11_firstStreet_L36 len r Q (m + 1)) i' j 0 (32 + w) (nI p) (nI c) (nI x) := by
      intro i' hf' hno'
      rw [J_X11_firstStreet_L126]
      intro v ev
      rw [nI_1] at ev
      subst ev
      refine ih (x + 1) i' (by omega) (fun t ht => ?_) hf'
      by_cases e : t = x
      · subst e; exact hno'
      · exact hno t (by omega)
    rw [J_X11_firstStreet_L36]
    refine ⟨3, hg.1 _ (by decide) _ (by decide) _ rfl, ?_⟩
    rw [tci.1]
    refine ⟨fun hh => absurd hh (nI_ge (by omega) (by omega)), fun _ => ⟨3, hg.1 _ (by decide) _ (by decide) _ rfl, 16, hg.1 _ (by decide) _ (by decide) _ rfl, 18, hg.1 _ (by decide) _ (by decide) _ rfl, by rw [hg.2 _ (by decide)]; exact vp_in_nI (by simp only [LL]; omega) (by decide), ?_⟩⟩
    rw [ex, (gai x hxn).2, hf (32 + w) 1 (by omega) (by omega) (by omega) (by omega), e1]
    refine sp_behC hg tci (mtn_lt kd (P x)) hst hxn ⟨16, hg.1 _ (by decide) _ (by decide) _ rfl, 17, hg.1 _ (by decide) _ (by decide) _ rfl, by rw [hg.2 _ (by decide)]; exact vp_in_nI (by simp only [LL]; omega) (by decide), fun v ev => ?_⟩
    rw [(gai x hxn).1] at ev
    have hb := fun st2 hh => mbeh_lt (T := fun _ => mturn kd (P x)) (fr := fr) (st2 := st2) hst cA cB cG hh
    obtain ⟨o1, -⟩ := eo_none hb
    cases hm : mbeh A B G (fun _ => mturn kd (P x)) fr st x with
    | none =>
      refine ⟨fun _ => next i hf ?_, fun hh => absurd rfl hh⟩
      rintro ⟨y, c', h1, -⟩
      rw [show mbeh A B G (fun s => mturn kd (P s)) fr st x = mbeh A B G (fun _ => mturn kd (P x)) fr st x from rfl, hm] at h1
      cases h1
    | some y =>
      rw [hm] at o1
      have hy := hb y hm
      have hm' : mbeh A B G (fun s => mturn kd (P s)) fr st x = some y := hm
      refine ⟨fun hh => (by cases o1.mp hh), fun _ => ?_⟩
      rcases Nat.lt_or_ge c (mstep kd (P x)) with hlt | hge
      · refine ⟨fun _ => next i hf ?_, fun hh => absurd (by rw [ev]; exact pk_sneg (b := mstep kd (P x)) (by omega) hlt) hh⟩
        rintro ⟨y', c', h1, h2, h3⟩
        omega
      · rw [pk_sub hge] at ev
        subst ev
        refine ⟨fun hh => absurd hh (nI_pos (by omega)), fun _ => ⟨22, hg.1 _ (by decide) _ (by decide) _ rfl, 3, hg.1 _ (by decide) _ (by decide) _ rfl, 16, hg.1 _ (by decide) _ (by decide) _ rfl, ?_⟩⟩
        refine sp_leastTo (sk := false) (most := c - mstep kd (P x)) hg tci gai (fun s hs => mst_39 kd hkd _ (tc.p16 s hs)) (fun s _ => mtn_lt kd (P s)) hy hp (by omega) (fun i2 o ho hf2 => ?_)
        cases o with
        | none =>
          refine ⟨fun _ => next i2 (hf.tr hf2) ?_, fun hh => absurd rfl hh⟩
          rintro ⟨y', c', h1, h2, h3⟩
          rw [hm'] at h1
          cases h1
          rcases ho c' (wcs_S.mp h2) with h | h <;> omega
        | some d =>
          have hd := ho.2.1
          refine ⟨fun hh => absurd hh (nI_m1 (by omega)), fun _ => hQ i2 (some x) ⟨hxn, ⟨y, d, hm', wcs_S.mp ho.1, by omega⟩, hno⟩ (hf.tr hf2)⟩
theorem sp_first {Q : Int32 → jI → jL → Prop} {o : Option Nat} (hg : Gr r len) (tc : TC i ns A B G P fr) (hkd : kd < 5) (hst : st < 378) (hp : p < 7) (hw : w < 5) (ho : ∀ c, o = some c → c ≤ 16384 * 378) (e0 : i (32 + w) 0 = nI kd) (e1 : i (32 + w) 1 = nI (enc st)) (hQ : ∀ i' o2, fwt A B G P fr ns kd st p o o2 → wF i i' → Q (bo o2) i' j) : J_X11_firstStreet len r Q i j 0 (32 + w) (nI p) (bo o) := by
  rw [J_X11_firstStreet]
  cases o with
  | none =>
    refine ⟨fun _ => ?_, fun hh => absurd rfl hh⟩
    rw [J_X11_firstStreet_L16]
    exact hQ i none rfl wF.rf
  | some c =>
    have hc := ho c rfl
    refine ⟨fun hh => absurd hh (nI_m1 (by omega)), fun _ => ?_⟩
    rw [e1]
    refine sp_placeOf hst ?_
    have h7 : st % 7 < 7 := Nat.mod_lt _ (by decide)
    refine ⟨fun hne => ⟨16, hg.1 _ (by decide) _ (by decide) _ rfl, 3, hg.1 _ (by decide) _ (by decide) _ rfl, ?_⟩, fun heq => ?_⟩
    · have hne' : ¬ st % 7 = p := fun z => hne (by rw [z])
      rw [e0]
      refine sp_gait hg (hg16 hg) tc hkd (fun i1 f1 ga1 => ⟨ns + 1, ?_⟩)
      have tc1 : TC i1 ns A B G P fr := tc.frm (fun a f h1 h2 => f1 a f (by omega) (by omega))
      refine lp_first hg tc1 hkd hst hp hw hc ga1 ((f1 (32 + w) 1 (by omega) (by omega)).trans e1) (fun i2 o2 h2 hf => hQ i2 o2 ?_ ((gF.wf f1).tr hf.wf)) ns 0 i1 (by omega) (fun t ht => by omega) hF.rf
      unfold fwt
      simp only
      rw [if_neg hne']
      exact h2
    · have heq' : st % 7 = p := (nI_eq (by omega) (by omega)).mp heq
      rw [J_X11_firstStreet_L16]
      refine hQ i none ?_ wF.rf
      unfold fwt
      simp only [if_pos heq']
theorem sp_fskips {Q : Int32 → jI → jL → Prop} (hg : Gr r len) (tc : TC i ns A B G P fr) (hkd : kd < 5) (hst : st < 378) (hp : p < 7) (hw : w < 5) (e0 : i (32 + w) 0 = nI kd) (e1 : i (32 + w) 1 = nI (enc st)) (hQ : ∀ i' o, gw_ls (cw A B G P fr ns kd (decide (kd ≠ 3)) 16384 st p) o → (∀ c, o = some c → c ≤ 16384 * 378) → wF i i' → Q (bo o) i' j) : J_X11_fewestSkips len r Q i j 0 (32 + w) (nI p) := by
  rw [J_X11_fewestSkips, e0]
  refine ⟨16, hg.1 _ (by decide) _ (by decide) _ rfl, 3, hg.1 _ (by decide) _ (by decide) _ rfl, sp_gait hg (hg16 hg) tc hkd (fun i1 f1 ga1 => ⟨22, hg.1 _ (by decide) _ (by decide) _ rfl, 3, hg.1 _ (by decide) _ (by decide) _ rfl, 16, hg.1 _ (by decide) _ (by decide) _ rfl, ?_⟩)⟩
  rw [f1 (32 + w) 1 (by omega) (by omega), e1, f1 (32 + w) 0 (by omega) (by omega), e0]
  have tc1 : TC i1 ns A B G P fr := tc.frm (fun a f h1 h2 => f1 a f (by omega) (by omega))
  have main : ∀ sk : Bool, sk = decide (kd ≠ 3) → J_X11_fewestSkips_L48 len r Q i1 j 22 3 16 (nI (enc st)) (nI p) (1073741824 : Int32) (if sk = true then 1 else 0) := by
    intro sk hsk
    rw [J_X11_fewestSkips_L48]
    refine sp_leastTo (sk := sk) (most := 1073741824) hg tc1 ga1 (fun s hs => mst_39 kd hkd _ (tc.p16 s hs)) (fun s _ => mtn_lt kd (P s)) hst hp (Nat.le_refl _) (fun i2 o ho hf => ?_)
    obtain ⟨b1, b2⟩ := lsm_ls (fun c hc => cw_small (S := 16384) tc.tok tc.p16 hkd hst (by decide) hc) ho
    rw [hsk] at b1
    exact hQ i2 o b1 b2 ((gF.wf f1).tr hf.wf)
  by_cases h3 : kd = 3
  · exact ⟨fun _ => main false (by simp [h3]), fun hh => absurd ((k3 kd hkd).mpr h3) hh⟩
  · exact ⟨fun hh => absurd ((k3 kd hkd).mp hh) h3, fun _ => main true (by simp [h3])⟩
theorem sp_skipsTold {Q : Int32 → jI → jL → Prop} {o : Option Nat} {a : Nat} (ho : ∀ c, o = some c → c ≤ 16384 * 378) (ha : a < 2) (hQ : Q (skt 16384 o a) i j) : J_X11_skipsTold len r Q i j (bo o) (nI a) := by
  rw [J_X11_skipsTold]
  cases o with
  | none => exact ⟨fun hh => absurd rfl hh, fun _ => hQ⟩
  | some c =>
    have hc := ho c rfl
    refine ⟨fun _ => ?_, fun hh => absurd hh (nI_m1 (by omega))⟩
    have e1 : nI c / (16384 : Int32) = nI (c / 16384) := pk_div (d := 16384) (by omega) (by decide) (by decide)
    have e2 : nI c - nI c / (16384 : Int32) * (16384 : Int32) = nI (c % 16384) := pk_rem (d := 16384) (by omega) (by decide) (by decide)
    show (¬ nI a = 0 → Q (nI c - nI c / (16384 : Int32) * (16384 : Int32)) i j) ∧ (nI a = 0 → Q (nI c / (16384 : Int32)) i j)
    rw [e2, e1]
    rcases (show a = 0 ∨ a = 1 by omega) with rfl | rfl
    · exact ⟨fun hh => absurd (by decide) hh, fun _ => hQ⟩
    · exact ⟨fun _ => hQ, fun hh => absurd hh (by decide)⟩
end FewC
section FewM
variable {len : Nat → Nat} {r : jR} {i : jI} {j : jL} {ns kd st p w : Nat} {A B G P : Nat → Nat} {fr : Bool}
theorem sp_layTo {Q : Int32 → jI → jL → Prop} {skp : Bool} (hg : Gr r len) (tm : TM i ns A B G P fr) (hkd : kd < 5) (hst : st < 378) (hp : p < 7) (hQ : ∀ i' o, gw_ls (cw A B G P fr ns kd (lk skp kd) 10000 st p) o → (∀ c, o = some c → c ≤ 3780000) → qF i i' → Q (nI (cM o)) i' j) : J_X12_layCosts len r (fun i1 j1 => J_X12_costTo len r Q i1 j1 37 (nI p)) i j 37 (nI kd) (nI st) (bI skp) :=
  sp_lay hg tm hkd hst (fun i1 D M h1 h2 h3 hf => sp_costTo hg tm.tok tm.p16 hkd hp hst h1 h2 h3 (fun o ho _ hb => hQ i1 o ho hb hf))
theorem cM_far {o : Option Nat} (h : ∀ c, o = some c → c ≤ 3780000) : nI (cM o) = (268435456 : Int32) ↔ o = none := by
  cases o with
  | none => exact ⟨fun _ => rfl, fun _ => rfl⟩
  | some c =>
    have := h c rfl
    refine ⟨fun hh => ?_, fun hh => (by cases hh)⟩
    have : c = 268435456 := (nI_eq (a := c) (b := 268435456) (by omega) (by decide)).mp hh
    omega
theorem sp_skipsM {Q : Int32 → jI → jL → Prop} {a : Nat} (hg : Gr r len) (tm : TM i ns A B G P fr) (hkd : kd < 5) (hst : st < 378) (hp : p < 7) (hw : w < 5) (ha : a < 2) (e0 : i 42 w = nI kd) (e1 : i 43 w = nI st) (hQ : ∀ i' o, gw_ls (cw A B G P fr ns kd (decide (kd ≠ 3)) 10000 st p) o → wF i i' → Q (skt 10000 o a) i' j) : J_X12_skipsNow len r Q i j 37 (nI w) (nI p) (nI a) := by
  have hv : vp_in (nI w) 5 := vp_in_nI hw (by decide)
  rw [J_X12_skipsNow, nI_clamp (show w < 2 ^ 31 by omega)]
  refine ⟨42, hg.1 _ (by decide) _ (by decide) _ rfl, by rw [hg.2 _ (by decide)]; exact hv, 43, hg.1 _ (by decide) _ (by decide) _ rfl, by rw [hg.2 _ (by decide)]; exact hv, ?_⟩
  rw [e0, e1]
  refine sp_layTo (skp := true) hg tm hkd hst hp (fun i1 o ho hb hf => ?_)
  have ef := cM_far hb
  have hQ' := hQ i1 o ho hf.wf
  refine ⟨fun hne => ?_, fun heq => ?_⟩
  · cases o with
    | none => exact absurd rfl hne
    | some c =>
      have hc := hb c rfl
      have e1 : nI c / (10000 : Int32) = nI (c / 10000) := pk_div (d := 10000) (by omega) (by decide) (by decide)
      have e2 : nI c - nI c / (10000 : Int32) * (10000 : Int32) = nI (c % 10000) := pk_rem (d := 10000) (by omega) (by decide) (by decide)
      show (¬ nI a = 0 → Q (nI c - nI c / (10000 : Int32) * (10000 : Int32)) i1 j) ∧ (nI a = 0 → Q (nI c / (10000 : Int32)) i1 j)
      rw [e2, e1]
      rcases (show a = 0 ∨ a = 1 by omega) with rfl | rfl
      · exact ⟨fun hh => absurd (by decide) hh, fun _ => hQ'⟩
      · exact ⟨fun _ => hQ', fun hh => absurd hh (by decide)⟩
  · rw [ef.mp heq] at hQ'
    exact hQ'
theorem lp_firstM {Q : Int32 → jI → jL → Prop} {i0 : jI} {c : Nat} (hg : Gr r len) (tm : TM i0 ns A B G P fr) (hkd : kd < 5) (hst : st < 378) (hp : p < 7) (hw : w < 5) (hc : c ≤ 3780000) (hls : gw_ls (cw A B G P fr ns kd false 10000 st p) (some c)) (e0 : i0 42 w = nI kd) (e1 : i0 43 w = nI st) (hne : ¬ st % 7 = p) (hQ : ∀ i' o, fs_ls (fP A B G P fr ns kd st p c) ns o → qF i0 i' → Q (bo o) i' j) : ∀ (m x : Nat) (i : jI), x + m = ns → (∀ t, t < x → ¬ fP A B G P fr ns kd st p c t) → qF i0 i → J_X12_fewestNow_L52 len r Q (m + 1) i j 37 (nI w) (nI p) (nI c) (nI x) := by
  have hn := tm.2.1
  have h7 : st % 7 < 7 := Nat.mod_lt _ (by decide)
  intro m
  induction m with
  | zero =>
    intro x i hx hno hf
    have hx' : x = ns := by omega
    subst hx'
    rw [J_X12_fewestNow_L52]
    dsimp only
    rw [hf 37 0 (by decide) (by decide) (by decide) (by omega), tm.1]
    refine ⟨fun _ => ?_, fun hh => absurd (nI_le (Nat.le_refl _) (by omega)) hh⟩
    rw [J_X12_fewestNow_L149]
    exact hQ i none hno hf
  | succ m ih =>
    intro x i hx hno hf
    have hxn : x < ns := by omega
    have hv : vp_in (nI w) 5 := vp_in_nI hw (by decide)
    have ew : (nI w).toNatClampNeg = w := nI_clamp (by omega)
    have ex : (nI x).toNatClampNeg = x := nI_clamp (by omega)
    have tmi : TM i ns A B G P fr := tm.qf hf
    obtain ⟨-, cA, cB, -, cP, cG⟩ := tm.2.2.2 x hxn
    have hwx := mst_22 kd hkd (P x) (by omega)
    have next : ∀ i', qF i0 i' → ¬ fP A B G P fr ns kd st p c x → J_X12_fewestNow_L143 len r Q (J_X12_fewestNow_L52 len r Q (m + 1)) i' j 37 (nI w) (nI p) (nI c) (nI x) := by
      intro i' hf' hno'
      rw [J_X12_fewestNow_L143]
      intro v ev
      rw [nI_1] at ev
      subst ev
      refine ih (x + 1) i' (by omega) (fun t ht => ?_) hf'
      by_cases e : t = x
      · subst e; exact hno'
      · exact hno t (by omega)
    rw [J_X12_fewestNow_L52]
    dsimp only
    rw [tmi.1, ew, ex]
    refine ⟨fun hh => absurd hh (nI_ge (by omega) (by omega)), fun _ => ⟨43, hg.1 _ (by decide) _ (by decide) _ rfl, by rw [hg.2 _ (by decide)]; exact hv, ?_⟩⟩
    rw [hf 43 w (by decide) (by decide) (by decide) (by omega), e1]
    refine sp_placeIn hst ⟨fun hh => absurd ((nI_eq (by omega) (by omega)).mp hh) hne, fun _ => ⟨42, hg.1 _ (by decide) _ (by decide) _ rfl, by rw [hg.2 _ (by decide)]; exact hv, 43, hg.1 _ (by decide) _ (by decide) _ rfl, by rw [hg.2 _ (by decide)]; exact hv, ?_⟩⟩
    rw [hf 43 w (by decide) (by decide) (by decide) (by omega), e1, hf 42 w (by decide) (by decide) (by decide) (by omega), e0]
    refine sp_behM hg tmi hkd hst hxn ?_
    have hb := fun st2 hh => mbeh_lt (T := fun s => mturn kd (P s)) (fr := fr) (st2 := st2) hst cA cB cG hh
    have o1 := so_none hb
    cases hm : mbeh A B G (fun s => mturn kd (P s)) fr st x with
    | none =>
      refine ⟨fun _ => next i hf ?_, fun hh => absurd rfl hh⟩
      rintro ⟨y, c', h1, -⟩
      rw [hm] at h1
      cases h1
    | some y =>
      rw [hm] at o1
      have hy := hb y hm
      refine ⟨fun hh => (by cases o1.mp hh), fun _ => ⟨42, hg.1 _ (by decide) _ (by decide) _ rfl, by rw [hg.2 _ (by decide)]; exact hv, ?_⟩⟩
      rw [hf 42 w (by decide) (by decide) (by decide) (by omega), e0]
      refine sp_lay (skp := false) hg tmi hkd hy (fun i1 D M d1 d2 d3 hf1 => ⟨42, hg.1 _ (by decide) _ (by decide) _ rfl, by rw [hg.2 _ (by decide)]; exact hv, 40, hg.1 _ (by decide) _ (by decide) _ rfl, by rw [hg.2 _ (by decide)]; exact vp_in_nI (by simp only [LL]; omega) (by decide), ?_⟩)
      have hf01 := hf.tr hf1
      have tm1 : TM i1 ns A B G P fr := tm.qf hf01
      rw [hf01 42 w (by decide) (by decide) (by decide) (by omega), e0, (tm1.2.2.2 x hxn).1.2.2.1]
      refine sp_stepsBy hkd (by omega) (sp_costTo hg tm.tok tm.p16 hkd hp hy d1 d2 d3 (fun o ho _ hbo => ?_))
      rw [nI_add]
      have hcm : cM o ≤ 268435456 := by
        cases o with
        | none => exact Nat.le_refl _
        | some d => have := hbo d rfl; show d ≤ _; omega
      refine ⟨fun hne2 => next i1 hf01 ?_, fun heq2 => ?_⟩
      · rintro ⟨y', c', h1, h2, h3⟩
        rw [hm] at h1
        cases h1
        cases o with
        | none => exact ho c' h2
        | some d =>
          have a1 := ho.2 c' h2
          have a2 := hls.2 _ (cw_cons hxn hm ho.1)
          have a3 : mstep kd (P x) + d = c := by omega
          exact hne2 (by show nI (mstep kd (P x) + d) = nI c; rw [a3])
      · have e3 := (nI_eq (by omega) (by omega)).mp heq2
        cases o with
        | none =>
          have : mstep kd (P x) + 268435456 = c := e3
          omega
        | some d =>
          have e4 : mstep kd (P x) + d = c := e3
          exact hQ i1 (some x) ⟨hxn, ⟨y, d, hm, ho.1, by omega⟩, hno⟩ hf01
theorem sp_fewM {Q : Int32 → jI → jL → Prop} {a : Nat} (hg : Gr r len) (tm : TM i ns A B G P fr) (hkd : kd < 5) (hst : st < 378) (hp : p < 7) (hw : w < 5) (ha : a < 2) (e0 : i 42 w = nI kd) (e1 : i 43 w = nI st) (hQ : ∀ i' o o2, gw_ls (cw A B G P fr ns kd false 10000 st p) o → (a = 1 → fwt A B G P fr ns kd st p o o2) → wF i i' → Q (if a = 0 then bo o else bo o2) i' j) : J_X12_fewestNow len r Q i j 37 (nI w) (nI p) (nI a) := by
  have hv : vp_in (nI w) 5 := vp_in_nI hw (by decide)
  have h7 : st % 7 < 7 := Nat.mod_lt _ (by decide)
  rw [J_X12_fewestNow, nI_clamp (show w < 2 ^ 31 by omega)]
  refine ⟨42, hg.1 _ (by decide) _ (by decide) _ rfl, by rw [hg.2 _ (by decide)]; exact hv, 43, hg.1 _ (by decide) _ (by decide) _ rfl, by rw [hg.2 _ (by decide)]; exact hv, ?_⟩
  rw [e0, e1]
  refine sp_layTo (skp := false) hg tm hkd hst hp (fun i1 o ho hb hf => ?_)
  have ef := cM_far hb
  refine ⟨fun heq => ?_, fun hne => ?_⟩
  · have hn := ef.mp heq
    subst hn
    have hQ' := hQ i1 none none ho (fun _ => rfl) hf.wf
    rw [J_X12_fewestNow_L35]
    refine ⟨fun hh => absurd heq hh, fun _ => ?_⟩
    rw [ite_self] at hQ'
    exact hQ'
  · cases o with
    | none => exact absurd rfl hne
    | some c =>
      have hc := hb c rfl
      rcases (show a = 0 ∨ a = 1 by omega) with rfl | rfl
      · refine ⟨fun hh => absurd (by decide) hh, fun _ => ?_⟩
        have hQ' := hQ i1 (some c) none ho (fun h => (by cases h)) hf.wf
        rw [J_X12_fewestNow_L35]
        exact ⟨fun _ => hQ', fun hh => absurd hh hne⟩
      · refine ⟨fun _ => ?_, fun hh => absurd hh (by decide)⟩
        have tm1 : TM i1 ns A B G P fr := tm.qf hf
        have f0 : i1 42 w = nI kd := (hf 42 w (by decide) (by decide) (by decide) (by omega)).trans e0
        have f1 : i1 43 w = nI st := (hf 43 w (by decide) (by decide) (by decide) (by omega)).trans e1
        by_cases hsp : st % 7 = p
        · refine ⟨1, ?_⟩
          have hQ' := hQ i1 (some c) none ho (fun _ => by unfold fwt; simp only [if_pos hsp]) hf.wf
          rw [J_X12_fewestNow_L52]
          dsimp only
          refine ⟨fun _ => ?_, fun _ => ⟨43, hg.1 _ (by decide) _ (by decide) _ rfl, by rw [hg.2 _ (by decide)]; exact hv, ?_⟩⟩
          · rw [J_X12_fewestNow_L149]; exact hQ'
          · rw [nI_clamp (show w < 2 ^ 31 by omega), f1]
            refine sp_placeIn hst ⟨fun _ => ?_, fun hh => absurd (by rw [hsp]) hh⟩
            rw [J_X12_fewestNow_L149]; exact hQ'
        · refine ⟨ns + 1, lp_firstM hg tm1 hkd hst hp hw hc ho f0 f1 hsp (fun i2 o2 h2 hf2 => ?_) ns 0 i1 (by omega) (fun t ht => by omega) qF.rf⟩
          exact hQ i2 (some c) o2 ho (fun _ => by unfold fwt; simp only; rw [if_neg hsp]; exact h2) (hf.wf.tr hf2.wf)
end FewM
section OkWays
variable {len : Nat → Nat} {r : jR} {i : jI} {j : jL} {k : Nat} {y1 y2 y3 y4 : Int32}
theorem ok_13 (hg : Gr r len) (h : Rp k i) : J_X11_fewest len r (fun q i1 j1 => J_X12_fewest len r (fun q2 i2 j2 => q = q2 ∧ Rp (k + 5) i2) i1 j1 37 y1 y2 y3) i j 0 y1 y2 y3 := by
  have hR := h.up (k2 := k + 5) (by omega)
  obtain ⟨ns, ng, nt, nw, np, dn, pl, A, B, G, P, fr, h1, h2, h3, h4, h5, h6, h7, h8⟩ := h
  obtain ⟨w1, w2, w3, w4⟩ := h4
  rw [J_X11_fewest]
  rcases out_or y1 (n := nw) (by omega) with ho | ⟨w, hw, rfl⟩
  · refine wkC_no (by omega) w2 ho ⟨fun _ => ?_, fun hh => absurd rfl hh⟩
    rw [J_X11_fewest_L15, J_X12_fewest]
    refine wkM_no (by omega) w1 ho ⟨fun _ => ?_, fun hh => absurd rfl hh⟩
    rw [J_X12_fewest_L15]
    exact ⟨rfl, hR⟩
  · obtain ⟨kd, st, q1, q2, q3, q4, q5, q6, q7⟩ := w4 w hw
    have ew : (nI w).toNatClampNeg = w := nI_clamp (by omega)
    have hv : vp_in (nI w) 5 := vp_in_nI (by omega) (by decide)
    refine wkC_yes (by omega) w2 hw ⟨fun hh => absurd hh (by decide), fun _ => ?_⟩
    rcases out_or y2 (n := 7) (by decide) with ho | ⟨p, hp, rfl⟩
    · refine plC_no ho ⟨fun hh => absurd rfl hh, fun _ => ?_⟩
      rw [J_X11_fewest_L15, J_X12_fewest]
      refine wkM_yes (by omega) w1 hw ⟨fun hh => absurd hh (by decide), fun _ => plM_no ho ⟨fun hh => absurd rfl hh, fun _ => ?_⟩⟩
      rw [J_X12_fewest_L15]
      exact ⟨rfl, hR⟩
    · refine plC_yes hp ⟨fun _ => ?_, fun hh => absurd hh (by decide)⟩
      rcases out_or y3 (n := 2) (by decide) with ho | ⟨a, ha, rfl⟩
      · refine gC_no (m := 1) (by decide) ho ⟨fun hh => absurd rfl hh, fun _ => ?_⟩
        rw [J_X12_fewest]
        exact wkM_yes (by omega) w1 hw ⟨fun hh => absurd hh (by decide), fun _ => plM_yes hp ⟨fun _ => gM_noK (m := 1) ho (by decide) ⟨fun _ => ⟨rfl, hR⟩, fun hh => absurd rfl hh⟩, fun hh => absurd hh (by decide)⟩⟩
      · refine gC_yes (m := 1) (by decide) (by omega) ⟨fun _ => ⟨9, hg.1 _ (by decide) _ (by decide) _ rfl, by rw [hg.2 _ (by decide)]; exact hv, 32 + w, by rw [ew]; exact hg.1 9 (by decide) w (by omega) _ (RR9 w (by omega)), ?_⟩, fun hh => absurd hh (by decide)⟩
        refine sp_few hg h1.2.1 q1 q2 hp (by omega) q4 q6 (fun i1 o ho hb hf => ?_)
        have fin : ∀ i2 o2, wF i i2 → (a = 1 → fwt A B G P fr ns kd st p o o2) → ∀ j', J_X12_fewest len r (fun q2 i2 j2 => (if a = 0 then bo o else bo o2) = q2 ∧ Rp (k + 5) i2) i2 j' 37 (nI w) (nI p) (nI a) := by
          intro i2 o2 hf2 hfw j'
          have e1 : i2 37 8 = nI nw := (hf2 _ _ (by unfold kp; omega)).trans w1
          rw [J_X12_fewest]
          refine wkM_yes (by omega) e1 hw ⟨fun hh => absurd hh (by decide), fun _ => plM_yes hp ⟨fun _ => gM_yesK (m := 1) (by omega) (by decide) ⟨fun hh => absurd hh (by decide), fun _ => ?_⟩, fun hh => absurd hh (by decide)⟩⟩
          refine sp_fewM hg (h1.1.wf hf2) q1 q2 hp (by omega) ha ((hf2 _ _ (by unfold kp; omega)).trans q3) ((hf2 _ _ (by unfold kp; omega)).trans q5) (fun i3 o' o2' ho' hfw' hf3 => ⟨?_, hR.sm (hf2.tr hf3).sm⟩)
          have e2 := gw_ls_eq ho ho'
          subst e2
          rcases (show a = 0 ∨ a = 1 by omega) with rfl | rfl
          · rfl
          · rw [fwt_eq (hfw rfl) (hfw' rfl)]
        rcases (show a = 0 ∨ a = 1 by omega) with rfl | rfl
        · exact ⟨fun hh => absurd (by decide) hh, fun _ => fin i1 none hf (fun hh => (by cases hh)) j⟩
        · refine ⟨fun _ => ⟨9, hg.1 _ (by decide) _ (by decide) _ rfl, by rw [hg.2 _ (by decide)]; exact hv, 32 + w, by rw [ew]; exact hg.1 9 (by decide) w (by omega) _ (RR9 w (by omega)), ?_⟩, fun hh => absurd hh (by decide)⟩
          refine sp_first hg (h1.2.1.wf hf) q1 q2 hp (by omega) hb ((hf _ _ (by unfold kp; omega)).trans q4) ((hf _ _ (by unfold kp; omega)).trans q6) (fun i2 o2 hfw hf2 => fin i2 o2 (hf.tr hf2) (fun _ => hfw) j)
theorem ok_14 (hg : Gr r len) (h : Rp k i) : J_X11_skips len r (fun q i1 j1 => J_X12_skips len r (fun q2 i2 j2 => q = q2 ∧ Rp (k + 5) i2) i1 j1 37 y1 y2 y3) i j 0 y1 y2 y3 := by
  have hR := h.up (k2 := k + 5) (by omega)
  obtain ⟨ns, ng, nt, nw, np, dn, pl, A, B, G, P, fr, h1, h2, h3, h4, h5, h6, h7, h8⟩ := h
  obtain ⟨w1, w2, w3, w4⟩ := h4
  rw [J_X11_skips]
  rcases out_or y1 (n := nw) (by omega) with ho | ⟨w, hw, rfl⟩
  · refine wkC_no (by omega) w2 ho ⟨fun _ => ?_, fun hh => absurd rfl hh⟩
    rw [J_X11_skips_L15, J_X12_skips]
    refine wkM_no (by omega) w1 ho ⟨fun _ => ?_, fun hh => absurd rfl hh⟩
    rw [J_X12_skips_L15]
    exact ⟨rfl, hR⟩
  · obtain ⟨kd, st, q1, q2, q3, q4, q5, q6, q7⟩ := w4 w hw
    have ew : (nI w).toNatClampNeg = w := nI_clamp (by omega)
    have hv : vp_in (nI w) 5 := vp_in_nI (by omega) (by decide)
    refine wkC_yes (by omega) w2 hw ⟨fun hh => absurd hh (by decide), fun _ => ?_⟩
    rcases out_or y2 (n := 7) (by decide) with ho | ⟨p, hp, rfl⟩
    · refine plC_no ho ⟨fun hh => absurd rfl hh, fun _ => ?_⟩
      rw [J_X11_skips_L15, J_X12_skips]
      refine wkM_yes (by omega) w1 hw ⟨fun hh => absurd hh (by decide), fun _ => plM_no ho ⟨fun hh => absurd rfl hh, fun _ => ?_⟩⟩
      rw [J_X12_skips_L15]
      exact ⟨rfl, hR⟩
    · refine plC_yes hp ⟨fun _ => ?_, fun hh => absurd hh (by decide)⟩
      rcases out_or y3 (n := 2) (by decide) with ho | ⟨a, ha, rfl⟩
      · refine gC_no (m := 1) (by decide) ho ⟨fun hh => absurd rfl hh, fun _ => ?_⟩
        rw [J_X12_skips]
        exact wkM_yes (by omega) w1 hw ⟨fun hh => absurd hh (by decide), fun _ => plM_yes hp ⟨fun _ => gM_noK (m := 1) ho (by decide) ⟨fun _ => ⟨rfl, hR⟩, fun hh => absurd rfl hh⟩, fun hh => absurd hh (by decide)⟩⟩
      · refine gC_yes (m := 1) (by decide) (by omega) ⟨fun _ => ⟨9, hg.1 _ (by decide) _ (by decide) _ rfl, by rw [hg.2 _ (by decide)]; exact hv, 32 + w, by rw [ew]; exact hg.1 9 (by decide) w (by omega) _ (RR9 w (by omega)), ?_⟩, fun hh => absurd hh (by decide)⟩
        refine sp_fskips hg h1.2.1 q1 q2 hp (by omega) q4 q6 (fun i1 o ho hb hf => sp_skipsTold hb ha ?_)
        have e1 : i1 37 8 = nI nw := (hf _ _ (by unfold kp; omega)).trans w1
        rw [J_X12_skips]
        refine wkM_yes (by omega) e1 hw ⟨fun hh => absurd hh (by decide), fun _ => plM_yes hp ⟨fun _ => gM_yesK (m := 1) (by omega) (by decide) ⟨fun hh => absurd hh (by decide), fun _ => ?_⟩, fun hh => absurd hh (by decide)⟩⟩
        refine sp_skipsM hg (h1.1.wf hf) q1 q2 hp (by omega) ha ((hf _ _ (by unfold kp; omega)).trans q3) ((hf _ _ (by unfold kp; omega)).trans q5) (fun i2 o' ho' hf2 => ⟨skt_eq h1.1.tok h1.1.p16 q1 q2 ho ho' a, hR.sm (hf.tr hf2).sm⟩)
end OkWays
