/-! the fewest stones -/
def sls (p : Nat → Prop) (ns : Nat) (o : Option Nat) : Prop := match o with
  | none => ∀ x, x < 2 ^ ns → ¬ p x
  | some b => b < 2 ^ ns ∧ p b ∧ ∀ x, x < 2 ^ ns → p x → pop b < pop x ∨ (pop b = pop x ∧ b ≤ x)
theorem sls_eq {p : Nat → Prop} {ns : Nat} {o o' : Option Nat} (h : sls p ns o) (h' : sls p ns o') : o = o' := by
  cases o with
  | none =>
    cases o' with
    | none => rfl
    | some b => exact absurd h'.2.1 (h b h'.1)
  | some b =>
    cases o' with
    | none => exact absurd h.2.1 (h' b h.1)
    | some c =>
      have h1 := h.2.2 c h'.1 h'.2.1
      have h2 := h'.2.2 b h.1 h.2.1
      have : b = c := by omega
      rw [this]
def nf (p : Nat → Prop) (ns many x : Nat) : Prop := ∀ y, y < 2 ^ ns → (pop y < many ∨ (pop y = many ∧ y < x)) → ¬ p y
section NF
variable {p : Nat → Prop} {ns many x : Nat}
theorem nf_0 : nf p ns 0 0 := fun y _ h => by omega
theorem nf_step (h : nf p ns many x) (hx : pop x = many → ¬ p x) : nf p ns many (x + 1) := by
  intro y hy hh
  by_cases e : y = x
  · subst e
    rcases hh with hh | hh
    · exact h y hy (Or.inl hh)
    · exact hx hh.1
  · exact h y hy (by omega)
theorem nf_row (h : nf p ns many (2 ^ ns)) : nf p ns (many + 1) 0 := fun y hy hh => h y hy (by omega)
theorem nf_hit (h : nf p ns many x) (hx : x < 2 ^ ns) (hm : pop x = many) (hp : p x) : sls p ns (some x) := by
  refine ⟨hx, hp, fun y hy hpy => ?_⟩
  by_cases hh : pop y < many ∨ (pop y = many ∧ y < x)
  · exact absurd hpy (h y hy hh)
  · omega
theorem pop_ns (hn : ns ≤ 10) (hx : x < 2 ^ ns) : pop x ≤ ns := by
  unfold pop
  have e := fb_ct_split (fun s => x.testBit s) ns (10 - ns)
  rw [show ns + (10 - ns) = 10 by omega] at e
  have z : fb_ct (fun k => x.testBit (ns + k)) (10 - ns) = 0 := fb_ct_zero.mpr (fun k _ => Nat.testBit_lt_two_pow (Nat.lt_of_lt_of_le hx (Nat.pow_le_pow_right (by decide) (by omega))))
  have := fb_ct_le (fun s => x.testBit s) ns
  omega
theorem nf_none (hn : ns ≤ 10) (h : nf p ns (ns + 1) 0) : sls p ns none := fun y hy => h y hy (Or.inl (by have := pop_ns hn hy; omega))
theorem pop_and {a b : Nat} : pop (a &&& b) ≤ pop a := fb_ct_sub (fun k _ hh => by
  rw [Nat.testBit_and, Bool.and_eq_true] at hh
  exact hh.1)
/-- what is of no use may be left out -/
theorem sls_use {o : Option Nat} {uf : Nat} (hc : ∀ y, y < 2 ^ ns → p y → p (y &&& uf)) (h : sls (fun y => (∀ s, y.testBit s = true → uf.testBit s = true) ∧ p y) ns o) : sls p ns o := by
  have sub : ∀ y s, (y &&& uf).testBit s = true → uf.testBit s = true := fun y s hh => by
    rw [Nat.testBit_and, Bool.and_eq_true] at hh
    exact hh.2
  cases o with
  | none =>
    intro y hy hp
    exact h (y &&& uf) (Nat.lt_of_le_of_lt Nat.and_le_left hy) ⟨sub y, hc y hy hp⟩
  | some b =>
    refine ⟨h.1, h.2.1.2, fun y hy hp => ?_⟩
    have h1 := h.2.2 (y &&& uf) (Nat.lt_of_le_of_lt Nat.and_le_left hy) ⟨sub y, hc y hy hp⟩
    have h2 := pop_and (a := y) (b := uf)
    have h3 : y &&& uf ≤ y := Nat.and_le_left
    omega
end NF
def Pst (P : Nat → Nat) (x : Nat) : Nat → Nat := fun s => P s + (if x.testBit s = true then 1 else 0)
/-- whether stones x let one come to place p -/
def cst (A B G P : Nat → Nat) (fr : Bool) (ns kd st p x : Nat) : Prop := ∃ u, u < 378 ∧ re (rs A B G (fun s => 2 ^ mturn kd (Pst P x s)) fr true) (2 * ns) st u ∧ u % 7 = p
def ufF (P : Nat → Nat) (kd : Nat) : Nat → Bool := fun s => decide (mturn kd (P s) ≠ mturn kd (P s + 1))
theorem bs_tbn (f : Nat → Bool) {n s : Nat} (hs : s < n) : (bs f n).testBit s = f s := by rw [bs_tb]; simp [hs]
section CST
variable {A B G P : Nat → Nat} {fr : Bool} {ns kd st p x : Nat}
theorem cst_use (h : cst A B G P fr ns kd st p x) : cst A B G P fr ns kd st p (x &&& bs (ufF P kd) ns) := by
  obtain ⟨u, h1, h2, h3⟩ := h
  refine ⟨u, h1, re_congT (fun s hs => ?_) h2, h3⟩
  unfold Pst
  rw [Nat.testBit_and, bs_tbn _ hs]
  cases hx : x.testBit s with
  | false => rfl
  | true =>
    cases hu : ufF P kd s with
    | true => rfl
    | false =>
      have : mturn kd (P s) = mturn kd (P s + 1) := by simpa [ufF] using hu
      show mturn kd (P s + 1) = mturn kd (P s + 0)
      exact this.symm
theorem cst_loose (h : cst A B G P fr ns kd st p x) (hU : ∀ s, x.testBit s = true → (bs (ufF P kd) ns).testBit s = true) : ∃ u, u < 378 ∧ re (rs A B G (fun s => if (bs (ufF P kd) ns).testBit s = true then 3 else 2 ^ mturn kd (P s)) fr true) (2 * ns) st u ∧ u % 7 = p := by
  obtain ⟨u, h1, h2, h3⟩ := h
  refine ⟨u, h1, re_ind (P := fun u => re (rs A B G (fun s => if (bs (ufF P kd) ns).testBit s = true then 3 else 2 ^ mturn kd (P s)) fr true) (2 * ns) st u) re_nil (fun z a y _ hz ha he => re_step hz ha ?_) h2, h3⟩
  unfold rs at he ⊢
  split at he
  · rename_i hh
    have hb2 : (if (bs (ufF P kd) ns).testBit (a / 2) = true then 3 else 2 ^ mturn kd (P (a / 2))).testBit (a % 2) = true := by
      by_cases hu : (bs (ufF P kd) ns).testBit (a / 2) = true
      · rw [if_pos hu]
        have : ∀ t, t < 2 → (3 : Nat).testBit t = true := by decide
        exact this _ (Nat.mod_lt _ (by decide))
      · rw [if_neg hu]
        have hx : ¬ x.testBit (a / 2) = true := fun z => hu (hU _ z)
        have e : Pst P x (a / 2) = P (a / 2) := by unfold Pst; rw [if_neg hx, Nat.add_zero]
        have h2 := hh.2
        simp only [e] at h2
        exact h2
    rw [if_pos ⟨hh.1, hb2⟩]
    exact he
  · cases he
end CST
theorem x3 : ∀ t, t < 2 → nI (2 ^ t) ^^^ (3 : Int32) = nI (2 ^ (1 - t)) := by decide +kernel
theorem tn_flip {kd p : Nat} (h : mturn kd p ≠ mturn kd (p + 1)) : mturn kd (p + 1) = 1 - mturn kd p := by
  have := mtn_lt kd p
  have := mtn_lt kd (p + 1)
  omega
section StonesC
variable {len : Nat → Nat} {r : jR} {i : jI} {j : jL} {ns st kd p w : Nat} {A B G P : Nat → Nat} {fr : Bool}
theorem lp_turnAt {Q : jI → jL → Prop} {i0 : jI} {x : Nat} (hg : Gr r len) (hx : x < 1024) (hQ : ∀ i', (∀ z f, z ≠ 29 → i' z f = i0 z f) → (∀ s, s < 10 → i' 29 s = if x.testBit s = true then i0 29 s ^^^ 3 else i0 29 s) → Q i' j) : ∀ (m t : Nat) (i : jI), t + m = 10 → (∀ z f, z ≠ 29 → i z f = i0 z f) → (∀ s, s < t → i 29 s = if x.testBit s = true then i0 29 s ^^^ 3 else i0 29 s) → (∀ s, t ≤ s → i 29 s = i0 29 s) → J_X6_turnAt_L2 len r Q (m + 1) i j 27 (nI x) (nI t) := by
  intro m
  induction m with
  | zero =>
    intro t i ht h1 h2 h3
    have : t = 10 := by omega
    subst this
    rw [J_X6_turnAt_L2]
    exact ⟨fun _ => hQ i h1 h2, fun hh => absurd (by decide) hh⟩
  | succ m ih =>
    intro t i ht h1 h2 h3
    have fin : ∀ i', (∀ z f, z ≠ 29 → i' z f = i0 z f) → (∀ s, s < t + 1 → i' 29 s = if x.testBit s = true then i0 29 s ^^^ 3 else i0 29 s) → (∀ s, t + 1 ≤ s → i' 29 s = i0 29 s) → J_X6_turnAt_L26 len r Q (J_X6_turnAt_L2 len r Q (m + 1)) i' j 27 (nI x) (nI t) := by
      intro i' a1 a2 a3
      rw [J_X6_turnAt_L26]
      intro v ev
      rw [nI_1] at ev
      subst ev
      exact ih (t + 1) i' (by omega) a1 a2 a3
    rw [J_X6_turnAt_L2]
    refine ⟨fun hh => absurd hh (nI_ge (b := 10) (by omega) (by decide)), fun _ => ?_⟩
    rw [sz_bit x hx t (by omega)]
    by_cases hb : x.testBit t = true
    · rw [if_pos hb]
      refine ⟨fun hh => absurd hh (by decide), fun _ => ⟨29, hg.1 _ (by decide) _ (by decide) _ rfl, by rw [hg.2 _ (by decide)]; exact vp_in_nI (by simp only [LL]; omega) (by decide), by rw [hg.2 _ (by decide)]; exact vp_in_nI (by simp only [LL]; omega) (by decide), fun i1 e1 => ?_⟩⟩
      rw [nI_clamp (by omega)] at e1
      refine fin i1 (fun z f hz => by rw [e1, ju_ne hz]; exact h1 z f hz) (fun s hs => ?_) (fun s hs => ?_)
      · rw [e1, ju_eq]
        by_cases e : s = t
        · subst e; rw [pk_us, if_pos hb, h3 s (Nat.le_refl _)]
        · rw [pk_un e]; exact h2 s (by omega)
      · rw [e1, ju_eq, pk_un (by omega)]; exact h3 s (by omega)
    · rw [if_neg hb]
      refine ⟨fun _ => fin i h1 (fun s hs => ?_) (fun s hs => h3 s (by omega)), fun hh => absurd (by decide) hh⟩
      by_cases e : s = t
      · subst e; rw [if_neg hb]; exact h3 s (Nat.le_refl _)
      · exact h2 s (by omega)
theorem lp_loosen {Q : jI → jL → Prop} {i0 : jI} {x : Nat} (hg : Gr r len) (hx : x < 1024) (hQ : ∀ i', (∀ z f, z ≠ 29 → i' z f = i0 z f) → (∀ s, s < 10 → i' 29 s = if x.testBit s = true then 3 else i0 29 s) → Q i' j) : ∀ (m t : Nat) (i : jI), t + m = 10 → (∀ z f, z ≠ 29 → i z f = i0 z f) → (∀ s, s < t → i 29 s = if x.testBit s = true then 3 else i0 29 s) → (∀ s, t ≤ s → i 29 s = i0 29 s) → J_X6_loosen_L2 len r Q (m + 1) i j 27 (nI x) (nI t) := by
  intro m
  induction m with
  | zero =>
    intro t i ht h1 h2 h3
    have : t = 10 := by omega
    subst this
    rw [J_X6_loosen_L2]
    exact ⟨fun _ => hQ i h1 h2, fun hh => absurd (by decide) hh⟩
  | succ m ih =>
    intro t i ht h1 h2 h3
    have fin : ∀ i', (∀ z f, z ≠ 29 → i' z f = i0 z f) → (∀ s, s < t + 1 → i' 29 s = if x.testBit s = true then 3 else i0 29 s) → (∀ s, t + 1 ≤ s → i' 29 s = i0 29 s) → J_X6_loosen_L23 len r Q (J_X6_loosen_L2 len r Q (m + 1)) i' j 27 (nI x) (nI t) := by
      intro i' a1 a2 a3
      rw [J_X6_loosen_L23]
      intro v ev
      rw [nI_1] at ev
      subst ev
      exact ih (t + 1) i' (by omega) a1 a2 a3
    rw [J_X6_loosen_L2]
    refine ⟨fun hh => absurd hh (nI_ge (b := 10) (by omega) (by decide)), fun _ => ?_⟩
    rw [sz_bit x hx t (by omega)]
    by_cases hb : x.testBit t = true
    · rw [if_pos hb]
      refine ⟨fun hh => absurd hh (by decide), fun _ => ⟨29, hg.1 _ (by decide) _ (by decide) _ rfl, by rw [hg.2 _ (by decide)]; exact vp_in_nI (by simp only [LL]; omega) (by decide), fun i1 e1 => ?_⟩⟩
      rw [nI_clamp (by omega)] at e1
      refine fin i1 (fun z f hz => by rw [e1, ju_ne hz]; exact h1 z f hz) (fun s hs => ?_) (fun s hs => ?_)
      · rw [e1, ju_eq]
        by_cases e : s = t
        · subst e; rw [pk_us, if_pos hb]
        · rw [pk_un e]; exact h2 s (by omega)
      · rw [e1, ju_eq, pk_un (by omega)]; exact h3 s (by omega)
    · rw [if_neg hb]
      refine ⟨fun _ => fin i h1 (fun s hs => ?_) (fun s hs => h3 s (by omega)), fun hh => absurd (by decide) hh⟩
      by_cases e : s = t
      · subst e; rw [if_neg hb]; exact h3 s (Nat.le_refl _)
      · exact h2 s (by omega)
theorem p2lt : ∀ t, t < 2 → 2 ^ t < 4 := by decide
theorem sp_comesC {Q : Int32 → jI → jL → Prop} {x : Nat} (hg : Gr r len) (tc : TC i ns A B G P fr) (hga : ga i 17 18 ns (fun s => mstep kd (P s)) (fun s => mturn kd (P s))) (hst : st < 378) (hp : p < 7) (hw : w < 5) (e1 : i (32 + w) 1 = nI (enc st)) (hx : x < 2 ^ ns) (hU : ∀ s, x.testBit s = true → (bs (ufF P kd) ns).testBit s = true) (hQ0 : ¬ cst A B G P fr ns kd st p x → ∀ i' j', (∀ z f, z ≠ 29 → i' z f = i z f) → Q 0 i' j') (hQ1 : cst A B G P fr ns kd st p x → ∀ i' j', (∀ z f, z ≠ 29 → i' z f = i z f) → Q 1 i' j') : J_X11_comesByStones len r Q i j 0 (32 + w) (nI p) (nI x) := by
  have hn := tc.2.1
  have hx10 : x < 1024 := Nat.lt_of_lt_of_le hx (p1024 hn)
  rw [J_X11_comesByStones]
  refine ⟨27, hg.1 _ (by decide) _ (by decide) _ rfl, 16, hg.1 _ (by decide) _ (by decide) _ rfl, 3, hg.1 _ (by decide) _ (by decide) _ rfl, ?_⟩
  rw [tc.1]
  refine sp_rtake hg hn hga (fun s _ => mtn_lt kd (P s)) (fun i1 f1 t1 => ⟨27, hg.1 _ (by decide) _ (by decide) _ rfl, ?_⟩)
  rw [J_X6_turnAt]
  refine ⟨11, lp_turnAt (i0 := i1) hg hx10 (fun i2 f2 t2 => ⟨27, hg.1 _ (by decide) _ (by decide) _ rfl, 3, hg.1 _ (by decide) _ (by decide) _ rfl, ?_⟩) 10 0 i1 (by omega) (fun _ _ _ => rfl) (fun s hs => by omega) (fun _ _ => rfl)⟩
  have f12 : ∀ z f, z ≠ 29 → i2 z f = i z f := fun z f hz => (f2 z f hz).trans (f1 z f hz)
  rw [f12 (32 + w) 1 (by omega), e1]
  have tc2 : TC i2 ns A B G P fr := tc.frm (fun a f h1 h2 => f12 a f (by omega))
  refine sp_spread (tn := fun s => 2 ^ mturn kd (Pst P x s)) (thr := true) hg tc2 (fun s hs => ⟨?_, p2lt _ (mtn_lt _ _)⟩) hst (fun j3 hR hj => ⟨27, hg.1 _ (by decide) _ (by decide) _ rfl, ?_⟩)
  · rw [t2 s (by omega), t1 s hs]
    unfold Pst
    by_cases hb : x.testBit s = true
    · rw [if_pos hb, x3 _ (mtn_lt _ _)]
      have hu := hU s hb
      rw [bs_tbn _ hs] at hu
      have hu' : mturn kd (P s) ≠ mturn kd (P s + 1) := by simpa [ufF] using hu
      simp only [hb, if_true]
      rw [tn_flip hu']
    · rw [if_neg hb]
      simp [hb]
  · refine sp_hasPlace hg hR hp (fun h0 => ⟨Or.inl rfl, hQ0 h0 i2 j3 f12⟩) (fun h1 => ⟨Or.inr rfl, hQ1 h1 i2 j3 f12⟩)
abbrev sU2 (A B G P : Nat → Nat) (fr : Bool) (ns kd st p : Nat) : Nat → Prop := fun y => (∀ s, y.testBit s = true → (bs (ufF P kd) ns).testBit s = true) ∧ cst A B G P fr ns kd st p y
theorem lp_st97 {Q : Int32 → jI → jL → Prop} {Hd : jI → jL → Nat → Nat → Int32 → Int32 → Int32 → Prop} {i0 : jI} {many : Nat} (hg : Gr r len) (tc : TC i0 ns A B G P fr) (hga : ga i0 17 18 ns (fun s => mstep kd (P s)) (fun s => mturn kd (P s))) (hst : st < 378) (hp : p < 7) (hw : w < 5) (hm : many ≤ 10) (e1 : i0 (32 + w) 1 = nI (enc st)) (hH : ∀ i' j', (∀ z f, z ≠ 29 → i' z f = i0 z f) → nf (sU2 A B G P fr ns kd st p) ns (many + 1) 0 → Hd i' j' 0 (32 + w) (nI p) (nI (bs (ufF P kd) ns)) (nI (many + 1))) (hQ : ∀ i' j' o, (∀ z f, z ≠ 29 → i' z f = i0 z f) → sls (sU2 A B G P fr ns kd st p) ns o → Q (bo o) i' j') : ∀ (m x : Nat) (i : jI) (j : jL), x + m = 2 ^ ns → (∀ z f, z ≠ 29 → i z f = i0 z f) → nf (sU2 A B G P fr ns kd st p) ns many x → J_X11_stonesTo_L97 len r Q Hd (m + 1) i j 0 (32 + w) (nI p) (nI (bs (ufF P kd) ns)) (nI many) (nI x) := by
  have hn := tc.2.1
  have h1024 : 2 ^ ns ≤ 1024 := p1024 hn
  intro m
  induction m with
  | zero =>
    intro x i j hx hf hnf
    have hx' : x = 2 ^ ns := by omega
    subst hx'
    rw [J_X11_stonesTo_L97]
    refine ⟨3, hg.1 _ (by decide) _ (by decide) _ rfl, ?_⟩
    rw [hf 3 0 (by decide), tc.1, sh1 ns (by omega)]
    refine ⟨fun _ v ev => ?_, fun hh => absurd (nI_le (Nat.le_refl _) (by omega)) hh⟩
    rw [nI_1] at ev
    subst ev
    exact hH i j hf (nf_row hnf)
  | succ m ih =>
    intro x i j hx hf hnf
    have hx2 : x < 2 ^ ns := by omega
    have hx10 : x < 1024 := by omega
    have tci : TC i ns A B G P fr := tc.frm (fun a f h1 h2 => hf a f (by omega))
    have gai : ga i 17 18 ns (fun s => mstep kd (P s)) (fun s => mturn kd (P s)) := fun s hs => by
      rw [hf 17 s (by decide), hf 18 s (by decide)]
      exact hga s hs
    have next : ∀ i' j', (∀ z f, z ≠ 29 → i' z f = i0 z f) → (pop x = many → ¬ sU2 A B G P fr ns kd st p x) → J_X11_stonesTo_L144 len r Q Hd (J_X11_stonesTo_L97 len r Q Hd (m + 1)) i' j' 0 (32 + w) (nI p) (nI (bs (ufF P kd) ns)) (nI many) (nI x) := by
      intro i' j' hf' hno
      rw [J_X11_stonesTo_L144]
      intro v ev
      rw [nI_1] at ev
      subst ev
      exact ih (x + 1) i' j' (by omega) hf' (nf_step hnf hno)
    have hpop := pop_le x
    rw [J_X11_stonesTo_L97]
    refine ⟨3, hg.1 _ (by decide) _ (by decide) _ rfl, ?_⟩
    rw [tci.1, sh1 ns (by omega)]
    refine ⟨fun hh => absurd hh (nI_ge hx2 (by omega)), fun _ => sp_bitCount hx10 ⟨fun hne => next i j hf (fun z => absurd (by rw [z]) hne), fun heq => ?_⟩⟩
    have heq' : pop x = many := (nI_eq (by omega) (by omega)).mp heq
    have hsub := sub_iff (a := x) (b := bs (ufF P kd) ns) (by omega)
    refine ⟨fun hh => next i j hf (fun _ hu => hh (hsub.mpr hu.1)), fun hh => ?_⟩
    have hU := hsub.mp hh
    refine sp_comesC hg tci gai hst hp hw ((hf _ _ (by omega)).trans e1) hx2 hU (fun hno i1 j1 f1 => ⟨fun _ => next i1 j1 (fun z f hz => (f1 z f hz).trans (hf z f hz)) (fun _ hu => hno hu.2), fun hh => absurd rfl hh⟩) (fun hyes i1 j1 f1 => ⟨fun hh => absurd hh (by decide), fun _ => hQ i1 j1 (some x) (fun z f hz => (f1 z f hz).trans (hf z f hz)) (nf_hit hnf hx2 heq' ⟨hU, hyes⟩)⟩)
theorem lp_st82 {Q : Int32 → jI → jL → Prop} {i0 : jI} (hg : Gr r len) (tc : TC i0 ns A B G P fr) (hga : ga i0 17 18 ns (fun s => mstep kd (P s)) (fun s => mturn kd (P s))) (hst : st < 378) (hp : p < 7) (hw : w < 5) (e1 : i0 (32 + w) 1 = nI (enc st)) (hQ : ∀ i' j' o, (∀ z f, z ≠ 29 → i' z f = i0 z f) → sls (sU2 A B G P fr ns kd st p) ns o → Q (bo o) i' j') : ∀ (m many : Nat) (i : jI) (j : jL), many + m = ns + 1 → (∀ z f, z ≠ 29 → i z f = i0 z f) → nf (sU2 A B G P fr ns kd st p) ns many 0 → J_X11_stonesTo_L82 len r Q (m + 1) i j 0 (32 + w) (nI p) (nI (bs (ufF P kd) ns)) (nI many) := by
  have hn := tc.2.1
  intro m
  induction m with
  | zero =>
    intro many i j hm hf hnf
    have hm' : many = ns + 1 := by omega
    subst hm'
    rw [J_X11_stonesTo_L82]
    refine ⟨3, hg.1 _ (by decide) _ (by decide) _ rfl, ?_⟩
    rw [hf 3 0 (by decide), tc.1]
    exact ⟨fun _ => hQ i j none hf (nf_none hn hnf), fun hh => absurd (nI_lt (by omega) (by omega)) hh⟩
  | succ m ih =>
    intro many i j hm hf hnf
    rw [J_X11_stonesTo_L82]
    refine ⟨3, hg.1 _ (by decide) _ (by decide) _ rfl, ?_⟩
    rw [hf 3 0 (by decide), tc.1]
    refine ⟨fun hh => absurd hh (nI_nlt (by omega) (by omega)), fun _ => ⟨2 ^ ns + 1, ?_⟩⟩
    exact lp_st97 hg tc hga hst hp hw (by omega) e1 (fun i' j' f' n' => ih (many + 1) i' j' (by omega) f' n') hQ (2 ^ ns) 0 i j (by omega) hf hnf
theorem sp_stonesTo {Q : Int32 → jI → jL → Prop} (hg : Gr r len) (tc : TC i ns A B G P fr) (hP : ∀ s, s < ns → P s ≤ 9) (hkd : kd < 5) (hst : st < 378) (hp : p < 7) (hw : w < 5) (e0 : i (32 + w) 0 = nI kd) (e1 : i (32 + w) 1 = nI (enc st)) (hQ : ∀ i' j' o, wF i i' → sls (cst A B G P fr ns kd st p) ns o → Q (bo o) i' j') : J_X11_stonesTo len r Q i j 0 (32 + w) (nI p) := by
  have hn := tc.2.1
  have hub := bs1024 (ns := ns) (ufF P kd) hn
  have hQ' : ∀ i' j' o, wF i i' → sls (sU2 A B G P fr ns kd st p) ns o → Q (bo o) i' j' := fun i' j' o h1 h2 => hQ i' j' o h1 (sls_use (fun y _ hy => cst_use hy) h2)
  rw [J_X11_stonesTo, e0]
  refine ⟨16, hg.1 _ (by decide) _ (by decide) _ rfl, 3, hg.1 _ (by decide) _ (by decide) _ rfl, sp_gait hg (hg16 hg) tc hkd (fun i1 f1 ga1 => ?_)⟩
  have tc1 : TC i1 ns A B G P fr := tc.wf (gF.wf f1)
  rw [f1 (32 + w) 0 (by omega) (by omega), e0]
  refine sp_useful hg tc1 hkd (ufF P kd) (fun s _ => rfl) ⟨27, hg.1 _ (by decide) _ (by decide) _ rfl, 16, hg.1 _ (by decide) _ (by decide) _ rfl, 3, hg.1 _ (by decide) _ (by decide) _ rfl, ?_⟩
  rw [tc1.1]
  refine sp_rtake hg hn ga1 (fun s _ => mtn_lt kd (P s)) (fun i2 f2 t2 => ⟨27, hg.1 _ (by decide) _ (by decide) _ rfl, ?_⟩)
  rw [J_X6_loosen]
  refine ⟨11, lp_loosen (i0 := i2) hg hub (fun i3 f3 t3 => ⟨27, hg.1 _ (by decide) _ (by decide) _ rfl, 3, hg.1 _ (by decide) _ (by decide) _ rfl, ?_⟩) 10 0 i2 (by omega) (fun _ _ _ => rfl) (fun s hs => by omega) (fun _ _ => rfl)⟩
  have f13 : ∀ z f, z ≠ 29 → i3 z f = i1 z f := fun z f hz => (f3 z f hz).trans (f2 z f hz)
  have e31 : i3 (32 + w) 1 = nI (enc st) := (f13 _ _ (by omega)).trans ((f1 _ _ (by omega) (by omega)).trans e1)
  rw [e31]
  have tc3 : TC i3 ns A B G P fr := tc1.frm (fun a f h1 h2 => f13 a f (by omega))
  have ga3 : ga i3 17 18 ns (fun s => mstep kd (P s)) (fun s => mturn kd (P s)) := fun s hs => by
    rw [f13 17 s (by decide), f13 18 s (by decide)]
    exact ga1 s hs
  have hf3 : wF i i3 := (gF.wf f1).tr (tF.wf f13)
  refine sp_spread (tn := fun s => if (bs (ufF P kd) ns).testBit s = true then 3 else 2 ^ mturn kd (P s)) (thr := true) hg tc3 (fun s hs => ⟨?_, ?_⟩) hst (fun j3 hR hj => ⟨27, hg.1 _ (by decide) _ (by decide) _ rfl, ?_⟩)
  · rw [t3 s (by omega), t2 s hs]
    by_cases hb : (bs (ufF P kd) ns).testBit s = true
    · simp only [hb, if_true]; rfl
    · simp only [hb, if_false]; rfl
  · by_cases hb : (bs (ufF P kd) ns).testBit s = true
    · simp only [hb, if_true]; decide
    · simp only [hb]; exact p2lt _ (mtn_lt _ _)
  · refine sp_hasPlace hg hR hp (fun h0 => ⟨fun hh => absurd rfl hh, fun _ => hQ' i3 j3 none hf3 (fun y hy hu => h0 (cst_loose hu.2 hu.1))⟩) (fun h1 => ⟨fun _ => ⟨ns + 2, ?_⟩, fun hh => absurd hh (by decide)⟩)
    exact lp_st82 hg tc3 ga3 hst hp hw e31 (fun i' j' o f' h' => hQ' i' j' o (hf3.tr (tF.wf f')) h') (ns + 1) 0 i3 j3 (by omega) (fun _ _ _ => rfl) nf_0
end StonesC
section StonesM
variable {len : Nat → Nat} {r : jR} {i : jI} {j : jL} {ns st kd p w : Nat} {A B G P : Nat → Nat} {fr : Bool}
theorem lp_layStones {Q : jI → jL → Prop} {i0 : jI} {x : Nat} {more : Int32} (hg : Gr r len) (hns : ns ≤ 10) (h0 : i0 37 0 = nI ns) (hx : x < 1024) (hQ : ∀ i', (∀ z f, z ≠ 40 → i' z f = i0 z f) → (∀ s, s < ns → i' 40 s = i0 40 s + (if x.testBit s = true then more else 0)) → (∀ s, ns ≤ s → i' 40 s = i0 40 s) → Q i' j) : ∀ (m t : Nat) (i : jI), t + m = ns → (∀ z f, z ≠ 40 → i z f = i0 z f) → (∀ s, s < t → i 40 s = i0 40 s + (if x.testBit s = true then more else 0)) → (∀ s, t ≤ s → i 40 s = i0 40 s) → J_X12_layStones_L2 len r Q (m + 1) i j 37 (nI x) more (nI t) := by
  intro m
  induction m with
  | zero =>
    intro t i ht h1 h2 h3
    have : t = ns := by omega
    subst this
    rw [J_X12_layStones_L2]
    dsimp only
    rw [h1 37 0 (by decide), h0]
    exact ⟨fun _ => hQ i h1 h2 h3, fun hh => absurd (nI_le (Nat.le_refl _) (by omega)) hh⟩
  | succ m ih =>
    intro t i ht h1 h2 h3
    have et : (nI t).toNatClampNeg = t := nI_clamp (by omega)
    have hv : vp_in (nI t) 10 := vp_in_nI (by omega) (by decide)
    have fin : ∀ d : Int32, d = (if x.testBit t = true then more else 0) → J_X12_layStones_L30 len r Q (J_X12_layStones_L2 len r Q (m + 1)) i j 37 (nI x) more (nI t) 40 (nI t) (i 40 t) d := by
      intro d hd
      rw [J_X12_layStones_L30]
      refine ⟨by rw [hg.2 _ (by decide)]; exact hv, fun i1 e1 v ev => ?_⟩
      rw [et] at e1
      rw [nI_1] at ev
      subst ev
      refine ih (t + 1) i1 (by omega) (fun z f hz => by rw [e1, ju_ne hz]; exact h1 z f hz) (fun s hs => ?_) (fun s hs => ?_)
      · rw [e1, ju_eq]
        by_cases e : s = t
        · subst e; rw [pk_us, h3 s (Nat.le_refl _), hd]
        · rw [pk_un e]; exact h2 s (by omega)
      · rw [e1, ju_eq, pk_un (by omega)]; exact h3 s (by omega)
    rw [J_X12_layStones_L2]
    dsimp only
    rw [h1 37 0 (by decide), h0, et]
    refine ⟨fun hh => absurd hh (nI_ge (by omega) (by omega)), fun _ => ⟨40, hg.1 _ (by decide) _ (by decide) _ rfl, by rw [hg.2 _ (by decide)]; exact hv, ?_⟩⟩
    rw [J_X12_has, sz_bit x hx t (by omega)]
    by_cases hb : x.testBit t = true
    · rw [if_pos hb]
      exact ⟨fun hh => absurd (by decide) hh, fun _ => ⟨fun hh => absurd hh (by decide), fun _ => fin more (by rw [if_pos hb])⟩⟩
    · rw [if_neg hb]
      exact ⟨fun _ => ⟨fun _ => fin 0 (by rw [if_neg hb]), fun hh => absurd rfl hh⟩, fun hh => absurd hh (by decide)⟩
theorem sp_layStones {Q : jI → jL → Prop} {x : Nat} {more : Int32} (hg : Gr r len) (hns : ns ≤ 10) (h0 : i 37 0 = nI ns) (hx : x < 1024) (hQ : ∀ i', (∀ z f, z ≠ 40 → i' z f = i z f) → (∀ s, s < ns → i' 40 s = i 40 s + (if x.testBit s = true then more else 0)) → (∀ s, ns ≤ s → i' 40 s = i 40 s) → Q i' j) : J_X12_layStones len r Q i j 37 (nI x) more := by
  rw [J_X12_layStones]
  exact ⟨ns + 1, lp_layStones hg hns h0 hx hQ ns 0 i (by omega) (fun _ _ _ => rfl) (fun s hs => by omega) (fun _ _ => rfl)⟩
theorem pm1 (a : Nat) : nI (a + 1) + (-1 : Int32) = nI a := pk_m1 a
theorem sp_comesM {Q : Int32 → jI → jL → Prop} {x : Nat} (hg : Gr r len) (tm : TM i ns A B G P fr) (hP : ∀ s, s < ns → P s ≤ 9) (hkd : kd < 5) (hst : st < 378) (hp : p < 7) (hw : w < 5) (e0 : i 42 w = nI kd) (e1 : i 43 w = nI st) (hx : x < 2 ^ ns) (hQ0 : ¬ cst A B G P fr ns kd st p x → ∀ i', qF i i' → Q 0 i' j) (hQ1 : cst A B G P fr ns kd st p x → ∀ i', qF i i' → Q 1 i' j) : J_X12_comesBy len r Q i j 37 (nI w) (nI p) (nI x) := by
  have hn := tm.2.1
  have hx10 : x < 1024 := Nat.lt_of_lt_of_le hx (p1024 hn)
  have hv : vp_in (nI w) 5 := vp_in_nI hw (by decide)
  have ew : (nI w).toNatClampNeg = w := nI_clamp (by omega)
  rw [J_X12_comesBy]
  refine sp_layStones (ns := ns) hg hn tm.1 hx10 (fun i1 f1 s1 r1 => ⟨42, hg.1 _ (by decide) _ (by decide) _ rfl, by rw [hg.2 _ (by decide)]; exact hv, 43, hg.1 _ (by decide) _ (by decide) _ rfl, by rw [hg.2 _ (by decide)]; exact hv, ?_⟩)
  rw [ew, f1 42 w (by decide), f1 43 w (by decide), e0, e1]
  have tm1 : TM i1 ns A B G (Pst P x) fr := by
    obtain ⟨t1, t2, t3, t4⟩ := id tm
    refine ⟨(f1 _ _ (by decide)).trans t1, t2, (f1 _ _ (by decide)).trans t3, fun z hz => ?_⟩
    obtain ⟨⟨b1, b2, b3, b4⟩, b5, b6, b7, b8, b9⟩ := t4 z hz
    have h9 := hP z hz
    refine ⟨⟨(f1 _ _ (by decide)).trans b1, (f1 _ _ (by decide)).trans b2, ?_, (f1 _ _ (by decide)).trans b4⟩, b5, b6, b7, ?_, b9⟩
    · rw [s1 z hz, b3]
      unfold Pst
      by_cases hb : x.testBit z = true
      · rw [if_pos hb, if_pos hb, nI_1]
      · rw [if_neg hb, if_neg hb, Nat.add_zero, Int32.add_zero]
    · unfold Pst; split <;> omega
  refine sp_lay (skp := false) hg tm1 hkd hst (fun i2 D M h1 h2 h3 hf2 => ?_)
  refine sp_layStones (ns := ns) hg hn ((hf2 _ _ (by decide) (by decide) (by decide) (by omega)).trans ((f1 _ _ (by decide)).trans tm.1)) hx10 (fun i3 f3 s3 r3 => ?_)
  have hf3 : qF i i3 := by
    intro z f z1 z2 z3 z4
    by_cases e : z = 40
    · subst e
      rcases Nat.lt_or_ge f ns with hlt | hge
      · obtain ⟨⟨-, -, b3, -⟩, -⟩ := tm.2.2.2 f hlt
        obtain ⟨⟨-, -, c3, -⟩, -⟩ := tm1.2.2.2 f hlt
        rw [s3 f hlt, hf2 _ _ (by decide) (by decide) (by decide) (by omega), c3, b3]
        unfold Pst
        by_cases hb : x.testBit f = true
        · rw [if_pos hb, if_pos hb, pm1]
        · rw [if_neg hb, if_neg hb, Nat.add_zero, Int32.add_zero]
      · rw [r3 f hge, hf2 _ _ (by decide) (by decide) (by decide) (by omega), r1 f hge]
    · rw [f3 _ _ e, hf2 _ _ z1 z2 z3 z4, f1 _ _ e]
  refine sp_costTo (P := Pst P x) hg tm1.tok tm1.p16 hkd hp hst (fun y hy => (f3 _ _ (by decide)).trans (h1 y hy)) h2 h3 (fun o ho hle hb => ?_)
  have hre := cw_re (P := Pst P x) (fr := fr) (kd := kd) (p := p) tm1.tok hst
  refine pk_le 268435456 (cM o) (fun h => hQ0 ?_ i3 hf3) (fun h => hQ1 ?_ i3 hf3)
  · intro hc
    obtain ⟨c, hc⟩ := hre.mpr hc
    cases o with
    | none => exact ho c hc
    | some d =>
      have h4 := hb d rfl
      have h5 : 268435456 ≤ d := h
      omega
  · cases o with
    | none => exact absurd h (Nat.lt_irrefl _)
    | some d => exact hre.mp ⟨d, ho.1⟩
theorem lp_st13 {Q : Int32 → jI → jL → Prop} {Hd : jI → jL → Nat → Int32 → Int32 → Int32 → Prop} {i0 : jI} {many : Nat} (hg : Gr r len) (tm : TM i0 ns A B G P fr) (hP : ∀ s, s < ns → P s ≤ 9) (hkd : kd < 5) (hst : st < 378) (hp : p < 7) (hw : w < 5) (hm : many ≤ 10) (e0 : i0 42 w = nI kd) (e1 : i0 43 w = nI st) (hH : ∀ i', qF i0 i' → nf (cst A B G P fr ns kd st p) ns (many + 1) 0 → Hd i' j 37 (nI w) (nI p) (nI (many + 1))) (hQ : ∀ i' o, qF i0 i' → sls (cst A B G P fr ns kd st p) ns o → Q (bo o) i' j) : ∀ (m x : Nat) (i : jI), x + m = 2 ^ ns → qF i0 i → nf (cst A B G P fr ns kd st p) ns many x → J_X12_stonesOf_L13 len r Q Hd (m + 1) i j 37 (nI w) (nI p) (nI many) (nI x) := by
  have hn := tm.2.1
  have h1024 : 2 ^ ns ≤ 1024 := p1024 hn
  intro m
  induction m with
  | zero =>
    intro x i hx hf hnf
    have hx' : x = 2 ^ ns := by omega
    subst hx'
    rw [J_X12_stonesOf_L13]
    dsimp only
    rw [hf 37 0 (by decide) (by decide) (by decide) (by omega), tm.1, sh1 ns (by omega)]
    refine ⟨fun _ v ev => ?_, fun hh => absurd (nI_le (Nat.le_refl _) (by omega)) hh⟩
    rw [nI_1] at ev
    subst ev
    exact hH i hf (nf_row hnf)
  | succ m ih =>
    intro x i hx hf hnf
    have hx2 : x < 2 ^ ns := by omega
    have next : ∀ i', qF i0 i' → (pop x = many → ¬ cst A B G P fr ns kd st p x) → J_X12_stonesOf_L47 len r Q Hd (J_X12_stonesOf_L13 len r Q Hd (m + 1)) i' j 37 (nI w) (nI p) (nI many) (nI x) := by
      intro i' hf' hno
      rw [J_X12_stonesOf_L47]
      intro v ev
      rw [nI_1] at ev
      subst ev
      exact ih (x + 1) i' (by omega) hf' (nf_step hnf hno)
    have hpop := pop_le x
    rw [J_X12_stonesOf_L13]
    dsimp only
    rw [hf 37 0 (by decide) (by decide) (by decide) (by omega), tm.1, sh1 ns (by omega)]
    refine ⟨fun hh => absurd hh (nI_ge hx2 (by omega)), fun _ => sp_size (by omega) ⟨fun hne => next i hf (fun z => absurd (by rw [z]) hne), fun heq => ?_⟩⟩
    have heq' : pop x = many := (nI_eq (by omega) (by omega)).mp heq
    exact sp_comesM hg (tm.qf hf) hP hkd hst hp hw ((hf _ _ (by decide) (by decide) (by decide) (by omega)).trans e0) ((hf _ _ (by decide) (by decide) (by decide) (by omega)).trans e1) hx2 (fun hno i1 f1 => ⟨fun _ => next i1 (hf.tr f1) (fun _ => hno), fun hh => absurd rfl hh⟩) (fun hyes i1 f1 => ⟨fun hh => absurd hh (by decide), fun _ => hQ i1 (some x) (hf.tr f1) (nf_hit hnf hx2 heq' hyes)⟩)
theorem lp_st2 {Q : Int32 → jI → jL → Prop} {i0 : jI} (hg : Gr r len) (tm : TM i0 ns A B G P fr) (hP : ∀ s, s < ns → P s ≤ 9) (hkd : kd < 5) (hst : st < 378) (hp : p < 7) (hw : w < 5) (e0 : i0 42 w = nI kd) (e1 : i0 43 w = nI st) (hQ : ∀ i' o, qF i0 i' → sls (cst A B G P fr ns kd st p) ns o → Q (bo o) i' j) : ∀ (m many : Nat) (i : jI), many + m = ns + 1 → qF i0 i → nf (cst A B G P fr ns kd st p) ns many 0 → J_X12_stonesOf_L2 len r Q (m + 1) i j 37 (nI w) (nI p) (nI many) := by
  have hn := tm.2.1
  intro m
  induction m with
  | zero =>
    intro many i hm hf hnf
    have hm' : many = ns + 1 := by omega
    subst hm'
    rw [J_X12_stonesOf_L2]
    dsimp only
    rw [hf 37 0 (by decide) (by decide) (by decide) (by omega), tm.1]
    exact ⟨fun _ => hQ i none hf (nf_none hn hnf), fun hh => absurd (nI_lt (by omega) (by omega)) hh⟩
  | succ m ih =>
    intro many i hm hf hnf
    rw [J_X12_stonesOf_L2]
    dsimp only
    rw [hf 37 0 (by decide) (by decide) (by decide) (by omega), tm.1]
    refine ⟨fun hh => absurd hh (nI_nlt (by omega) (by omega)), fun _ => ⟨2 ^ ns + 1, ?_⟩⟩
    exact lp_st13 hg tm hP hkd hst hp hw (by omega) e0 e1 (fun i' f' n' => ih (many + 1) i' (by omega) f' n') hQ (2 ^ ns) 0 i (by omega) hf hnf
end StonesM
/-- one more of round and stones was done -/
theorem Rp.bump {i i2 : jI} {k dn : Nat} (h : Rp k i) (hd : i 0 8 = nI dn) (hdn : dn < 40) (hx : ∀ x f, kp x f → ¬ (x = 0 ∧ f = 8) → ¬ (x = 37 ∧ f = 14) → i2 x f = i x f) (e1 : i2 0 8 = nI (dn + 1)) (e2 : i2 37 14 = nI (dn + 1)) : Rp k i2 := by
  obtain ⟨ns, ng, nt, nw, np, dn', pl, A, B, G, P, fr, h1, h2, h3, h4, h5, h6, h7, h8⟩ := h
  have cl : ∀ x, (∀ f, kp x f) → x ≠ 0 → x ≠ 37 → i2 x = i x := fun x hk a b => funext (fun f => hx x f (hk f) (fun z => a z.1) (fun z => b z.1))
  refine ⟨ns, ng, nt, nw, np, dn + 1, pl, A, B, G, P, fr, h1.cong ⟨fun a ha => cl a (fun f => by unfold kp; omega) (by omega) (by omega), hx _ _ (by unfold kp; omega) (by omega) (by omega), hx _ _ (by unfold kp; omega) (by omega) (by omega), hx _ _ (by unfold kp; omega) (by omega) (by omega)⟩, h2.cong ⟨hx _ _ (by unfold kp; omega) (by omega) (by omega), hx _ _ (by unfold kp; omega) (by omega) (by omega)⟩, h3, h4.cong ⟨fun a ha => cl a (fun f => by unfold kp; omega) (by omega) (by omega), hx _ _ (by unfold kp; omega) (by omega) (by omega), hx _ _ (by unfold kp; omega) (by omega) (by omega)⟩, h5.cong ⟨cl _ (fun f => by unfold kp; omega) (by omega) (by omega), cl _ (fun f => by unfold kp; omega) (by omega) (by omega), hx _ _ (by unfold kp; omega) (by omega) (by omega), hx _ _ (by unfold kp; omega) (by omega) (by omega)⟩, ⟨e2, e1, by omega⟩, h7.cong ⟨cl _ (fun f => by unfold kp; omega) (by omega) (by omega), cl _ (fun f => by unfold kp; omega) (by omega) (by omega), hx _ _ (by unfold kp; omega) (by omega) (by omega), hx _ _ (by unfold kp; omega) (by omega) (by omega)⟩, h8.cong ⟨fun a ha => cl a (fun f => by unfold kp; omega) (by omega) (by omega), hx _ _ (by unfold kp; omega) (by omega) (by omega), hx _ _ (by unfold kp; omega) (by omega) (by omega), hx _ _ (by unfold kp; omega) (by omega) (by omega), hx _ _ (by unfold kp; omega) (by omega) (by omega)⟩⟩
section OkStones
variable {len : Nat → Nat} {r : jR} {i : jI} {j : jL} {k : Nat} {y1 y2 y3 y4 : Int32}
theorem ok_17 (hg : Gr r len) (h : Rp k i) : J_X11_stones len r (fun q i1 j1 => J_X12_stones len r (fun q2 i2 j2 => q = q2 ∧ Rp (k + 5) i2) i1 j1 37 y1 y2 y3) i j 0 y1 y2 y3 := by
  have hR := h.up (k2 := k + 5) (by omega)
  obtain ⟨ns, ng, nt, nw, np, dn, pl, A, B, G, P, fr, h1, h2, h3, h4, h5, h6, h7, h8⟩ := h
  obtain ⟨w1, w2, w3, w4⟩ := h4
  obtain ⟨d1, d2, d3⟩ := h6
  have hn : ns ≤ 10 := h1.1.2.1
  rw [J_X11_stones]
  rcases out_or y1 (n := nw) (by omega) with ho | ⟨w, hw, rfl⟩
  · refine wkC_no (by omega) w2 ho ⟨fun _ => ?_, fun hh => absurd rfl hh⟩
    rw [J_X11_stones_L15, J_X12_stones]
    refine wkM_no (by omega) w1 ho ⟨fun _ => ?_, fun hh => absurd rfl hh⟩
    rw [J_X12_stones_L15]
    exact ⟨rfl, hR⟩
  · obtain ⟨kd, st, q1, q2, q3, q4, q5, q6, q7⟩ := w4 w hw
    have ew : (nI w).toNatClampNeg = w := nI_clamp (by omega)
    have hv : vp_in (nI w) 5 := vp_in_nI (by omega) (by decide)
    refine wkC_yes (by omega) w2 hw ⟨fun hh => absurd hh (by decide), fun _ => ?_⟩
    rcases out_or y2 (n := 7) (by decide) with ho | ⟨p, hp, rfl⟩
    · refine plC_no ho ⟨fun hh => absurd rfl hh, fun _ => ?_⟩
      rw [J_X11_stones_L15, J_X12_stones]
      refine wkM_yes (by omega) w1 hw ⟨fun hh => absurd hh (by decide), fun _ => plM_no ho ⟨fun hh => absurd rfl hh, fun _ => ?_⟩⟩
      rw [J_X12_stones_L15]
      exact ⟨rfl, hR⟩
    · refine plC_yes hp ⟨fun _ => ?_, fun hh => absurd hh (by decide)⟩
      rcases out_or y3 (n := 2) (by decide) with ho | ⟨a, ha, rfl⟩
      · refine gC_no (m := 1) (by decide) ho ⟨fun hh => absurd rfl hh, fun _ => ?_⟩
        rw [J_X12_stones]
        exact wkM_yes (by omega) w1 hw ⟨fun hh => absurd hh (by decide), fun _ => plM_yes hp ⟨fun _ => gM_noK (m := 1) ho (by decide) ⟨fun hh => absurd rfl hh, fun _ => ⟨rfl, hR⟩⟩, fun hh => absurd hh (by decide)⟩⟩
      · refine gC_yes (m := 1) (by decide) (by omega) ⟨fun _ => ?_, fun hh => absurd hh (by decide)⟩
        rw [d2]
        refine pk_lt dn 40 (fun hlt => ?_) (fun hge => ?_)
        · intro i1 ei1
          rw [nI_1] at ei1
          have i1o : ∀ z f, z ≠ 0 → i1 z f = i z f := fun z f hz => by rw [ei1, ju_ne hz]
          have i1x : ∀ f, f ≠ 8 → i1 0 f = i 0 f := fun f hf => by rw [ei1, ju_eq, pk_un hf]
          have i18 : i1 0 8 = nI (dn + 1) := by rw [ei1, ju_eq, pk_us]
          refine ⟨9, hg.1 _ (by decide) _ (by decide) _ rfl, by rw [hg.2 _ (by decide)]; exact hv, 32 + w, by rw [ew]; exact hg.1 9 (by decide) w (by omega) _ (RR9 w (by omega)), ?_⟩
          refine sp_stonesTo hg (h1.2.1.frm (fun a f z1 z2 => i1o a f (by omega))) h1.2.2.1 q1 q2 hp (by omega) ((i1o _ _ (by omega)).trans q4) ((i1o _ _ (by omega)).trans q6) (fun i2 j2 o hf2 ho => sp_streetsTold (fun b hb => ?_) ha ?_)
          · rw [hb] at ho
            exact Nat.lt_of_lt_of_le ho.1 (p1024 hn)
          · have k2 : ∀ x f, kp x f → ¬ (x = 0 ∧ f = 8) → i2 x f = i x f := by
              intro x f hk hne
              rw [hf2 x f hk]
              by_cases e : x = 0
              · subst e; exact i1x f (fun z => hne ⟨rfl, z⟩)
              · exact i1o x f e
            rw [J_X12_stones]
            refine wkM_yes (by omega) ((k2 37 8 (by unfold kp; omega) (by omega)).trans w1) hw ⟨fun hh => absurd hh (by decide), fun _ => plM_yes hp ⟨fun _ => gM_yesK (m := 1) (by omega) (by decide) ⟨fun _ => ?_, fun hh => absurd hh (by decide)⟩, fun hh => absurd hh (by decide)⟩⟩
            rw [(k2 37 14 (by unfold kp; omega) (by omega)).trans d1]
            refine ⟨fun _ => ?_, fun hh => absurd ((nI_eq (b := 40) (by omega) (by decide)).mp hh) (by omega)⟩
            intro i3 ei3
            rw [nI_1] at ei3
            have i3o : ∀ z f, ¬ (z = 37 ∧ f = 14) → i3 z f = i2 z f := by
              intro z f hz
              rw [ei3]
              by_cases e : z = 37
              · subst e; rw [ju_eq, pk_un (fun z => hz ⟨rfl, z⟩)]
              · rw [ju_ne e]
            have i314 : i3 37 14 = nI (dn + 1) := by rw [ei3, ju_eq, pk_us]
            have tm3 : TM i3 ns A B G P fr := h1.1.frm (fun a f z => (i3o a f (by omega)).trans (k2 a f (by unfold kp; omega) (by omega)))
            rw [J_X12_stonesOf]
            refine ⟨ns + 2, lp_st2 hg tm3 h1.2.2.1 q1 q2 hp (by omega) ((i3o _ _ (by omega)).trans ((k2 _ _ (by unfold kp; omega) (by omega)).trans q3)) ((i3o _ _ (by omega)).trans ((k2 _ _ (by unfold kp; omega) (by omega)).trans q5)) (fun i4 o' hf4 ho' => ?_) (ns + 1) 0 i3 (by omega) qF.rf nf_0⟩
            have e := sls_eq ho ho'
            subst e
            have fin : Rp (k + 5) i4 := by
              refine hR.bump d2 hlt (fun x f hk n1 n2 => ?_) ?_ ?_
              · rw [hf4.wf x f hk, i3o x f n2, k2 x f hk n1]
              · rw [hf4.wf 0 8 (by unfold kp; omega), i3o _ _ (by omega), hf2 _ _ (by unfold kp; omega)]; exact i18
              · rw [hf4.wf 37 14 (by unfold kp; omega)]; exact i314
            cases o with
            | none =>
              refine ⟨fun _ => ?_, fun hh => absurd rfl hh⟩
              rw [J_X12_stones_L71]
              exact ⟨rfl, fin⟩
            | some b =>
              have hb : b < 1024 := Nat.lt_of_lt_of_le ho.1 (p1024 hn)
              refine ⟨fun hh => absurd hh (nI_m1 (by omega)), fun _ => ?_⟩
              rcases (show a = 0 ∨ a = 1 by omega) with rfl | rfl
              · exact ⟨fun _ => sp_size hb ⟨rfl, fin⟩, fun hh => absurd hh (by decide)⟩
              · refine ⟨fun hh => absurd (by decide) hh, fun _ => ?_⟩
                rw [J_X12_stones_L71]
                exact ⟨rfl, fin⟩
        · have e40 : dn = 40 := by omega
          rw [J_X12_stones]
          refine wkM_yes (by omega) w1 hw ⟨fun hh => absurd hh (by decide), fun _ => plM_yes hp ⟨fun _ => gM_yesK (m := 1) (by omega) (by decide) ⟨fun _ => ?_, fun hh => absurd hh (by decide)⟩, fun hh => absurd hh (by decide)⟩⟩
          rw [d1, e40]
          exact ⟨fun hh => absurd (by decide) hh, fun _ => ⟨rfl, hR⟩⟩
end OkStones
