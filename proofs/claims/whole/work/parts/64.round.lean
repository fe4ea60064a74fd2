/-! a round through all streets: L the streets that are left -/
def hm (es : Nat → Nat → Option Nat) (home ns : Nat) : Nat → Nat → (Nat → Bool) → Prop
  | 0, st, _ => st % 7 = home
  | d + 1, st, L => ∃ s, s < ns ∧ L s = true ∧ ∃ y, es st s = some y ∧ hm es home ns d y (sU L s false)
def xr (A B : Nat → Nat) (L : Nat → Bool) : Nat → Nat
  | 0 => 0
  | n + 1 => xr A B L n ^^^ (if L n = true then 0 else 2 ^ A n ^^^ 2 ^ B n)
theorem xr_cong {A B : Nat → Nat} {L L' : Nat → Bool} : ∀ n, (∀ s, s < n → L s = L' s) → xr A B L n = xr A B L' n := by
  intro n
  induction n with
  | zero => intro _; rfl
  | succ n ih => intro h; rw [xr, xr, ih (fun s hs => h s (by omega)), h n (by omega)]
theorem xr_upd {A B : Nat → Nat} {L : Nat → Bool} {s : Nat} (hL : L s = true) : ∀ n, s < n → xr A B (sU L s false) n = xr A B L n ^^^ (2 ^ A s ^^^ 2 ^ B s) := by
  intro n
  induction n with
  | zero => intro h; omega
  | succ n ih =>
    intro h
    rw [xr, xr]
    by_cases e : s = n
    · subst e
      rw [sU_eq, hL, xr_cong (L := sU L s false) (L' := L) s (fun t ht => sU_ne (by omega))]
      simp
    · rw [ih (by omega), sU_ne (fun z => e z.symm), Nat.xor_assoc, Nat.xor_comm (2 ^ A s ^^^ 2 ^ B s), ← Nat.xor_assoc]
theorem mgt_pl : ∀ st, st < 378 → ∀ p, p < 7 → ∀ f, f < 2 → ∀ g, g < 3 → (mmv st p f - mwt g * mmark st g + mwt g * (f + 1)) % 7 = p ∧ (mmv st p f - mwt g * mmark st g + mwt g * (f + 1)) / 7 % 2 = f := by decide +kernel
def mgk (st p f g h : Nat) : Bool := decide (h = g) || decide (mmark (mmv st p f - mwt g * mmark st g + mwt g * (f + 1)) h = mmark st h)
theorem mgt_mk0 : ∀ st, st < 378 → ∀ p, p < 7 → ∀ f, f < 2 → ∀ g, g < 3 → (mgk st p f g 0 && mgk st p f g 1 && mgk st p f g 2) = true := by decide +kernel
theorem mgt_mk (st : Nat) (hst : st < 378) (p : Nat) (hp : p < 7) (f : Nat) (hf : f < 2) (g : Nat) (hg : g < 3) (h : Nat) (hh : h < 3) (hn : h ≠ g) : mmark (mmv st p f - mwt g * mmark st g + mwt g * (f + 1)) h = mmark st h := by
  have k := mgt_mk0 st hst p hp f hf g hg
  rw [Bool.and_eq_true, Bool.and_eq_true] at k
  have one : ∀ h, mgk st p f g h = true → h ≠ g → mmark (mmv st p f - mwt g * mmark st g + mwt g * (f + 1)) h = mmark st h := by
    intro h k hn
    unfold mgk at k
    rw [Bool.or_eq_true, decide_eq_true_iff, decide_eq_true_iff] at k
    exact k.resolve_left hn
  rcases (show h = 0 ∨ h = 1 ∨ h = 2 by omega) with rfl | rfl | rfl
  · exact one 0 k.1.1 hn
  · exact one 1 k.1.2 hn
  · exact one 2 k.2 hn
section Rnd
variable {A B G T : Nat → Nat} {fr : Bool} {ns s st y home : Nat}
theorem mbeh_pl (hst : st < 378) (hA : A s < 7) (hB : B s < 7) (hG : G s ≤ 3) (h : mbeh A B G T fr st s = some y) : ((A s = st % 7 ∧ y % 7 = B s) ∨ (B s = st % 7 ∧ y % 7 = A s)) ∧ y / 7 % 2 = (st / 7 + T s) % 2 ∧ ∀ g, g < 3 → (G s = 0 ∨ g ≠ G s - 1) → mmark y g = mmark st g := by
  have hff : (st / 7 + T s) % 2 < 2 := Nat.mod_lt _ (by decide)
  unfold mbeh at h
  split at h
  · rename_i ha
    split at h
    · cases h
      obtain ⟨e1, e2⟩ := mmv_pl st hst _ hB _ hff
      exact ⟨Or.inl ⟨ha, e1⟩, e2, fun g hg _ => mmv_mk st hst _ hB _ hff g hg⟩
    · rename_i h0
      cases h
      obtain ⟨e1, e2⟩ := mgt_pl st hst _ hB _ hff (G s - 1) (by omega)
      exact ⟨Or.inl ⟨ha, e1⟩, e2, fun g hg hgg => mgt_mk st hst _ hB _ hff (G s - 1) (by omega) g hg (hgg.resolve_left h0)⟩
  · split at h
    · rename_i ha hb
      obtain ⟨e1, e2⟩ := mmv_pl st hst _ hA _ hff
      split at h
      · cases h
        exact ⟨Or.inr ⟨hb, e1⟩, e2, fun g hg _ => mmv_mk st hst _ hA _ hff g hg⟩
      · split at h
        · cases h
          exact ⟨Or.inr ⟨hb, e1⟩, e2, fun g hg _ => mmv_mk st hst _ hA _ hff g hg⟩
        · cases h
    · cases h
theorem mbeh_some {st2 : Nat} (h1 : st % 7 = st2 % 7) (h2 : st / 7 % 2 = st2 / 7 % 2) (h3 : G s ≠ 0 → mmark st (G s - 1) = mmark st2 (G s - 1)) (h : mbeh A B G T fr st s = some y) : ∃ y2, mbeh A B G T fr st2 s = some y2 := by
  have e7 : (st2 / 7 + T s) % 2 = (st / 7 + T s) % 2 := by omega
  unfold mbeh at h ⊢
  rw [← h1, e7]
  split at h
  · rename_i ha
    rw [if_pos ha]
    split at h
    · rename_i h0; rw [if_pos h0]; exact ⟨_, rfl⟩
    · rename_i h0; rw [if_neg h0]; exact ⟨_, rfl⟩
  · rename_i ha
    rw [if_neg ha]
    split at h
    · rename_i hb
      rw [if_pos hb]
      split at h
      · rename_i h0; rw [if_pos h0]; exact ⟨_, rfl⟩
      · rename_i h0
        rw [if_neg h0, ← h3 h0]
        split at h
        · rename_i hc; rw [if_pos hc]; exact ⟨_, rfl⟩
        · cases h
    · cases h
/-- what is told of a stand by the streets that are left -/
def cons (A B G T : Nat → Nat) (ns st0 : Nat) (L : Nat → Bool) (st : Nat) : Prop := st < 378 ∧ 2 ^ (st % 7) = 2 ^ (st0 % 7) ^^^ xr A B L ns ∧ st / 7 % 2 = (st0 / 7 % 2 + fb_sm (fun s => if L s = true then 0 else T s) ns) % 2 ∧ ∀ s, s < ns → L s = true → G s ≠ 0 → mmark st (G s - 1) = mmark st0 (G s - 1)
theorem p2inj : ∀ a, a < 7 → ∀ b, b < 7 → 2 ^ a = 2 ^ b → a = b := by decide
theorem cons_step {st0 : Nat} {L : Nat → Bool} (tok : Tok ns A B G) (hin : ∀ s t, s < ns → t < ns → G s = G t → G s ≠ 0 → s = t) (h : cons A B G T ns st0 L st) (hs : s < ns) (hL : L s = true) (hb : mbeh A B G T fr st s = some y) : cons A B G T ns st0 (sU L s false) y := by
  obtain ⟨h1, h2, h3, h4⟩ := h
  obtain ⟨tA, tB, tAB, tG⟩ := tok.2 s hs
  obtain ⟨b1, b2, b3⟩ := mbeh_pl h1 tA tB tG hb
  refine ⟨mbeh_lt h1 tA tB tG hb, ?_, ?_, fun t ht hLt hGt => ?_⟩
  · rw [xr_upd hL ns hs, ← Nat.xor_assoc, ← h2]
    rcases b1 with ⟨e1, e2⟩ | ⟨e1, e2⟩
    · rw [e2, e1, ← Nat.xor_assoc, Nat.xor_self, Nat.zero_xor]
    · rw [e2, e1, Nat.xor_comm (2 ^ A s), ← Nat.xor_assoc, Nat.xor_self, Nat.zero_xor]
  · have e := fb_sm_upd (fun s => if L s = true then 0 else T s) (T s) hs
    rw [if_pos hL] at e
    have e2 : fb_sm (fun k => if sU L s false k = true then 0 else T k) ns = fb_sm (fun k => if k = s then T s else (if L k = true then 0 else T k)) ns := fb_sm_cong (fun k _ => by
      by_cases ek : k = s
      · subst ek; simp [sU_eq]
      · simp [sU_ne ek, ek])
    rw [e2]
    omega
  · by_cases e : t = s
    · subst e; rw [sU_eq] at hLt; cases hLt
    · rw [sU_ne e] at hLt
      have tGt := (tok.2 t ht).2.2.2
      rw [b3 (G t - 1) (by omega) ?_]
      · exact h4 t ht hLt hGt
      · by_cases h0 : G s = 0
        · exact Or.inl h0
        · right
          intro z
          exact e (hin t s ht hs (by omega) hGt)
theorem hm_cons {st0 : Nat} (tok : Tok ns A B G) (hin : ∀ s t, s < ns → t < ns → G s = G t → G s ≠ 0 → s = t) : ∀ (d : Nat) (L : Nat → Bool) (st st2 : Nat), cons A B G T ns st0 L st → cons A B G T ns st0 L st2 → hm (mbeh A B G T fr) home ns d st L → hm (mbeh A B G T fr) home ns d st2 L := by
  have same : ∀ (L : Nat → Bool) (st st2 : Nat), cons A B G T ns st0 L st → cons A B G T ns st0 L st2 → st % 7 = st2 % 7 ∧ st / 7 % 2 = st2 / 7 % 2 := by
    intro L st st2 h1 h2
    refine ⟨p2inj _ (Nat.mod_lt _ (by decide)) _ (Nat.mod_lt _ (by decide)) (h1.2.1.trans h2.2.1.symm), h1.2.2.1.trans h2.2.2.1.symm⟩
  intro d
  induction d with
  | zero =>
    intro L st st2 h1 h2 h
    have e := (same L st st2 h1 h2).1
    unfold hm at h ⊢
    rw [← e]
    exact h
  | succ d ih =>
    intro L st st2 h1 h2 h
    obtain ⟨s, hs, hL, y, hy, hh⟩ := h
    obtain ⟨e1, e2⟩ := same L st st2 h1 h2
    obtain ⟨y2, hy2⟩ := mbeh_some (st2 := st2) e1 e2 (fun h0 => (h1.2.2.2 s hs hL h0).trans (h2.2.2.2 s hs hL h0).symm) hy
    exact ⟨s, hs, hL, y2, hy2, ih _ y y2 (cons_step tok hin h1 hs hL hy) (cons_step tok hin h2 hs hL hy2) hh⟩
theorem hm_cong {es : Nat → Nat → Option Nat} : ∀ (d : Nat) (L L' : Nat → Bool) (st : Nat), (∀ s, s < ns → L s = L' s) → hm es home ns d st L → hm es home ns d st L' := by
  intro d
  induction d with
  | zero => intro L L' st _ h; exact h
  | succ d ih =>
    intro L L' st hl h
    obtain ⟨s, hs, hL, y, hy, hh⟩ := h
    refine ⟨s, hs, (hl s hs) ▸ hL, y, hy, ih _ _ y (fun t ht => ?_) hh⟩
    by_cases e : t = s
    · subst e; rw [sU_eq, sU_eq]
    · rw [sU_ne e, sU_ne e]; exact hl t ht
theorem cons_cong {st0 : Nat} {L L' : Nat → Bool} (hl : ∀ s, s < ns → L s = L' s) (h : cons A B G T ns st0 L st) : cons A B G T ns st0 L' st := by
  obtain ⟨h1, h2, h3, h4⟩ := h
  refine ⟨h1, ?_, ?_, fun s hs hL => h4 s hs ((hl s hs).trans hL)⟩
  · rw [h2, xr_cong ns hl]
  · rw [h3, fb_sm_cong (fun s hs => by show (if L s = true then 0 else T s) = (if L' s = true then 0 else T s); rw [hl s hs])]
theorem ct_del {L : Nat → Bool} (hs : s < ns) (hL : L s = true) : fb_ct (sU L s false) ns + 1 = fb_ct L ns := gm_pop hs hL
/-- where there is a round, all places have even many streets -/
theorem hm_even {st0 : Nat} (tok : Tok ns A B G) (hin : ∀ s t, s < ns → t < ns → G s = G t → G s ≠ 0 → s = t) : ∀ (d : Nat) (L : Nat → Bool) (st : Nat), fb_ct L ns = d → cons A B G T ns st0 L st → hm (mbeh A B G T fr) (st0 % 7) ns d st L → xr A B (fun _ => false) ns = 0 := by
  intro d
  induction d with
  | zero =>
    intro L st hc h hh
    have hz := fb_ct_zero.mp hc
    have e := (cons_cong (L' := fun _ => false) hz h).2.1
    unfold hm at hh
    rw [hh] at e
    have e2 : 2 ^ (st0 % 7) ^^^ 2 ^ (st0 % 7) = 2 ^ (st0 % 7) ^^^ (2 ^ (st0 % 7) ^^^ xr A B (fun _ => false) ns) := by rw [← e]
    rw [Nat.xor_self, ← Nat.xor_assoc, Nat.xor_self, Nat.zero_xor] at e2
    exact e2.symm
  | succ d ih =>
    intro L st hc h hh
    obtain ⟨s, hs, hL, y, hy, hh⟩ := hh
    exact ih _ y (by have := ct_del hs hL; omega) (cons_step tok hin h hs hL hy) hh
theorem cons_0 {st0 : Nat} (h : st0 < 378) : cons A B G T ns st0 (fun _ => true) st0 := by
  have e1 : ∀ n, xr A B (fun _ => true) n = 0 := by
    intro n
    induction n with
    | zero => rfl
    | succ n ih => rw [xr, ih]; simp
  have e2 : ∀ n, fb_sm (fun s => if (fun _ : Nat => true) s = true then 0 else T s) n = 0 := by
    intro n
    induction n with
    | zero => rfl
    | succ n ih => rw [fb_sm_succ, ih]; simp
  exact ⟨h, by rw [e1, Nat.xor_zero], by rw [e2]; omega, fun _ _ _ _ => rfl⟩
end Rnd
/-! sets of streets as numbers -/
section BS
variable {L : Nat → Bool} {ns s : Nat}
theorem bs_ext {x : Nat} (f : Nat → Bool) (h : ∀ t, x.testBit t = (decide (t < ns) && f t)) : x = bs f ns := Nat.eq_of_testBit_eq (fun t => by rw [h t, bs_tb])
theorem bs_or (hs : s < ns) : bs L ns ||| 2 ^ s = bs (sU L s true) ns := by
  apply bs_ext
  intro t
  rw [fb_bit_set, bs_tb]
  by_cases e : t = s
  · subst e; simp [sU_eq, hs]
  · simp [sU_ne e, e]
theorem bs_xor (hs : s < ns) (hL : L s = true) : bs L ns ^^^ 2 ^ s = bs (sU L s false) ns := by
  apply bs_ext
  intro t
  rw [fb_bit_flip, bs_tb]
  by_cases e : t = s
  · subst e; simp [sU_eq, hs, hL]
  · simp [sU_ne e, e]
theorem bs_clr (hn : ns ≤ 10) (hs : s < ns) : nI (bs L ns) &&& (nI (2 ^ s) ^^^ (-1 : Int32)) = nI (bs (sU L s false) ns) := by
  rw [show (-1 : Int32) = nI (2 ^ 32 - 1) from by decide, fb_xorI, fa_and]
  congr 1
  apply bs_ext
  intro t
  rw [Nat.testBit_and, bs_tb, Nat.testBit_xor, Nat.testBit_two_pow_sub_one, Nat.testBit_two_pow]
  by_cases e : t = s
  · subst e
    have : t < 32 := by omega
    simp [sU_eq, hs, this]
  · have e2 : ¬ s = t := fun z => e z.symm
    rw [sU_ne e]
    by_cases ht : t < ns
    · have : t < 32 := by omega
      simp [ht, e2, this]
    · simp [ht]
theorem bs_inj {L L' : Nat → Bool} (h : bs L ns = bs L' ns) : ∀ s, s < ns → L s = L' s := fun s hs => by rw [← bs_tbn L hs, ← bs_tbn L' hs, h]
theorem bs_zero : bs L ns = 0 ↔ fb_ct L ns = 0 := by
  rw [fb_ct_zero]
  constructor
  · intro h s hs
    rw [← bs_tbn L hs, h, Nat.zero_testBit]
  · intro h
    exact (bs_ext (x := 0) L (fun t => by
      rw [Nat.zero_testBit]
      by_cases ht : t < ns
      · simp [h t ht]
      · simp [ht])).symm
theorem bs_all : bs (fun _ => true) ns = 2 ^ ns - 1 := (bs_ext _ (fun t => by rw [Nat.testBit_two_pow_sub_one]; simp)).symm
end BS
section Home
variable {len : Nat → Nat} {r : jR} {j : jL} {ns st0 home : Nat} {A B G P T w : Nat → Nat} {fr : Bool}
/-- what was tried has failed -/
def mI (A B G T : Nat → Nat) (fr : Bool) (ns st0 home d : Nat) (i : jI) : Prop := ∀ L : Nat → Bool, fb_ct L ns ≤ d → i 31 (bs L ns) ≠ 0 → ∀ st, cons A B G T ns st0 L st → ¬ hm (mbeh A B G T fr) home ns (fb_ct L ns) st L
def kF (ns d : Nat) (i i' : jI) : Prop := (∀ x f, x ≠ 31 → i' x f = i x f) ∧ ∀ L : Nat → Bool, d < fb_ct L ns → i' 31 (bs L ns) = i 31 (bs L ns)
theorem kF.rf {d : Nat} {i : jI} : kF ns d i i := ⟨fun _ _ _ => rfl, fun _ _ => rfl⟩
theorem kF.tr {d : Nat} {i i1 i2 : jI} (h1 : kF ns d i i1) (h2 : kF ns d i1 i2) : kF ns d i i2 := ⟨fun x f hx => (h2.1 x f hx).trans (h1.1 x f hx), fun L hL => (h2.2 L hL).trans (h1.2 L hL)⟩
theorem kF.up {d d2 : Nat} {i i1 : jI} (h : kF ns d i i1) (hd : d ≤ d2) : kF ns d2 i i1 := ⟨h.1, fun L hL => h.2 L (by omega)⟩
theorem lp_home (hg : Gr r len) (hhome : home < 7) (hin : ∀ s t, s < ns → t < ns → G s = G t → G s ≠ 0 → s = t) (hT : ∀ s, s < ns → T s < 2) : ∀ (d : Nat) (D : Nat) (Q : Int32 → jI → jL → Prop) (i : jI) (L : Nat → Bool) (st : Nat), d < D → TC i ns A B G P fr → ga i 17 18 ns w T → fb_ct L ns = d → cons A B G T ns st0 L st → mI A B G T fr ns st0 home d i → (hm (mbeh A B G T fr) home ns d st L → ∀ i', kF ns d i i' → Q 1 i' j) → (¬ hm (mbeh A B G T fr) home ns d st L → ∀ i', kF ns d i i' → mI A B G T fr ns st0 home d i' → Q 0 i' j) → J_X1_leadsHome len r D Q i j 30 3 16 (nI (enc st)) (nI (bs L ns)) (nI home) := by
  intro d
  induction d with
  | zero =>
    intro D Q i L st hD tc hga hc hcon hmI hQ1 hQ0
    obtain ⟨D, rfl⟩ : ∃ D', D = D' + 1 := ⟨D - 1, by omega⟩
    show J_X1_leadsHome_B len r (J_X1_leadsHome len r D) Q i j 30 3 16 (nI (enc st)) (nI (bs L ns)) (nI home)
    rw [J_X1_leadsHome_B, bs_zero.mpr hc]
    have h7 : st % 7 < 7 := Nat.mod_lt _ (by decide)
    refine ⟨fun hh => absurd (by decide) hh, fun _ => sp_placeOf hcon.1 ⟨fun hne => hQ0 (fun hh => hne ?_) i kF.rf hmI, fun heq => hQ1 ((nI_eq (by omega) (by omega)).mp heq) i kF.rf⟩⟩
    unfold hm at hh
    rw [hh]
  | succ d ih =>
    intro D Q i L st hD tc hga hc hcon hmI hQ1 hQ0
    obtain ⟨D, rfl⟩ : ∃ D', D = D' + 1 := ⟨D - 1, by omega⟩
    have hn := tc.2.1
    have tok := tc.tok
    have hbl := bs1024 (ns := ns) L hn
    have hb0 : bs L ns ≠ 0 := fun z => by have := bs_zero.mp z; omega
    show J_X1_leadsHome_B len r (J_X1_leadsHome len r D) Q i j 30 3 16 (nI (enc st)) (nI (bs L ns)) (nI home)
    rw [J_X1_leadsHome_B, nI_clamp (show bs L ns < 2 ^ 31 by omega)]
    refine ⟨fun _ => ⟨31, hg.1 _ (by decide) _ (by decide) _ rfl, by rw [hg.2 _ (by decide)]; exact vp_in_nI hbl (by decide), fun h0 => ⟨31, hg.1 _ (by decide) _ (by decide) _ rfl, by rw [hg.2 _ (by decide)]; exact vp_in_nI hbl (by decide), fun i1 e1 => ⟨ns + 1, ?_⟩⟩, fun hne => ?_⟩, fun hh => absurd hh (nI_ne0 (by omega) (by omega))⟩
    · have i1o : ∀ x f, x ≠ 31 → i1 x f = i x f := fun x f hx => by rw [e1, ju_ne hx]
      have i1k : ∀ L' : Nat → Bool, fb_ct L' ns ≠ d + 1 → i1 31 (bs L' ns) = i 31 (bs L' ns) := fun L' hL' => by
        rw [e1, ju_eq, pk_un (fun z => hL' ?_)]
        rw [fb_ct_cong (bs_inj z), hc]
      have kf1 : kF ns (d + 1) i i1 := ⟨i1o, fun L' hL' => i1k L' (by omega)⟩
      have mI1 : mI A B G T fr ns st0 home d i1 := fun L' hL' hne => hmI L' (by omega) (by rw [← i1k L' (by omega)]; exact hne)
      -- the loop over the streets
      have loop : ∀ (m x : Nat) (i2 : jI), x + m = ns → kF ns d i1 i2 → mI A B G T fr ns st0 home d i2 → (∀ s, s < x → L s = true → ∀ y, mbeh A B G T fr st s = some y → ¬ hm (mbeh A B G T fr) home ns d y (sU L s false)) → J_X1_leadsHome_L43 len r (J_X1_leadsHome len r D) Q (m + 1) i2 j 30 3 16 (nI (enc st)) (nI (bs L ns)) (nI home) (nI x) := by
        intro m
        induction m with
        | zero =>
          intro x i2 hx hk2 hm2 hno
          have hx' : x = ns := by omega
          subst hx'
          rw [J_X1_leadsHome_L43]
          dsimp only
          rw [hk2.1 3 0 (by decide), i1o 3 0 (by decide), tc.1]
          have hnone : ¬ hm (mbeh A B G T fr) home x (d + 1) st L := by
            rintro ⟨s, hs, hL, y, hy, hh⟩
            exact hno s hs hL y hy hh
          refine ⟨fun _ => hQ0 hnone i2 (kf1.tr (hk2.up (by omega))) (fun L' hL' hne st' hcon' => ?_), fun hh => absurd (nI_le (Nat.le_refl _) (by omega)) hh⟩
          by_cases hd : fb_ct L' x = d + 1
          · rw [hk2.2 L' (by omega)] at hne
            by_cases hb : bs L' x = bs L x
            · have hag := bs_inj hb
              intro hh
              rw [hd] at hh
              exact hnone (hm_cons tok hin (d + 1) L st' st (cons_cong hag hcon') hcon (hm_cong (d + 1) L' L st' hag hh))
            · rw [e1, ju_eq, pk_un hb] at hne
              exact hmI L' hL' hne st' hcon'
          · exact hm2 L' (by omega) hne st' hcon'
        | succ m ihm =>
          intro x i2 hx hk2 hm2 hno
          have hxn : x < ns := by omega
          have ex : (nI x).toNatClampNeg = x := nI_clamp (by omega)
          have i2o : ∀ z f, z ≠ 31 → i2 z f = i z f := fun z f hz => (hk2.1 z f hz).trans (i1o z f hz)
          have tc2 : TC i2 ns A B G P fr := tc.frm (fun a f h1 h2 => i2o a f (by omega))
          have ga2 : ga i2 17 18 ns w T := fun s hs => by
            rw [i2o 17 s (by decide), i2o 18 s (by decide)]
            exact hga s hs
          obtain ⟨-, cA, cB, -, cP, cG⟩ := tc.2.2.2 x hxn
          have next : ∀ i3, kF ns d i1 i3 → mI A B G T fr ns st0 home d i3 → (L x = true → ∀ y, mbeh A B G T fr st x = some y → ¬ hm (mbeh A B G T fr) home ns d y (sU L x false)) → J_X1_leadsHome_L106 len r (J_X1_leadsHome len r D) Q (J_X1_leadsHome_L43 len r (J_X1_leadsHome len r D) Q (m + 1)) i3 j 30 3 16 (nI (enc st)) (nI (bs L ns)) (nI home) (nI x) := by
            intro i3 hk3 hm3 hno3
            rw [J_X1_leadsHome_L106]
            intro v ev
            rw [nI_1] at ev
            subst ev
            refine ihm (x + 1) i3 (by omega) hk3 hm3 (fun s hs => ?_)
            by_cases e : s = x
            · subst e; exact hno3
            · exact hno s (by omega)
          rw [J_X1_leadsHome_L43]
          dsimp only
          rw [tc2.1]
          refine ⟨fun hh => absurd hh (nI_ge (by omega) (by omega)), fun _ => ?_⟩
          rw [sz_bit _ hbl x (by omega), bs_tbn L hxn]
          cases hL : L x with
          | false => exact ⟨fun _ => next i2 hk2 hm2 (fun hh => by rw [hL] at hh; cases hh), fun hh => absurd (by decide) hh⟩
          | true =>
            refine ⟨fun hh => absurd hh (by decide), fun _ => ⟨18, hg.1 _ (by decide) _ (by decide) _ rfl, by rw [hg.2 _ (by decide)]; exact vp_in_nI (by simp only [LL]; omega) (by decide), ?_⟩⟩
            rw [ex, (ga2 x hxn).2]
            refine sp_behC hg tc2 (hT x hxn) hcon.1 hxn ?_
            have hb := fun st2 hh => mbeh_lt (T := fun _ => T x) (fr := fr) (st2 := st2) hcon.1 cA cB cG hh
            obtain ⟨o1, -⟩ := eo_none hb
            have eT : mbeh A B G T fr st x = mbeh A B G (fun _ => T x) fr st x := rfl
            cases hm1 : mbeh A B G (fun _ => T x) fr st x with
            | none =>
              refine ⟨fun _ => next i2 hk2 hm2 (fun _ y hy => ?_), fun hh => absurd rfl hh⟩
              rw [eT, hm1] at hy
              cases hy
            | some y =>
              rw [hm1] at o1
              refine ⟨fun hh => (by cases o1.mp hh), fun _ => ?_⟩
              rw [sh1 x (by omega), fb_xorI, bs_xor hxn hL]
              have hy' : mbeh A B G T fr st x = some y := eT.trans hm1
              have hcy := cons_step tok hin hcon hxn hL hy'
              refine ih D _ i2 (sU L x false) y (by omega) tc2 ga2 (by have := ct_del hxn hL; omega) hcy hm2 (fun hyes i3 hk3 => ⟨fun hh => absurd hh (by decide), fun _ => hQ1 ⟨x, hxn, hL, y, hy', hyes⟩ i3 (kf1.tr ((hk2.tr hk3).up (by omega)))⟩) (fun hno3 i3 hk3 hm3 => ⟨fun _ => next i3 (hk2.tr hk3) hm3 (fun _ y' hy2 => ?_), fun hh => absurd rfl hh⟩)
              rw [hy'] at hy2
              cases hy2
              exact hno3
      exact loop ns 0 i1 (by omega) kF.rf mI1 (fun s hs => by omega)
    · refine hQ0 (fun hh => ?_) i kF.rf hmI
      have := hmI L (by omega) hne st hcon
      rw [hc] at this
      exact this hh
/-- by which street a round begins -/
def rP1 (A B G T : Nat → Nat) (fr : Bool) (ns st : Nat) : Nat → Prop := fun s => ∃ y, mbeh A B G T fr st s = some y ∧ hm (mbeh A B G T fr) (st % 7) ns (ns - 1) y (sU (fun _ => true) s false)
theorem lp_rfirst {Q : Int32 → jI → jL → Prop} {st : Nat} {i0 : jI} (hg : Gr r len) (hin : ∀ s t, s < ns → t < ns → G s = G t → G s ≠ 0 → s = t) (hT : ∀ s, s < ns → T s < 2) (hst : st < 378) (tc : TC i0 ns A B G P fr) (hga : ga i0 17 18 ns w T) (hQ : ∀ i' o, fs_ls (rP1 A B G T fr ns st) ns o → (∀ x f, x ≠ 31 → i' x f = i0 x f) → Q (bo o) i' j) : ∀ (m x : Nat) (i : jI), x + m = ns → (∀ x f, x ≠ 31 → i x f = i0 x f) → mI A B G T fr ns st (st % 7) (ns - 1) i → (∀ s, s < x → ¬ rP1 A B G T fr ns st s) → J_X1_firstStreet_L21 len r Q (m + 1) i j 30 3 16 (nI (enc st)) (nI (bs (fun _ => true) ns)) (nI x) := by
  have hn := tc.2.1
  have tok := tc.tok
  have h7 : st % 7 < 7 := Nat.mod_lt _ (by decide)
  intro m
  induction m with
  | zero =>
    intro x i hx hf hmI hno
    have hx' : x = ns := by omega
    subst hx'
    rw [J_X1_firstStreet_L21]
    dsimp only
    rw [hf 3 0 (by decide), tc.1]
    exact ⟨fun _ => hQ i none hno hf, fun hh => absurd (nI_le (Nat.le_refl _) (by omega)) hh⟩
  | succ m ih =>
    intro x i hx hf hmI hno
    have hxn : x < ns := by omega
    have ex : (nI x).toNatClampNeg = x := nI_clamp (by omega)
    have tci : TC i ns A B G P fr := tc.frm (fun a f h1 h2 => hf a f (by omega))
    have gai : ga i 17 18 ns w T := fun s hs => by
      rw [hf 17 s (by decide), hf 18 s (by decide)]
      exact hga s hs
    obtain ⟨-, cA, cB, -, cP, cG⟩ := tc.2.2.2 x hxn
    have next : ∀ i3, (∀ x f, x ≠ 31 → i3 x f = i0 x f) → mI A B G T fr ns st (st % 7) (ns - 1) i3 → ¬ rP1 A B G T fr ns st x → J_X1_firstStreet_L77 len r Q (J_X1_firstStreet_L21 len r Q (m + 1)) i3 j 30 3 16 (nI (enc st)) (nI (bs (fun _ => true) ns)) (nI x) := by
      intro i3 hk3 hm3 hno3
      rw [J_X1_firstStreet_L77]
      intro v ev
      rw [nI_1] at ev
      subst ev
      refine ih (x + 1) i3 (by omega) hk3 hm3 (fun s hs => ?_)
      by_cases e : s = x
      · subst e; exact hno3
      · exact hno s (by omega)
    rw [J_X1_firstStreet_L21]
    dsimp only
    rw [tci.1]
    refine ⟨fun hh => absurd hh (nI_ge (by omega) (by omega)), fun _ => ⟨18, hg.1 _ (by decide) _ (by decide) _ rfl, by rw [hg.2 _ (by decide)]; exact vp_in_nI (by simp only [LL]; omega) (by decide), ?_⟩⟩
    rw [ex, (gai x hxn).2]
    refine sp_behC hg tci (hT x hxn) hst hxn ?_
    have hb := fun st2 hh => mbeh_lt (T := fun _ => T x) (fr := fr) (st2 := st2) hst cA cB cG hh
    obtain ⟨o1, -⟩ := eo_none hb
    have eT : mbeh A B G T fr st x = mbeh A B G (fun _ => T x) fr st x := rfl
    cases hm1 : mbeh A B G (fun _ => T x) fr st x with
    | none =>
      refine ⟨fun _ => next i hf hmI ?_, fun hh => absurd rfl hh⟩
      rintro ⟨y, hy, -⟩
      rw [eT, hm1] at hy
      cases hy
    | some y =>
      rw [hm1] at o1
      refine ⟨fun hh => (by cases o1.mp hh), fun _ => sp_placeOf hst ?_⟩
      rw [sh1 x (by omega), fb_xorI, bs_xor (L := fun _ => true) hxn rfl]
      have hy' : mbeh A B G T fr st x = some y := eT.trans hm1
      have hcy := cons_step tok hin (cons_0 hst) hxn (L := fun _ => true) rfl hy'
      have hct : fb_ct (sU (fun _ => true) x false) ns = ns - 1 := by
        have := ct_del (L := fun _ => true) hxn rfl
        have := (fb_ct_all (p := fun _ => true) (n := ns)).mpr (fun _ _ => rfl)
        omega
      refine lp_home hg h7 hin hT (ns - 1) 11 _ i (sU (fun _ => true) x false) y (by omega) tci gai hct hcy hmI (fun hyes i3 hk3 => ⟨fun hh => absurd hh (by decide), fun _ => hQ i3 (some x) ⟨hxn, ⟨y, hy', hyes⟩, hno⟩ (fun z f hz => (hk3.1 z f hz).trans (hf z f hz))⟩) (fun hno3 i3 hk3 hm3 => ⟨fun _ => next i3 (fun z f hz => (hk3.1 z f hz).trans (hf z f hz)) hm3 ?_, fun hh => absurd rfl hh⟩)
      rintro ⟨y', hy2, hh⟩
      rw [hy'] at hy2
      cases hy2
      exact hno3 hh
theorem sp_rfirst {Q : Int32 → jI → jL → Prop} {st : Nat} {i : jI} (hg : Gr r len) (hin : ∀ s t, s < ns → t < ns → G s = G t → G s ≠ 0 → s = t) (hT : ∀ s, s < ns → T s < 2) (hst : st < 378) (tc : TC i ns A B G P fr) (hga : ga i 17 18 ns w T) (hQ : ∀ i' o, fs_ls (rP1 A B G T fr ns st) ns o → (∀ x f, x ≠ 31 → i' x f = i x f) → Q (bo o) i' j) : J_X1_firstStreet len r Q i j 30 3 16 (nI (enc st)) := by
  have hn := tc.2.1
  rw [J_X1_firstStreet]
  refine ⟨31, hg.1 _ (by decide) _ (by decide) _ rfl, sp_fill (L := 1024) (hg.2 31 (by decide)) (by decide) (fun i1 f1 o1 v16 e16 => ⟨ns + 1, ?_⟩)⟩
  have tc1 : TC i1 ns A B G P fr := tc.frm (fun a f h1 h2 => o1 a f (by omega))
  have ga1 : ga i1 17 18 ns w T := fun s hs => by
    rw [o1 17 s (by decide), o1 18 s (by decide)]
    exact hga s hs
  have h2 : 1 ≤ 2 ^ ns := Nat.one_le_two_pow
  rw [tc1.1, sh1 ns (by omega), show (1 : Int32) = nI 1 from by decide, pk_sub h2, ← bs_all] at e16
  subst e16
  refine lp_rfirst hg hin hT hst tc1 ga1 (fun i2 o ho hf => hQ i2 o ho (fun x f hx => (hf x f hx).trans (o1 x f hx))) ns 0 i1 (by omega) (fun _ _ _ => rfl) (fun L _ hne => absurd (f1 _ (bs1024 L hn)) hne) (fun s hs => by omega)
end Home
