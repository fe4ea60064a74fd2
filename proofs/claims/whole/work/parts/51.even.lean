/-! sets of streets as numbers -/
def bs (f : Nat → Bool) : Nat → Nat
  | 0 => 0
  | n + 1 => bs f n + (if f n = true then 2 ^ n else 0)
theorem bs_lt (f : Nat → Bool) : ∀ n, bs f n < 2 ^ n := by
  intro n
  induction n with
  | zero => show 0 < 1; decide
  | succ n ih => rw [bs, Nat.pow_succ]; split <;> omega
theorem p1024 {ns : Nat} (hn : ns ≤ 10) : 2 ^ ns ≤ 1024 := by
  have h : 2 ^ ns ≤ 2 ^ 10 := Nat.pow_le_pow_right (by decide) hn
  exact Nat.le_trans h (by decide)
theorem bs_tb (f : Nat → Bool) : ∀ n s, (bs f n).testBit s = (decide (s < n) && f s) := by
  intro n
  induction n with
  | zero => intro s; rw [bs]; simp
  | succ n ih =>
    intro s
    rw [bs]
    by_cases hf : f n = true
    · rw [if_pos hf, Nat.add_comm, ← Nat.mul_one (2 ^ n), Nat.two_pow_add_eq_or_of_lt (bs_lt f n), Nat.mul_one, Nat.testBit_or, ih, Nat.testBit_two_pow]
      by_cases h1 : s = n
      · subst h1; simp [hf]
      · have e : decide (n = s) = false := by simp; omega
        rw [e]
        have e2 : decide (s < n + 1) = decide (s < n) := by simp; omega
        rw [e2]; simp
    · rw [if_neg hf, Nat.add_zero, ih]
      by_cases h1 : s = n
      · subst h1
        have : f s = false := by simpa using hf
        simp [this]
      · have e2 : decide (s < n + 1) = decide (s < n) := by simp; omega
        rw [e2]
theorem sh1 : ∀ x, x < 31 → (1 : Int32) <<< (nI x &&& 31) = nI (2 ^ x) := by decide +kernel
theorem nI_setb {a x : Nat} (ha : a < 2 ^ x) (hx : x < 31) : nI a ||| ((1 : Int32) <<< (nI x &&& 31)) = nI (a + 2 ^ x) := by
  rw [sh1 x hx, fa_or, Nat.or_comm, ← Nat.mul_one (2 ^ x), ← Nat.two_pow_add_eq_or_of_lt ha, Nat.add_comm]
theorem nI_zero {c : Nat} (hc : c < 2 ^ 31) : nI c = 0 ↔ c = 0 := nI_eq (b := 0) hc (by decide)
theorem sub_iff {a b : Nat} (ha : a < 2 ^ 31) : (nI a &&& (nI b ^^^ (-1 : Int32))) = 0 ↔ ∀ s, a.testBit s = true → b.testBit s = true := by
  rw [show (-1 : Int32) = nI (2 ^ 32 - 1) from by decide, fb_xorI, fa_and, nI_zero (Nat.lt_of_le_of_lt Nat.and_le_left ha)]
  constructor
  · intro h s hs
    have e : (a &&& (b ^^^ (2 ^ 32 - 1))).testBit s = false := by rw [h]; simp
    rw [Nat.testBit_and, hs, Nat.testBit_xor, Nat.testBit_two_pow_sub_one] at e
    have hs31 : s < 32 := by
      rcases Nat.lt_or_ge s 32 with h2 | h2
      · exact h2
      · have := Nat.testBit_lt_two_pow (x := a) (i := s) (Nat.lt_of_lt_of_le ha (Nat.pow_le_pow_right (by decide) (by omega)))
        rw [this] at hs; cases hs
    have e3 : decide (s < 32) = true := by simpa using hs31
    rw [e3] at e
    cases hb : b.testBit s with
    | true => rfl
    | false => rw [hb] at e; simp at e
  · intro h
    apply Nat.eq_of_testBit_eq
    intro s
    rw [Nat.testBit_and, Nat.testBit_xor, Nat.testBit_two_pow_sub_one, Nat.zero_testBit]
    cases hs : a.testBit s with
    | false => rfl
    | true =>
      rw [h s hs]
      have hs31 : s < 32 := by
        rcases Nat.lt_or_ge s 32 with h2 | h2
        · exact h2
        · have := Nat.testBit_lt_two_pow (x := a) (i := s) (Nat.lt_of_lt_of_le ha (Nat.pow_le_pow_right (by decide) (by omega)))
          rw [this] at hs; cases hs
      simp [hs31]
/-- how many streets -/
def pop (n : Nat) : Nat := fb_ct (fun s => n.testBit s) 10
theorem pop_le (n : Nat) : pop n ≤ 10 := fb_ct_le _ _
def bcF (x0 : Int32) : Int32 :=
  let v9 := x0 - (((x0.toUInt32 >>> ((1 : Int32).toUInt32 &&& Int32.toUInt32 31)).toInt32) &&& (1431655765 : Int32))
  let v23 := (v9 &&& (858993459 : Int32)) + (((v9.toUInt32 >>> ((2 : Int32).toUInt32 &&& Int32.toUInt32 31)).toInt32) &&& (858993459 : Int32))
  let v33 := (v23 + ((v23.toUInt32 >>> ((4 : Int32).toUInt32 &&& Int32.toUInt32 31)).toInt32)) &&& (252645135 : Int32)
  let v40 := v33 + ((v33.toUInt32 >>> ((8 : Int32).toUInt32 &&& Int32.toUInt32 31)).toInt32)
  let v47 := v40 + ((v40.toUInt32 >>> ((16 : Int32).toUInt32 &&& Int32.toUInt32 31)).toInt32)
  v47 &&& (63 : Int32)
theorem bc_pop : ∀ n, n < 1024 → bcF (nI n) = nI (pop n) := by decide +kernel
theorem sz_bit : ∀ n, n < 1024 → ∀ k, k < 10 → (nI n >>> (nI k &&& 31)) &&& (1 : Int32) = nI (if n.testBit k = true then 1 else 0) := by decide +kernel
section Sets
variable {len : Nat → Nat} {r : jR} {Q : Int32 → jI → jL → Prop} {i : jI} {j : jL} {n a : Nat}
theorem sp_bitCount (hn : n < 1024) (hQ : Q (nI (pop n)) i j) : J_J6_bitCount_0f7a4 len r Q i j (nI n) := by
  rw [J_J6_bitCount_0f7a4]
  intro v9 e9 v23 e23 v33 e33 v40 e40 v47 e47
  subst e9 e23 e33 e40 e47
  exact (show Q (bcF (nI n)) i j by rw [bc_pop n hn]; exact hQ)
theorem lp_size (hn : n < 1024) : ∀ m x, x + m = 10 → Q (nI (pop n)) i j → J_X12_size_L4 len r Q (m + 1) i j (nI n) (nI (fb_ct (fun s => n.testBit s) x)) (nI x) := by
  intro m
  induction m with
  | zero =>
    intro x hx h
    have : x = 10 := by omega
    subst this
    rw [J_X12_size_L4]
    exact ⟨fun _ => h, fun hh => absurd (by decide) hh⟩
  | succ m ih =>
    intro x hx h
    rw [J_X12_size_L4]
    refine ⟨fun hh => absurd hh (nI_ge (b := 10) (by omega) (by decide)), fun _ => ?_⟩
    intro v e v2 e2
    rw [sz_bit n hn x (by omega), nI_add] at e
    rw [nI_1] at e2
    subst e e2
    exact ih (x + 1) (by omega) h
theorem sp_size (hn : n < 1024) (hQ : Q (nI (pop n)) i j) : J_X12_size len r Q i j (nI n) := by
  rw [J_X12_size]
  exact ⟨11, lp_size hn 10 0 (by omega) hQ⟩
def bo (o : Option Nat) : Int32 := match o with
  | none => -1
  | some b => nI b
def told (o : Option Nat) (a : Nat) : Int32 := match o with
  | none => -1
  | some b => if a = 1 then nI b else nI (pop b)
theorem nI_m1 {n : Nat} (h : n < 2 ^ 31) : ¬ nI n = (-1 : Int32) := by
  intro hh
  have := congrArg Int32.toInt hh
  rw [nI_toInt h, show (-1 : Int32).toInt = -1 from by decide] at this
  omega
theorem sp_streetsTold {o : Option Nat} (ho : ∀ b, o = some b → b < 1024) (ha : a < 2) (hQ : Q (told o a) i j) : J_X11_streetsTold len r Q i j (bo o) (nI a) := by
  rw [J_X11_streetsTold]
  cases o with
  | none => exact ⟨fun _ => hQ, fun h => absurd rfl h⟩
  | some b =>
    have hb := ho b rfl
    refine ⟨fun h => absurd h (nI_m1 (by omega)), fun _ => ?_⟩
    rcases (show a = 0 ∨ a = 1 by omega) with rfl | rfl
    · exact ⟨fun _ => sp_bitCount hb hQ, fun h => absurd h (by decide)⟩
    · exact ⟨fun h => absurd (by decide) h, fun _ => hQ⟩
end Sets
/-! even -/
def acr (sd a b : Nat) : Nat := (sd / 2 ^ a + sd / 2 ^ b) % 2
theorem acr_n : ∀ sd, sd < 128 → ∀ a, a < 7 → ∀ b, b < 7 → ((nI sd >>> (nI a &&& 31)) ^^^ (nI sd >>> (nI b &&& 31))) &&& (1 : Int32) = nI (acr sd a b) := by decide +kernel
def od (k p : Nat) : Nat := mstep k p % 2
def agF (A B P : Nat → Nat) (k sd : Nat) : Nat → Bool := fun s => decide (acr sd (A s) (B s) ≠ od k (P s))
def usF (P : Nat → Nat) (k : Nat) : Nat → Bool := fun s => decide (od k (P s) ≠ od k (P s + 1))
def evr (f u : Nat → Bool) : Nat → Nat → Bool
  | 0, _ => true
  | m + 1, x => (!f x || u x) && evr f u m (x + 1)
theorem evr_iff (f u : Nat → Bool) : ∀ m x, evr f u m x = true ↔ ∀ s, x ≤ s → s < x + m → f s = true → u s = true := by
  intro m
  induction m with
  | zero => intro x; exact ⟨fun _ s h1 h2 => by omega, fun _ => rfl⟩
  | succ m ih =>
    intro x
    rw [evr, Bool.and_eq_true, ih (x + 1)]
    constructor
    · rintro ⟨h1, h2⟩ s hs1 hs2 hf
      by_cases e : s = x
      · subst e
        rw [hf] at h1
        simpa using h1
      · exact h2 s (by omega) (by omega) hf
    · intro h
      refine ⟨?_, fun s h1 h2 => h s (by omega) (by omega)⟩
      cases hf : f x with
      | false => rfl
      | true => rw [h x (by omega) (by omega) hf]; rfl
def evs (f u : Nat → Bool) (ns : Nat) (o : Option Nat) : Option Nat :=
  if evr f u ns 0 = true then
    (match o with
     | none => some (bs f ns)
     | some b => if pop (bs f ns) < pop b ∨ (pop (bs f ns) = pop b ∧ bs f ns < b) then some (bs f ns) else some b)
  else o
def evf (A B P : Nat → Nat) (k ns : Nat) : Nat → Nat → Option Nat → Option Nat
  | 0, _, o => o
  | m + 1, sd, o => evf A B P k ns m (sd + 1) (evs (agF A B P k sd) (usF P k) ns o)
theorem evs_lt {f u : Nat → Bool} {ns : Nat} {o : Option Nat} (hn : ns ≤ 10) (ho : ∀ b, o = some b → b < 1024) : ∀ b, evs f u ns o = some b → b < 1024 := by
  have h1 : bs f ns < 1024 := Nat.lt_of_lt_of_le (bs_lt f ns) (p1024 hn)
  intro b hb
  unfold evs at hb
  split at hb
  · cases o with
    | none => cases hb; exact h1
    | some c =>
      simp only at hb
      split at hb
      · cases hb; exact h1
      · cases hb; exact ho _ rfl
  · exact ho b hb
theorem evf_lt {A B P : Nat → Nat} {k ns : Nat} (hn : ns ≤ 10) : ∀ m sd o, (∀ b, o = some b → b < 1024) → ∀ b, evf A B P k ns m sd o = some b → b < 1024 := by
  intro m
  induction m with
  | zero => intro sd o ho; exact ho
  | succ m ih => intro sd o ho; exact ih (sd + 1) _ (evs_lt hn ho)
theorem mt_od : ∀ k, k < 5 → k ≠ 3 → ∀ p, p < 16 → mturn k p = od k p := by decide +kernel
theorem od_3 (p : Nat) : od 0 p = od 3 p := rfl
theorem od_lt (k p : Nat) : od k p < 2 := Nat.mod_lt _ (by decide)
theorem acr_lt (s a b : Nat) : acr s a b < 2 := Nat.mod_lt _ (by decide)
section Even
variable {len : Nat → Nat} {r : jR} {Q : Int32 → jI → jL → Prop} {i : jI} {j : jL} {ns k sd a : Nat} {A B G P : Nat → Nat} {fr : Bool}
theorem lp_against (hg : Gr r len) (tc : TC i ns A B G P fr) (hk : k < 5) (hk3 : k ≠ 3) (hsd : sd < 128) : ∀ m x, x + m = ns → Q (nI (bs (agF A B P k sd) ns)) i j → J_X11_streetsAgainst_L5 len r Q (m + 1) i j 0 (nI sd) (nI k) (nI (bs (agF A B P k sd) x)) (nI x) := by
  have hn := tc.2.1
  have e := tc.1
  intro m
  induction m with
  | zero =>
    intro x hx h
    have hx' : x = ns := by omega
    subst hx'
    rw [J_X11_streetsAgainst_L5]
    refine ⟨_, hg.1 _ (by decide) _ (by decide) _ rfl, ?_⟩
    rw [e]
    exact ⟨fun _ => h, fun hh => absurd (nI_le (Nat.le_refl _) (by omega)) hh⟩
  | succ m ih =>
    intro x hx h
    obtain ⟨⟨c0, c1, c2, c3⟩, cA, cB, -, cP, cG⟩ := tc.2.2.2 x (by omega)
    have ex : (nI x).toNatClampNeg = x := nI_clamp (by omega)
    have hv : vp_in (nI x) 10 := vp_in_nI (by omega) (by decide)
    rw [J_X11_streetsAgainst_L5]
    refine ⟨_, hg.1 _ (by decide) _ (by decide) _ rfl, ?_⟩
    rw [e]
    refine ⟨fun hh => absurd hh (nI_ge (by omega) (by omega)), fun _ => ⟨_, hg.1 _ (by decide) _ (by decide) _ rfl, _, hg.1 _ (by decide) _ (by decide) _ rfl, by rw [hg.2 _ (by decide)]; exact hv, _, hg.1 _ (by decide) _ (by decide) _ rfl, _, hg.1 _ (by decide) _ (by decide) _ rfl, by rw [hg.2 _ (by decide)]; exact hv, fun v ev => ⟨_, hg.1 _ (by decide) _ (by decide) _ rfl, _, hg.1 _ (by decide) _ (by decide) _ rfl, by rw [hg.2 _ (by decide)]; exact hv, ?_⟩⟩⟩
    rw [ex, c0, c1, acr_n sd hsd _ cA _ cB] at ev
    rw [ex, c2]
    subst ev
    refine sp_turnOf hk (by omega) ?_
    rw [mt_od k hk hk3 _ (by omega)]
    have l1 := od_lt k (P x)
    have l2 := acr_lt sd (A x) (B x)
    have fin : ∀ z, z = bs (agF A B P k sd) (x + 1) → J_X11_streetsAgainst_L72 len r Q (J_X11_streetsAgainst_L5 len r Q (m + 1)) i j 0 (nI sd) (nI k) (nI z) (nI x) := by
      intro z hz
      subst hz
      rw [J_X11_streetsAgainst_L72]
      intro v e1
      rw [nI_1] at e1
      subst e1
      exact ih (x + 1) (by omega) h
    refine pk_eq (acr sd (A x) (B x)) (od k (P x)) (fun he => fin _ ?_) (fun he => ?_)
    · rw [bs, if_neg (by simp [agF, he]), Nat.add_zero]
    · intro v e1
      rw [nI_setb (bs_lt _ _) (by omega)] at e1
      subst e1
      exact fin _ (by rw [bs, if_pos (by simp [agF, he])])
theorem lp_useful (hg : Gr r len) (tc : TC i ns A B G P fr) (hk : k < 5) (f : Nat → Bool) (hf : ∀ s, s < ns → f s = decide (mturn k (P s) ≠ mturn k (P s + 1))) : ∀ m x, x + m = ns → Q (nI (bs f ns)) i j → J_X11_turnedByStone_L4 len r Q (m + 1) i j 0 (nI k) (nI (bs f x)) (nI x) := by
  have hn := tc.2.1
  have e := tc.1
  intro m
  induction m with
  | zero =>
    intro x hx h
    have hx' : x = ns := by omega
    subst hx'
    rw [J_X11_turnedByStone_L4]
    refine ⟨_, hg.1 _ (by decide) _ (by decide) _ rfl, ?_⟩
    rw [e]
    exact ⟨fun _ => h, fun hh => absurd (nI_le (Nat.le_refl _) (by omega)) hh⟩
  | succ m ih =>
    intro x hx h
    obtain ⟨⟨c0, c1, c2, c3⟩, cA, cB, -, cP, cG⟩ := tc.2.2.2 x (by omega)
    have ex : (nI x).toNatClampNeg = x := nI_clamp (by omega)
    have hv : vp_in (nI x) 10 := vp_in_nI (by omega) (by decide)
    rw [J_X11_turnedByStone_L4]
    refine ⟨_, hg.1 _ (by decide) _ (by decide) _ rfl, ?_⟩
    rw [e]
    refine ⟨fun hh => absurd hh (nI_ge (by omega) (by omega)), fun _ => ⟨_, hg.1 _ (by decide) _ (by decide) _ rfl, _, hg.1 _ (by decide) _ (by decide) _ rfl, by rw [hg.2 _ (by decide)]; exact hv, fun v ev => ?_⟩⟩
    rw [ex, c2] at ev
    subst ev
    refine sp_turnOf hk (by omega) ?_
    rw [nI_1]
    refine sp_turnOf hk (by omega) ?_
    have l1 := mtn_lt k (P x)
    have l2 := mtn_lt k (P x + 1)
    have fin : ∀ z, z = bs f (x + 1) → J_X11_turnedByStone_L49 len r Q (J_X11_turnedByStone_L4 len r Q (m + 1)) i j 0 (nI k) (nI z) (nI x) := by
      intro z hz
      subst hz
      rw [J_X11_turnedByStone_L49]
      intro v e1
      rw [nI_1] at e1
      subst e1
      exact ih (x + 1) (by omega) h
    refine pk_eq (mturn k (P x)) (mturn k (P x + 1)) (fun he => fin _ ?_) (fun he => ?_)
    · rw [bs, if_neg (by rw [hf x (by omega)]; simp [he]), Nat.add_zero]
    · intro v e1
      rw [nI_setb (bs_lt _ _) (by omega)] at e1
      subst e1
      exact fin _ (by rw [bs, if_pos (by rw [hf x (by omega)]; simp [he])])
theorem sp_useful (hg : Gr r len) (tc : TC i ns A B G P fr) (hk : k < 5) (f : Nat → Bool) (hf : ∀ s, s < ns → f s = decide (mturn k (P s) ≠ mturn k (P s + 1))) (hQ : Q (nI (bs f ns)) i j) : J_X11_turnedByStone len r Q i j 0 (nI k) := by
  rw [J_X11_turnedByStone]
  exact ⟨ns + 1, lp_useful hg tc hk f hf ns 0 (by omega) hQ⟩
theorem bs1024 (f : Nat → Bool) (hn : ns ≤ 10) : bs f ns < 1024 := Nat.lt_of_lt_of_le (bs_lt f ns) (p1024 hn)
theorem sub_bs (f u : Nat → Bool) (hn : ns ≤ 10) : (nI (bs f ns) &&& (nI (bs u ns) ^^^ (-1 : Int32))) = 0 ↔ evr f u ns 0 = true := by
  have hb := bs1024 (ns := ns) f hn
  rw [sub_iff (by omega), evr_iff]
  constructor
  · intro h s _ h2 hf
    have := h s (by rw [bs_tb, hf]; simp; omega)
    rw [bs_tb] at this
    simp at this
    exact this.2
  · intro h s hs
    rw [bs_tb] at hs ⊢
    simp at hs
    rw [h s (by omega) (by omega) hs.2]
    simp
    exact hs.1
theorem sp_isBetter {x y : Nat} (hx : x < 1024) (hy : y < 1024) (hQ : Q (if pop x < pop y ∨ (pop x = pop y ∧ x < y) then 1 else 0) i j) : J_X11_isBetter len r Q i j (nI x) (nI y) := by
  have p1 := pop_le x
  have p2 := pop_le y
  rw [J_X11_isBetter]
  refine sp_bitCount hx (sp_bitCount hy ?_)
  refine pk_lt (pop x) (pop y) (fun h => ?_) (fun h => ⟨fun h2 => ?_, fun h2 => ?_⟩)
  · rw [if_pos (Or.inl h)] at hQ; exact hQ
  · rw [if_neg (fun z => z.elim (by omega) (fun z => h2 (by rw [z.1])))] at hQ; exact hQ
  · have h2' := (nI_eq (by omega) (by omega)).mp h2
    refine pk_le y x (fun h3 => ?_) (fun h3 => ?_)
    · rw [if_neg (by omega)] at hQ; exact hQ
    · rw [if_pos (by omega)] at hQ; exact hQ
theorem lp_evenC (hg : Gr r len) (tc : TC i ns A B G P fr) (hk : k < 5) (hk3 : k ≠ 3) : ∀ m sd o, sd + m = 128 → (∀ b, o = some b → b < 1024) → Q (bo (evf A B P k ns m sd o)) i j → J_X11_stonesForEven_L23 len r Q (m + 1) i j 0 (nI k) (nI (bs (usF P k) ns)) (bo o) (nI sd) := by
  have hn := tc.2.1
  intro m
  induction m with
  | zero =>
    intro sd o hsd ho h
    have : sd = 128 := by omega
    subst this
    rw [J_X11_stonesForEven_L23]
    exact ⟨fun _ => h, fun hh => absurd (by decide) hh⟩
  | succ m ih =>
    intro sd o hsd ho h
    have fin : ∀ o', o' = evs (agF A B P k sd) (usF P k) ns o → J_X11_stonesForEven_L69 len r Q (J_X11_stonesForEven_L23 len r Q (m + 1)) i j 0 (nI k) (nI (bs (usF P k) ns)) (bo o') (nI sd) := by
      intro o' ho'
      subst ho'
      rw [J_X11_stonesForEven_L69]
      intro v e1
      rw [nI_1] at e1
      subst e1
      exact ih (sd + 1) _ (by omega) (evs_lt hn ho) h
    rw [J_X11_stonesForEven_L23]
    refine ⟨fun hh => absurd hh (nI_ge (b := 128) (by omega) (by decide)), fun _ => ?_⟩
    rw [J_X11_streetsAgainst]
    refine ⟨ns + 1, lp_against hg tc hk hk3 (by omega) ns 0 (by omega) ?_⟩
    have hb := bs1024 (ns := ns) (agF A B P k sd) hn
    have hs := sub_bs (ns := ns) (agF A B P k sd) (usF P k) hn
    refine ⟨fun h1 => fin o ?_, fun h1 => ?_⟩
    · unfold evs; rw [if_neg (fun z => h1 (hs.mpr z))]
    · have h1' := hs.mp h1
      cases o with
      | none =>
        refine ⟨fun _ => ?_, fun hh => absurd rfl hh⟩
        rw [J_X11_stonesForEven_L65]
        exact fin (some _) (by rw [evs, if_pos h1'])
      | some b =>
        have hb2 := ho b rfl
        refine ⟨fun hh => absurd hh (nI_m1 (by omega)), fun _ => sp_isBetter hb hb2 ?_⟩
        by_cases hc : pop (bs (agF A B P k sd) ns) < pop b ∨ (pop (bs (agF A B P k sd) ns) = pop b ∧ bs (agF A B P k sd) ns < b)
        · rw [if_pos hc]
          refine ⟨fun hh => absurd hh (by decide), fun _ => ?_⟩
          rw [J_X11_stonesForEven_L65]
          exact fin (some _) (by rw [evs, if_pos h1']; rw [if_pos hc])
        · rw [if_neg hc]
          exact ⟨fun _ => fin (some b) (by rw [evs, if_pos h1']; rw [if_neg hc]), fun hh => absurd rfl hh⟩
def evn (A B P : Nat → Nat) (k ns : Nat) : Option Nat := evf A B P k ns 128 0 none
theorem evn_lt (hn : ns ≤ 10) : ∀ b, evn A B P k ns = some b → b < 1024 := evf_lt hn 128 0 none (fun b h => by cases h)
theorem sp_evenC (hg : Gr r len) (tc : TC i ns A B G P fr) (hk : k < 5) (hQ : Q (bo (evn A B P k ns)) i j) : J_X11_stonesForEven len r Q i j 0 (nI k) := by
  have main : ∀ k', k' < 5 → k' ≠ 3 → Q (bo (evn A B P k' ns)) i j → J_X11_stonesForEven_L10 len r Q i j 0 (nI k') := by
    intro k' hk' hk3 hQ'
    rw [J_X11_stonesForEven_L10]
    refine sp_useful hg tc hk' (usF P k') (fun s hs => ?_) ⟨129, lp_evenC hg tc hk' hk3 128 0 none (by omega) (fun b h => by cases h) hQ'⟩
    have := (tc.2.2.2 s hs).2.2.2.2.1
    rw [mt_od k' hk' hk3 _ (by omega), mt_od k' hk' hk3 _ (by omega)]
    rfl
  rw [J_X11_stonesForEven]
  by_cases h3 : k = 3
  · subst h3
    refine ⟨fun hh => absurd (by decide) hh, fun _ => main 0 (by decide) (by decide) ?_⟩
    have e1 : ∀ m sd o, evf A B P 0 ns m sd o = evf A B P 3 ns m sd o := by
      intro m
      induction m with
      | zero => intro sd o; rfl
      | succ m ih => intro sd o; rw [evf, evf, ih]; rfl
    rw [evn, e1]
    exact hQ
  · exact ⟨fun _ => main k hk h3 hQ, fun hh => absurd ((k3 k hk).mp hh) h3⟩
theorem lp_evenBy (hg : Gr r len) (tm : TM i ns A B G P fr) (hk : k < 5) (hsd : sd < 128) : ∀ m x, x + m = ns → Q (if evr (agF A B P k sd) (usF P k) m x = true then nI (bs (agF A B P k sd) ns) else -1) i j → J_X12_evenBy_L5 len r Q (m + 1) i j 37 (nI k) (nI sd) (nI (bs (agF A B P k sd) x)) (nI x) := by
  have hn := tm.2.1
  have e := tm.1
  intro m
  induction m with
  | zero =>
    intro x hx h
    have hx' : x = ns := by omega
    subst hx'
    rw [J_X12_evenBy_L5]
    dsimp only
    rw [e]
    exact ⟨fun _ => h, fun hh => absurd (nI_le (Nat.le_refl _) (by omega)) hh⟩
  | succ m ih =>
    intro x hx h
    obtain ⟨⟨c0, c1, c2, c3⟩, cA, cB, -, cP, cG⟩ := tm.2.2.2 x (by omega)
    have ex : (nI x).toNatClampNeg = x := nI_clamp (by omega)
    have hv : vp_in (nI x) 10 := vp_in_nI (by omega) (by decide)
    rw [J_X12_evenBy_L5]
    dsimp only
    rw [e]
    refine ⟨fun hh => absurd hh (nI_ge (by omega) (by omega)), fun _ => ⟨_, hg.1 _ (by decide) _ (by decide) _ rfl, by rw [hg.2 _ (by decide)]; exact hv, _, hg.1 _ (by decide) _ (by decide) _ rfl, by rw [hg.2 _ (by decide)]; exact hv, fun v ev => ⟨_, hg.1 _ (by decide) _ (by decide) _ rfl, by rw [hg.2 _ (by decide)]; exact hv, ?_⟩⟩⟩
    rw [ex, c0, c1, acr_n sd hsd _ cA _ cB] at ev
    rw [ex, c2]
    subst ev
    refine sp_stepsBy hk (by omega) ?_
    have m1 := mst_lt k hk (P x) (by omega)
    have m2 := mst_lt k hk (P x + 1) (by omega)
    rw [ev2 _ m1]
    have l1 := od_lt k (P x)
    have l2 := acr_lt sd (A x) (B x)
    have l3 := od_lt k (P x + 1)
    rw [evr] at h
    have fin : ∀ b : Int32, ∀ z, (b = 0 ∨ b = 1) → z = bs (agF A B P k sd) (x + 1) → (b = 0 ↔ agF A B P k sd x = true) → evr (agF A B P k sd) (usF P k) (m + 1) x = evr (agF A B P k sd) (usF P k) m (x + 1) → J_X12_evenBy_L101 len r Q (J_X12_evenBy_L5 len r Q (m + 1)) i j 37 (nI k) (nI sd) (nI (bs (agF A B P k sd) x)) (nI x) b := by
      intro b z hb hz hbf he
      rw [evr] at he
      rw [he] at h
      have ih' := ih (x + 1) (by omega) h
      rw [J_X12_evenBy_L101]
      refine ⟨fun h0 => ?_, fun h0 => ?_⟩
      · rw [J_X12_evenBy_L115]
        intro v e1 v2 e2
        rw [nI_setb (bs_lt _ _) (by omega)] at e1
        rw [nI_1] at e2
        subst e1 e2
        rw [bs, if_pos (hbf.mp h0)] at ih'
        exact ih'
      · rw [J_X12_evenBy_L115]
        intro v e1 v2 e2
        rw [show nI (bs (agF A B P k sd) x) ||| (0 : Int32) = nI (bs (agF A B P k sd) x) from by rw [Int32.or_zero]] at e1
        rw [nI_1] at e2
        subst e1 e2
        rw [bs, if_neg (fun z => h0 (hbf.mpr z)), Nat.add_zero] at ih'
        exact ih'
    have k60 : ∀ b : Int32, (b = 0 ∨ b = 1) → (b = 0 ↔ agF A B P k sd x = true) → J_X12_evenBy_L60 len r Q (J_X12_evenBy_L5 len r Q (m + 1)) i j 37 (nI k) (nI sd) (nI (bs (agF A B P k sd) x)) (nI x) (nI (acr sd (A x) (B x))) b := by
      intro b hb hbf
      rw [J_X12_evenBy_L60]
      refine ⟨_, hg.1 _ (by decide) _ (by decide) _ rfl, by rw [hg.2 _ (by decide)]; exact hv, ?_⟩
      rw [ex, c2, nI_1]
      refine sp_stepsBy hk (by omega) ?_
      rw [ev2 _ m2]
      refine ⟨fun hne => ?_, fun heq => ?_⟩
      · have hne' : od k (P x + 1) ≠ acr sd (A x) (B x) := fun z => hne (by rw [← z]; rfl)
        rw [J_X12_evenBy_L87]
        refine ⟨fun hb0 => ?_, fun hb0 => ⟨fun hh => absurd rfl hh, fun _ => ?_⟩⟩
        · have hf : agF A B P k sd x = false := by
            cases hc : agF A B P k sd x with
            | false => rfl
            | true => exact absurd (hbf.mpr hc) hb0
          exact fin b _ hb rfl hbf (by rw [evr, hf]; rfl)
        · have hf := hbf.mp hb0
          have hu : usF P k x = false := by
            simp [agF] at hf
            simp [usF]
            omega
          rw [hf, hu] at h
          exact h
      · have heq' : od k (P x + 1) = acr sd (A x) (B x) := (nI_eq (by omega) (by omega)).mp heq
        have hgo : J_X12_evenBy_L101 len r Q (J_X12_evenBy_L5 len r Q (m + 1)) i j 37 (nI k) (nI sd) (nI (bs (agF A B P k sd) x)) (nI x) b := by
          refine fin b _ hb rfl hbf ?_
          cases hf : agF A B P k sd x with
          | false => rw [evr, hf]; rfl
          | true =>
            have hu : usF P k x = true := by
              simp [agF] at hf
              simp [usF]
              omega
            rw [evr, hf, hu]
            rfl
        rw [J_X12_evenBy_L87]
        exact ⟨fun _ => hgo, fun _ => ⟨fun _ => hgo, fun hh => absurd hh (by decide)⟩⟩
    refine ⟨fun hne => k60 0 (Or.inl rfl) ⟨fun _ => ?_, fun _ => rfl⟩, fun heq => k60 1 (Or.inr rfl) ⟨fun hh => absurd hh (by decide), fun hf => ?_⟩⟩
    · have : od k (P x) ≠ acr sd (A x) (B x) := fun z => hne (by rw [← z]; rfl)
      simp [agF]
      omega
    · have : od k (P x) = acr sd (A x) (B x) := (nI_eq (by omega) (by omega)).mp heq
      simp [agF, this] at hf
theorem lp_evenM (hg : Gr r len) (tm : TM i ns A B G P fr) (hk : k < 5) (ha : a < 2) : ∀ m sd o, sd + m = 128 → (∀ b, o = some b → b < 1024) → Q (told (evf A B P k ns m sd o) a) i j → J_X12_evenNow_L5 len r Q (m + 1) i j 37 (nI k) (nI a) (bo o) (nI sd) := by
  have hn := tm.2.1
  intro m
  induction m with
  | zero =>
    intro sd o hsd ho h
    have : sd = 128 := by omega
    subst this
    rw [J_X12_evenNow_L5]
    refine ⟨fun _ => ?_, fun hh => absurd (by decide) hh⟩
    cases o with
    | none => exact ⟨fun _ => h, fun hh => absurd rfl hh⟩
    | some b =>
      have hb := ho b rfl
      refine ⟨fun hh => absurd hh (nI_m1 (by omega)), fun _ => ?_⟩
      rcases (show a = 0 ∨ a = 1 by omega) with rfl | rfl
      · exact ⟨fun _ => sp_size hb h, fun hh => absurd hh (by decide)⟩
      · exact ⟨fun hh => absurd (by decide) hh, fun _ => h⟩
  | succ m ih =>
    intro sd o hsd ho h
    have fin : ∀ o', o' = evs (agF A B P k sd) (usF P k) ns o → J_X12_evenNow_L72 len r Q (J_X12_evenNow_L5 len r Q (m + 1)) i j 37 (nI k) (nI a) (bo o') (nI sd) := by
      intro o' ho'
      subst ho'
      rw [J_X12_evenNow_L72]
      intro v e1
      rw [nI_1] at e1
      subst e1
      exact ih (sd + 1) _ (by omega) (evs_lt hn ho) h
    rw [J_X12_evenNow_L5]
    refine ⟨fun hh => absurd hh (nI_ge (b := 128) (by omega) (by decide)), fun _ => ?_⟩
    rw [J_X12_evenBy]
    refine ⟨ns + 1, lp_evenBy hg tm hk (by omega) ns 0 (by omega) ?_⟩
    have hb := bs1024 (ns := ns) (agF A B P k sd) hn
    by_cases hc : evr (agF A B P k sd) (usF P k) ns 0 = true
    · rw [if_pos hc]
      refine ⟨fun hh => absurd hh (nI_m1 (by omega)), fun _ => ?_⟩
      cases o with
      | none =>
        refine ⟨fun hh => absurd rfl hh, fun _ => ?_⟩
        rw [J_X12_evenNow_L47]
        refine ⟨fun _ => ?_, fun hh => absurd (by decide) hh⟩
        rw [J_X12_evenNow_L65, J_X12_evenNow_L71]
        exact fin (some _) (by rw [evs, if_pos hc])
      | some b =>
        have hb2 := ho b rfl
        have p1 := pop_le b
        have p2 := pop_le (bs (agF A B P k sd) ns)
        refine ⟨fun _ => sp_size hb2 (sp_size hb ?_), fun hh => absurd hh (nI_m1 (by omega))⟩
        have dd : ∀ u, u < 11 → ∀ v, v < 11 → ((0 < nI u - nI v) ↔ v < u) ∧ ((nI u - nI v = 0) ↔ v = u) := by decide +kernel
        obtain ⟨d1, d2⟩ := dd (pop b) (by omega) (pop (bs (agF A B P k sd) ns)) (by omega)
        have yes : (pop (bs (agF A B P k sd) ns) < pop b ∨ (pop (bs (agF A B P k sd) ns) = pop b ∧ bs (agF A B P k sd) ns < b)) → J_X12_evenNow_L65 len r Q (J_X12_evenNow_L5 len r Q (m + 1)) i j 37 (nI k) (nI a) (nI sd) (nI (bs (agF A B P k sd) ns)) := by
          intro hy
          rw [J_X12_evenNow_L65, J_X12_evenNow_L71]
          exact fin (some _) (by rw [evs, if_pos hc]; rw [if_pos hy])
        have no : ¬ (pop (bs (agF A B P k sd) ns) < pop b ∨ (pop (bs (agF A B P k sd) ns) = pop b ∧ bs (agF A B P k sd) ns < b)) → J_X12_evenNow_L70 len r Q (J_X12_evenNow_L5 len r Q (m + 1)) i j 37 (nI k) (nI a) (bo (some b)) (nI sd) := by
          intro hy
          rw [J_X12_evenNow_L70, J_X12_evenNow_L71]
          exact fin (some b) (by rw [evs, if_pos hc]; rw [if_neg hy])
        rw [J_X12_evenNow_L47]
        refine ⟨fun h1 => yes (Or.inl (d1.mp h1)), fun h1 => ⟨fun h2 => no (fun z => z.elim (fun z => h1 (d1.mpr z)) (fun z => h2 (d2.mpr z.1))), fun h2 => ?_⟩⟩
        have e2 := d2.mp h2
        refine pk_le b (bs (agF A B P k sd) ns) (fun h3 => no (by omega)) (fun h3 => yes (by omega))
    · rw [if_neg hc]
      exact ⟨fun _ => fin o (by unfold evs; rw [if_neg hc]), fun hh => absurd rfl hh⟩
theorem sp_evenM (hg : Gr r len) (tm : TM i ns A B G P fr) (hk : k < 5) (ha : a < 2) (hQ : Q (told (evn A B P k ns) a) i j) : J_X12_evenNow len r Q i j 37 (nI k) (nI a) := by
  rw [J_X12_evenNow]
  exact ⟨129, lp_evenM hg tm hk ha 128 0 none (by omega) (fun b h => by cases h) hQ⟩
end Even
section EvenOk
variable {len : Nat → Nat} {r : jR} {i : jI} {j : jL} {k : Nat} {y1 y2 : Int32}
theorem ok_18 (hk0 : k ≤ 2560) (hg : Gr r len) (h : Rp k i) : J_X11_even len r (fun q i1 j1 => J_X12_even len r (fun q2 i2 j2 => q = q2 ∧ Rp (k + 5) i2) i1 j1 37 y1 y2) i j 0 y1 y2 := by
  have hR := h.up (k2 := k + 5) (by omega)
  obtain ⟨ns, ng, nt, nw, np, dn, pl, A, B, G, P, fr, h1, h2, h3, h4, h5, h6, h7, h8⟩ := h
  obtain ⟨n1, n2, n3, n4⟩ := h2
  have hn := h1.1.2.1
  rw [J_X11_even]
  rcases out_or y1 (n := 5) (by omega) with ho | ⟨kd, hk, rfl⟩
  · refine kdC_no ho ⟨fun _ => ?_, fun hh => absurd rfl hh⟩
    rw [J_X11_even_L15, J_X12_even]
    exact gM_noK (m := 4) ho (by decide) ⟨fun _ => ⟨rfl, hR⟩, fun hh => absurd rfl hh⟩
  refine kdC_yes hk ⟨fun hh => absurd hh (by decide), fun _ => ?_⟩
  rcases out_or y2 (n := 2) (by omega) with ho | ⟨a, ha, rfl⟩
  · refine gC_no (m := 1) (by decide) ho (bn_f rfl ?_)
    rw [J_X11_even_L15, J_X12_even]
    exact gM_yesK (m := 4) (by omega) (by decide) ⟨fun hh => absurd hh (by decide), fun _ => gM_noK (m := 1) ho (by decide) (bn_f rfl ⟨rfl, hR⟩)⟩
  refine gC_yes (m := 1) (by decide) (by omega) (bn_t (by decide) ?_)
  rw [J_X11_hasTown]
  refine ⟨_, hg.1 _ (by decide) _ (by decide) _ rfl, ?_⟩
  rw [h1.2.1.1]
  by_cases h0 : ns = 0
  · subst h0
    refine ⟨fun _ => bn_f rfl ?_, fun hh => absurd (by decide) hh⟩
    rw [J_X12_even]
    have : nt = 0 := n4.mpr rfl
    subst this
    exact gM_yesK (m := 4) (by omega) (by decide) ⟨fun hh => absurd hh (by decide), fun _ => gM_yesK (m := 1) (by omega) (by decide) (bn_t (by decide) (bn_f (by rw [n1]; decide) ⟨rfl, hR⟩))⟩
  · refine ⟨fun hh => absurd hh (nI_nle (by omega) (by omega)), fun _ => bn_t (by decide) ?_⟩
    refine sp_evenC hg h1.2.1 hk (sp_streetsTold (evn_lt hn) ha ?_)
    rw [J_X12_even]
    refine gM_yesK (m := 4) (by omega) (by decide) ⟨fun hh => absurd hh (by decide), fun _ => gM_yesK (m := 1) (by omega) (by decide) (bn_t (by decide) ⟨fun _ => sp_evenM hg h1.1 hk ha ⟨rfl, hR⟩, fun hh => ?_⟩)⟩
    exfalso
    rw [n1] at hh
    exact nI_ne0 (by omega) (by omega) hh
end EvenOk
