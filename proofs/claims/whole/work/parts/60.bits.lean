/-! the bits of a long -/
def tb (x : Int64) (b : Nat) : Bool := (x.toBitVec.toNat).testBit b
theorem tb_lN {m b : Nat} (hb : b < 64) : tb (lN m) b = m.testBit b := by
  unfold tb
  rw [wb_tb, BitVec.toNat_ofNat, Nat.testBit_mod_two_pow]
  simp [hb]
theorem tb_and (x y : Int64) (b : Nat) : tb (x &&& y) b = (tb x b && tb y b) := by
  unfold tb
  rw [Int64.toBitVec_and, BitVec.toNat_and, Nat.testBit_and]
theorem tb_or (x y : Int64) (b : Nat) : tb (x ||| y) b = (tb x b || tb y b) := by
  unfold tb
  rw [Int64.toBitVec_or, BitVec.toNat_or, Nat.testBit_or]
theorem tb_big (x : Int64) {b : Nat} (hb : 64 ≤ b) : tb x b = false := Nat.testBit_lt_two_pow (Nat.lt_of_lt_of_le x.toBitVec.isLt (Nat.pow_le_pow_right (by decide) hb))
theorem tb_ext {x y : Int64} (h : ∀ b, b < 64 → tb x b = tb y b) : x = y := by
  apply wb_inj
  apply BitVec.eq_of_toNat_eq
  apply Nat.eq_of_testBit_eq
  intro b
  rcases Nat.lt_or_ge b 64 with hb | hb
  · exact h b hb
  · exact (tb_big x hb).trans (tb_big y hb).symm
theorem tb_ushr (x : Int64) {k b : Nat} (hk : k < 64) : tb ((x.toUInt64 >>> ((nI k).toInt64.toUInt64 &&& Int64.toUInt64 63)).toInt64) b = tb x (b + k) := by
  rcases Nat.lt_or_ge b 64 with hb | hb
  · obtain ⟨n, hn, rfl⟩ := wb_of x
    rw [wb_shr hn hk, tb_lN hb, Nat.testBit_div_two_pow]
    show n.testBit (b + k) = (lN n).toBitVec.toNat.testBit (b + k)
    rw [wb_tn hn]
  · rw [tb_big _ hb, tb_big _ (by omega)]
theorem tb_shl (x : Int64) {k b : Nat} (hk : k < 64) (hb : b < 64) : tb (x <<< ((nI k).toInt64 &&& 63)) b = (decide (k ≤ b) && tb x (b - k)) := by
  obtain ⟨n, hn, rfl⟩ := wb_of x
  rw [wb_shl n hk, tb_lN hb, tb_lN (by omega), ← Nat.shiftLeft_eq, Nat.testBit_shiftLeft]
theorem tb_zero (b : Nat) : tb 0 b = false := by
  rcases Nat.lt_or_ge b 64 with hb | hb
  · rw [show (0 : Int64) = lN 0 from rfl, tb_lN hb, Nat.zero_testBit]
  · exact tb_big _ hb
theorem tb_one {k b : Nat} (hk : k < 64) (hb : b < 64) : tb ((1 : Int64) <<< ((nI k).toInt64 &&& 63)) b = decide (b = k) := by
  rw [show (1 : Int64) = lN 1 from rfl, wb_shl 1 hk, tb_lN hb, Nat.one_mul, Nat.testBit_two_pow]
  by_cases h : k = b
  · subst h; simp
  · have : ¬ b = k := fun z => h z.symm
    simp [h, this]
/-- by gate: all marks that have none at it -/
def un4 (g : Nat) : Int64 := if g = 0 then 1229782938247303441 else if g = 1 then 4222189076152335 else 65535
theorem un4_tb : ∀ g, g < 3 → ∀ b, b < 64 → tb (un4 g) b = decide (b / 4 ^ g % 4 = 0) := by decide +kernel
theorem unit4 : ∀ g, g < 3 → (1 : Int32) <<< (((2 : Int32) * nI g) &&& 31) = nI (4 ^ g) := by decide +kernel
/-- marks behind a street that one goes in by: gt 0 none, g + 1 gate g -/
def inmk (gt f b : Nat) : Nat := if gt = 0 then b else b - 4 ^ (gt - 1) * (b / 4 ^ (gt - 1) % 4) + 4 ^ (gt - 1) * (f + 1)
def outok (gt : Nat) (fr : Bool) (f b : Nat) : Bool := decide (gt = 0 ∨ b / 4 ^ (gt - 1) % 4 = f + 1 ∨ (b / 4 ^ (gt - 1) % 4 = 0 ∧ fr = true))
theorem tb_came (x : Int64) {g f c : Nat} (hg : g < 3) (hf : f < 2) (hc : c < 64) : tb ((((x ||| ((x.toUInt64 >>> ((nI (4 ^ g)).toInt64.toUInt64 &&& Int64.toUInt64 63)).toInt64)) ||| ((x.toUInt64 >>> ((nI (2 * 4 ^ g)).toInt64.toUInt64 &&& Int64.toUInt64 63)).toInt64)) &&& un4 g) <<< ((nI (4 ^ g * (f + 1))).toInt64 &&& 63)) c = true ↔ ∃ b, b < 64 ∧ tb x b = true ∧ b / 4 ^ g % 4 < 3 ∧ c = b - 4 ^ g * (b / 4 ^ g % 4) + 4 ^ g * (f + 1) := by
  have h1 : 4 ^ g < 64 ∧ 2 * 4 ^ g < 64 ∧ 4 ^ g * (f + 1) < 64 := by
    rcases (show g = 0 ∨ g = 1 ∨ g = 2 by omega) with rfl | rfl | rfl <;> omega
  rw [tb_shl _ h1.2.2 hc, tb_and, tb_or, tb_or, tb_ushr _ h1.1, tb_ushr _ h1.2.1, un4_tb g hg _ (by omega)]
  rw [Bool.and_eq_true, Bool.and_eq_true, Bool.or_eq_true, Bool.or_eq_true, decide_eq_true_iff, decide_eq_true_iff]
  constructor
  · rintro ⟨a1, a2, a3⟩
    rcases a2 with (a2 | a2) | a2
    · refine ⟨_, ?_, a2, ?_, ?_⟩
      · rcases (show g = 0 ∨ g = 1 ∨ g = 2 by omega) with rfl | rfl | rfl <;> omega
      · omega
      · rw [a3]; omega
    · refine ⟨_, ?_, a2, ?_, ?_⟩
      · rcases (show g = 0 ∨ g = 1 ∨ g = 2 by omega) with rfl | rfl | rfl <;> omega
      · rcases (show g = 0 ∨ g = 1 ∨ g = 2 by omega) with rfl | rfl | rfl <;> omega
      · rcases (show g = 0 ∨ g = 1 ∨ g = 2 by omega) with rfl | rfl | rfl <;> rcases (show f = 0 ∨ f = 1 by omega) with rfl | rfl <;> omega
    · refine ⟨_, ?_, a2, ?_, ?_⟩
      · rcases (show g = 0 ∨ g = 1 ∨ g = 2 by omega) with rfl | rfl | rfl <;> omega
      · rcases (show g = 0 ∨ g = 1 ∨ g = 2 by omega) with rfl | rfl | rfl <;> omega
      · rcases (show g = 0 ∨ g = 1 ∨ g = 2 by omega) with rfl | rfl | rfl <;> rcases (show f = 0 ∨ f = 1 by omega) with rfl | rfl <;> omega
  · rintro ⟨b, b1, b2, b3, b4⟩
    have e : ∀ d, b / 4 ^ g % 4 = d → c - 4 ^ g * (f + 1) + d * 4 ^ g = b := by
      intro d hd
      rcases (show g = 0 ∨ g = 1 ∨ g = 2 by omega) with rfl | rfl | rfl <;> rcases (show f = 0 ∨ f = 1 by omega) with rfl | rfl <;> (subst hd; omega)
    refine ⟨?_, ?_, ?_⟩
    · rcases (show g = 0 ∨ g = 1 ∨ g = 2 by omega) with rfl | rfl | rfl <;> rcases (show f = 0 ∨ f = 1 by omega) with rfl | rfl <;> omega
    · rcases (show b / 4 ^ g % 4 = 0 ∨ b / 4 ^ g % 4 = 1 ∨ b / 4 ^ g % 4 = 2 by omega) with hd | hd | hd
      · have := e _ hd; rw [Nat.zero_mul, Nat.add_zero] at this; rw [this]; exact Or.inl (Or.inl b2)
      · have := e _ hd; rw [Nat.one_mul] at this; rw [this]; exact Or.inl (Or.inr b2)
      · have := e _ hd; rw [this]; exact Or.inr b2
    · rcases (show g = 0 ∨ g = 1 ∨ g = 2 by omega) with rfl | rfl | rfl <;> rcases (show f = 0 ∨ f = 1 by omega) with rfl | rfl <;> omega
theorem tb_let (x : Int64) {g f b : Nat} (fr : Bool) (hg : g < 3) (hf : f < 2) (hb : b < 64) : tb (x &&& (un4 g <<< ((nI (4 ^ g * (f + 1))).toInt64 &&& 63))) b = (tb x b && decide (b / 4 ^ g % 4 = f + 1)) := by
  have h1 : 4 ^ g * (f + 1) < 64 := by
    rcases (show g = 0 ∨ g = 1 ∨ g = 2 by omega) with rfl | rfl | rfl <;> omega
  rw [tb_and, tb_shl _ h1 hb, un4_tb g hg _ (by omega)]
  congr 1
  rw [← Bool.decide_and]
  apply decide_eq_decide.mpr
  rcases (show g = 0 ∨ g = 1 ∨ g = 2 by omega) with rfl | rfl | rfl <;> rcases (show f = 0 ∨ f = 1 by omega) with rfl | rfl <;> omega
section Bits
variable {len : Nat → Nat} {r : jR} {i : jI} {j : jL} {gt f : Nat} {x : Int64} {fr : Bool}
theorem un4_if {g : Nat} (hg : g < 2 ^ 31) : (if (nI g).toNatClampNeg = 0 then (1229782938247303441 : Int64) else if (nI g).toNatClampNeg = 1 then (4222189076152335 : Int64) else (65535 : Int64)) = un4 g := by
  rw [nI_clamp hg]
  rfl
theorem sp_cameIn {Q : Int64 → jI → jL → Prop} (hg : gt ≤ 3) (hf : f < 2) (hQ : ∀ w, (∀ c, c < 64 → (tb w c = true ↔ ∃ b, b < 64 ∧ tb x b = true ∧ (gt = 0 ∨ b / 4 ^ (gt - 1) % 4 < 3) ∧ c = inmk gt f b)) → Q w i j) : J_X6_cameIn len r Q i j x (nI gt - 1) (nI f) := by
  rw [J_X6_cameIn]
  by_cases h0 : gt = 0
  · refine ⟨fun hh => absurd ((gt_eq _ (by omega)).1.mpr h0) hh, fun _ => hQ x (fun c hc => ?_)⟩
    subst h0
    exact ⟨fun h => ⟨c, hc, h, Or.inl rfl, rfl⟩, fun ⟨b, _, h2, _, h4⟩ => by rw [h4]; exact h2⟩
  · refine ⟨fun _ => ?_, fun hh => absurd ((gt_eq _ (by omega)).1.mp hh) h0⟩
    obtain ⟨g, rfl⟩ : ∃ g, gt = g + 1 := ⟨gt - 1, by omega⟩
    rw [nI_pred]
    intro v12 e12
    rw [unit4 g (by omega)] at e12
    subst e12
    refine ⟨vp_in_nI (by omega) (by decide), fun v33 e33 => ?_⟩
    rw [un4_if (by omega), show (2 : Int32) * nI (4 ^ g) = nI (2 * 4 ^ g) from pk_mul 2 _] at e33
    subst e33
    rw [nI_1, pk_mul]
    refine hQ _ (fun c hc => (tb_came x (by omega) hf hc).trans ?_)
    constructor
    · rintro ⟨b, h1, h2, h3, h4⟩
      refine ⟨b, h1, h2, Or.inr h3, ?_⟩
      rw [h4, inmk, if_neg (by omega), Nat.add_sub_cancel]
    · rintro ⟨b, h1, h2, h3, h4⟩
      rw [inmk, if_neg (by omega), Nat.add_sub_cancel] at h4
      rw [Nat.add_sub_cancel] at h3
      exact ⟨b, h1, h2, h3.resolve_left (by omega), h4⟩
theorem sp_letOut {Q : Int64 → jI → jL → Prop} (hg : gt ≤ 3) (hf : f < 2) (hQ : ∀ w, (∀ c, c < 64 → tb w c = (tb x c && outok gt fr f c)) → Q w i j) : J_X6_letOut len r Q i j x (nI gt - 1) (nI f) (if fr = true then 1 else 0) := by
  rw [J_X6_letOut]
  by_cases h0 : gt = 0
  · refine ⟨fun hh => absurd ((gt_eq _ (by omega)).1.mpr h0) hh, fun _ => hQ x (fun c hc => ?_)⟩
    subst h0
    simp [outok]
  · refine ⟨fun _ => ?_, fun hh => absurd ((gt_eq _ (by omega)).1.mp hh) h0⟩
    obtain ⟨g, rfl⟩ : ∃ g, gt = g + 1 := ⟨gt - 1, by omega⟩
    rw [nI_pred]
    intro v12 e12
    rw [unit4 g (by omega)] at e12
    subst e12
    refine ⟨vp_in_nI (by omega) (by decide), fun v26 e26 => ?_⟩
    rw [un4_if (by omega), nI_1, pk_mul] at e26
    subst e26
    cases fr with
    | false =>
      refine ⟨fun _ => ?_, fun hh => absurd rfl hh⟩
      rw [J_X6_letOut_L47]
      refine hQ _ (fun c hc => ?_)
      rw [tb_let x false (by omega) hf hc]
      congr 1
      unfold outok
      apply decide_eq_decide.mpr
      rw [Nat.add_sub_cancel]
      constructor
      · intro h; exact Or.inr (Or.inl h)
      · rintro (h | h | h)
        · omega
        · exact h
        · cases h.2
    | true =>
      refine ⟨fun hh => absurd hh (by decide), fun _ => ⟨vp_in_nI (by omega) (by decide), ?_⟩⟩
      rw [J_X6_letOut_L47, un4_if (by omega)]
      refine hQ _ (fun c hc => ?_)
      have e := tb_let x true (g := g) (by omega) hf hc
      rw [tb_and] at e
      rw [tb_and, tb_or, Bool.and_or_distrib_left, e, un4_tb g (by omega) c hc, ← Bool.and_or_distrib_left, ← Bool.decide_or]
      congr 1
      unfold outok
      apply decide_eq_decide.mpr
      rw [Nat.add_sub_cancel]
      constructor
      · rintro (h | h)
        · exact Or.inr (Or.inl h)
        · exact Or.inr (Or.inr ⟨h, rfl⟩)
      · rintro (h | h | h)
        · omega
        · exact Or.inl h
        · exact Or.inr h.1
end Bits
