/-! guards: is a number within its range? -/
def Out (x : Int32) (n : Nat) : Prop := x < 0 ∨ nI n ≤ x
theorem out_or (x : Int32) {n : Nat} (hn : n < 2 ^ 31) : Out x n ∨ ∃ a : Nat, a < n ∧ x = nI a := by
  rcases pk_ix x hn with h | h | h
  · exact Or.inl (Or.inl h)
  · exact Or.inl (Or.inr h)
  · exact Or.inr h
theorem i32_lt_of_not_le {x y : Int32} (h : ¬ x ≤ y) : y < x := Int32.not_le.mp h
theorem i32_le_of_not_lt {x y : Int32} (h : ¬ x < y) : y ≤ x := Int32.not_lt.mp h
theorem nI_succ_le {x : Int32} {m : Nat} (hm : m + 1 < 2 ^ 31) : nI (m + 1) ≤ x ↔ nI m < x := by
  rw [Int32.le_iff_toInt_le, Int32.lt_iff_toInt_lt, nI_toInt hm, nI_toInt (by omega)]
  omega
theorem nI_pred_lt {x : Int32} {m : Nat} (hm : m < 2 ^ 31) : nI m - 1 < x ↔ nI m ≤ x := by
  have e : (nI m - 1 : Int32).toInt = (m : Int) - 1 := by
    by_cases h : m < 2 ^ 30
    · exact pk_sub_toInt (a := m) (b := 1) h (by decide)
    · have h1 : nI m - 1 = nI (m - 1) := by
        have := nI_pred (m - 1)
        rwa [show m - 1 + 1 = m by omega] at this
      rw [h1, nI_toInt (by omega)]
      omega
  rw [Int32.le_iff_toInt_le, Int32.lt_iff_toInt_lt, nI_toInt hm, e]
  omega
section Guard
variable {len : Nat → Nat} {r : jR} {Q : Int32 → jI → jL → Prop} {i : jI} {j : jL} {x : Int32} {a m n : Nat}
theorem gC_no (hm : m + 1 < 2 ^ 31) (h : Out x (m + 1)) (hQ : Q 0 i j) : J_X11_isWithin len r Q i j x (nI m) := by
  rw [J_X11_isWithin]
  by_cases h0 : x < 0
  · exact ⟨fun _ => hQ, fun h => absurd h0 h⟩
  · exact ⟨fun h => absurd h h0, fun _ => ⟨fun _ => hQ, fun h2 => absurd ((nI_succ_le hm).mp (h.resolve_left h0)) h2⟩⟩
theorem gC_yes (hm : m < 2 ^ 31) (ha : a ≤ m) (hQ : Q 1 i j) : J_X11_isWithin len r Q i j (nI a) (nI m) := by
  rw [J_X11_isWithin]
  exact ⟨fun h => absurd h (nI_pos (by omega)), fun _ => ⟨fun h => absurd h (nI_nlt ha hm), fun _ => hQ⟩⟩
theorem gM_no (h : Out x n) (hn : n < 2 ^ 31) (hQ : Q 0 i j) : J_X12_within len r Q i j x 0 (nI n - 1) := by
  rw [J_X12_within]
  by_cases h0 : x < 0
  · exact ⟨fun _ => hQ, fun h => absurd h0 h⟩
  · exact ⟨fun h => absurd h h0, fun _ => ⟨fun _ => hQ, fun h2 => absurd ((nI_pred_lt hn).mpr (h.resolve_left h0)) h2⟩⟩
theorem gM_yes (ha : a < n) (hn : n < 2 ^ 31) (hQ : Q 1 i j) : J_X12_within len r Q i j (nI a) 0 (nI n - 1) := by
  rw [J_X12_within]
  refine ⟨fun h => absurd h (nI_pos (by omega)), fun _ => ⟨fun h => absurd ((nI_pred_lt hn).mp h) (nI_ge ha hn), fun _ => hQ⟩⟩
theorem gM_noK (h : Out x (m + 1)) (hm : m + 1 < 2 ^ 31) (hQ : Q 0 i j) : J_X12_within len r Q i j x 0 (nI m) := by
  have e := nI_pred m
  rw [← e]
  exact gM_no h hm hQ
theorem gM_yesK (ha : a ≤ m) (hm : m + 1 < 2 ^ 31) (hQ : Q 1 i j) : J_X12_within len r Q i j (nI a) 0 (nI m) := by
  have e := nI_pred m
  rw [← e]
  exact gM_yes (by omega) hm hQ
theorem stC_no (hg : Gr r len) (hn : n < 2 ^ 31) (e : i 3 0 = nI n) (h : Out x n) (hQ : Q 0 i j) : J_X11_isStreet len r Q i j 0 x := by
  rw [J_X11_isStreet]
  by_cases h0 : x < 0
  · exact ⟨fun _ => hQ, fun h => absurd h0 h⟩
  · refine ⟨fun h => absurd h h0, fun _ => ⟨_, hg.1 _ (by decide) _ (by decide) _ rfl, ?_⟩⟩
    rw [e]
    exact ⟨fun _ => hQ, fun h2 => absurd (h.resolve_left h0) h2⟩
theorem stC_yes (hg : Gr r len) (hn : n < 2 ^ 31) (e : i 3 0 = nI n) (ha : a < n) (hQ : Q 1 i j) : J_X11_isStreet len r Q i j 0 (nI a) := by
  rw [J_X11_isStreet]
  refine ⟨fun h => absurd h (nI_pos (by omega)), fun _ => ⟨_, hg.1 _ (by decide) _ (by decide) _ rfl, ?_⟩⟩
  rw [e]
  exact ⟨fun h => absurd h (nI_ge ha hn), fun _ => hQ⟩
theorem wkC_no (hn : n < 2 ^ 31) (e : i 0 3 = nI n) (h : Out x n) (hQ : Q 0 i j) : J_X11_isWalker len r Q i j 0 x := by
  rw [J_X11_isWalker]
  by_cases h0 : x < 0
  · exact ⟨fun _ => hQ, fun h => absurd h0 h⟩
  · refine ⟨fun h => absurd h h0, fun _ => ?_⟩
    rw [e]
    exact ⟨fun _ => hQ, fun h2 => absurd (h.resolve_left h0) h2⟩
theorem wkC_yes (hn : n < 2 ^ 31) (e : i 0 3 = nI n) (ha : a < n) (hQ : Q 1 i j) : J_X11_isWalker len r Q i j 0 (nI a) := by
  rw [J_X11_isWalker]
  refine ⟨fun h => absurd h (nI_pos (by omega)), fun _ => ?_⟩
  rw [e]
  exact ⟨fun h => absurd h (nI_ge ha hn), fun _ => hQ⟩
theorem stM_no (hn : n < 2 ^ 31) (e : i 37 0 = nI n) (h : Out x n) (hQ : Q 0 i j) : J_X12_isStreet len r Q i j 37 x := by
  rw [J_X12_isStreet, e]
  exact gM_no h hn ⟨Or.inl rfl, hQ⟩
theorem stM_yes (hn : n < 2 ^ 31) (e : i 37 0 = nI n) (ha : a < n) (hQ : Q 1 i j) : J_X12_isStreet len r Q i j 37 (nI a) := by
  rw [J_X12_isStreet, e]
  exact gM_yes ha hn ⟨Or.inr rfl, hQ⟩
theorem wkM_no (hn : n < 2 ^ 31) (e : i 37 8 = nI n) (h : Out x n) (hQ : Q 0 i j) : J_X12_isWalker len r Q i j 37 x := by
  rw [J_X12_isWalker, e]
  exact gM_no h hn ⟨Or.inl rfl, hQ⟩
theorem wkM_yes (hn : n < 2 ^ 31) (e : i 37 8 = nI n) (ha : a < n) (hQ : Q 1 i j) : J_X12_isWalker len r Q i j 37 (nI a) := by
  rw [J_X12_isWalker, e]
  exact gM_yes ha hn ⟨Or.inr rfl, hQ⟩
theorem plC_no (h : Out x 7) (hQ : Q 0 i j) : J_X11_isPlace len r Q i j x := gC_no (m := 6) (by decide) h ⟨Or.inl rfl, hQ⟩
theorem plC_yes (ha : a < 7) (hQ : Q 1 i j) : J_X11_isPlace len r Q i j (nI a) := gC_yes (m := 6) (by decide) (by omega) ⟨Or.inr rfl, hQ⟩
theorem kdC_no (h : Out x 5) (hQ : Q 0 i j) : J_X11_isKind len r Q i j x := gC_no (m := 4) (by decide) h ⟨Or.inl rfl, hQ⟩
theorem kdC_yes (ha : a < 5) (hQ : Q 1 i j) : J_X11_isKind len r Q i j (nI a) := gC_yes (m := 4) (by decide) (by omega) ⟨Or.inr rfl, hQ⟩
theorem plM_no (h : Out x 7) (hQ : Q 0 i j) : J_X12_isPlace len r Q i j x := gM_noK (m := 6) h (by decide) ⟨Or.inl rfl, hQ⟩
theorem plM_yes (ha : a < 7) (hQ : Q 1 i j) : J_X12_isPlace len r Q i j (nI a) := gM_yesK (m := 6) (by omega) (by decide) ⟨Or.inr rfl, hQ⟩
end Guard
