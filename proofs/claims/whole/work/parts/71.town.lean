/-! THE PAGE read as a town. State behind q letters: 0 at a first place, 1 at a second, 2 at paces, 3 behind paces, 4 behind a gate, 5 at f, 6 at the end, 7 wrong -/
def nxt5 (m c : Nat) : Nat := if c = 44 ∧ m < 10 then 0 else if c = 59 then 5 else 7
def nxt4 (s m g prev c : Nat) : Nat :=
  if s = 0 then (if 48 ≤ c ∧ c < 55 then 1 else 7)
  else if s = 1 then (if (48 ≤ c ∧ c < 55) ∧ c ≠ prev then 2 else 7)
  else if s = 2 then (if 48 ≤ c ∧ c < 58 then 3 else 7)
  else if s = 3 then (if c = 33 then (if g < 3 then 4 else 7) else nxt5 m c)
  else if s = 4 then nxt5 m c
  else if s = 5 then (if c = 102 then 6 else 7)
  else 7
def pS (C : Nat → Nat) : Nat → Nat × Nat × Nat
  | 0 => (0, 0, 0)
  | q + 1 => (nxt4 (pS C q).1 (pS C q).2.1 (pS C q).2.2 (C (q - 1)) (C q), (if (pS C q).1 = 2 then (pS C q).2.1 + 1 else (pS C q).2.1), (if (pS C q).1 = 3 ∧ C q = 33 then (pS C q).2.2 + 1 else (pS C q).2.2))
abbrev ss (C : Nat → Nat) (q : Nat) : Nat := (pS C q).1
abbrev sm (C : Nat → Nat) (q : Nat) : Nat := (pS C q).2.1
abbrev sg (C : Nat → Nat) (q : Nat) : Nat := (pS C q).2.2
theorem ss_1 (C : Nat → Nat) (q : Nat) : ss C (q + 1) = nxt4 (ss C q) (sm C q) (sg C q) (C (q - 1)) (C q) := rfl
theorem sm_1 (C : Nat → Nat) (q : Nat) : sm C (q + 1) = if ss C q = 2 then sm C q + 1 else sm C q := rfl
theorem sg_1 (C : Nat → Nat) (q : Nat) : sg C (q + 1) = if ss C q = 3 ∧ C q = 33 then sg C q + 1 else sg C q := rfl
def dA (C : Nat → Nat) : Nat → Nat → Nat
  | 0 => fun _ => 0
  | q + 1 => if ss C q = 0 then sU (dA C q) (sm C q) (C q - 48) else dA C q
def dB (C : Nat → Nat) : Nat → Nat → Nat
  | 0 => fun _ => 0
  | q + 1 => if ss C q = 1 then sU (dB C q) (sm C q) (C q - 48) else dB C q
def dPc (C : Nat → Nat) : Nat → Nat → Nat
  | 0 => fun _ => 0
  | q + 1 => if ss C q = 2 then sU (dPc C q) (sm C q) (C q - 48) else dPc C q
def dGt (C : Nat → Nat) : Nat → Nat → Nat
  | 0 => fun _ => 0
  | q + 1 => if ss C q = 2 then sU (dGt C q) (sm C q) 0 else if ss C q = 3 ∧ C q = 33 then sU (dGt C q) (sm C q - 1) (sg C q + 1) else dGt C q
theorem dA_1 (C : Nat → Nat) (q : Nat) : dA C (q + 1) = if ss C q = 0 then sU (dA C q) (sm C q) (C q - 48) else dA C q := rfl
theorem dB_1 (C : Nat → Nat) (q : Nat) : dB C (q + 1) = if ss C q = 1 then sU (dB C q) (sm C q) (C q - 48) else dB C q := rfl
theorem dPc_1 (C : Nat → Nat) (q : Nat) : dPc C (q + 1) = if ss C q = 2 then sU (dPc C q) (sm C q) (C q - 48) else dPc C q := rfl
theorem dGt_1 (C : Nat → Nat) (q : Nat) : dGt C (q + 1) = if ss C q = 2 then sU (dGt C q) (sm C q) 0 else if ss C q = 3 ∧ C q = 33 then sU (dGt C q) (sm C q - 1) (sg C q + 1) else dGt C q := rfl
/-- what holds behind letters that a town may have -/
def tI (C : Nat → Nat) (q : Nat) : Prop := ss C q ≤ 6 ∧ sm C q ≤ 10 ∧ (ss C q ≤ 2 → sm C q < 10) ∧ sg C q ≤ 3 ∧ (3 ≤ ss C q → 0 < sm C q) ∧ (∀ t, t < sm C q → dA C q t < 7 ∧ dB C q t < 7 ∧ dA C q t ≠ dB C q t ∧ dPc C q t ≤ 9 ∧ dGt C q t ≤ sg C q) ∧ ((ss C q = 1 ∨ ss C q = 2) → dA C q (sm C q) < 7) ∧ (ss C q = 2 → dB C q (sm C q) < 7 ∧ dA C q (sm C q) ≠ dB C q (sm C q)) ∧ (ss C q = 1 → 0 < q ∧ C (q - 1) = dA C q (sm C q) + 48) ∧ (∀ t t', t < sm C q → t' < sm C q → dGt C q t = dGt C q t' → dGt C q t ≠ 0 → t = t') ∧ (ss C q = 3 → dGt C q (sm C q - 1) = 0) ∧ (∀ g, g < sg C q → ∃ t, t < sm C q ∧ dGt C q t = g + 1)
theorem nxt5_le (m c : Nat) (h : nxt5 m c ≠ 7) : (nxt5 m c = 0 ∧ c = 44 ∧ m < 10) ∨ (nxt5 m c = 5 ∧ c = 59) := by
  unfold nxt5 at h ⊢
  by_cases h1 : c = 44 ∧ m < 10
  · rw [if_pos h1]; exact Or.inl ⟨rfl, h1⟩
  · rw [if_neg h1] at h ⊢
    by_cases h2 : c = 59
    · rw [if_pos h2]; exact Or.inr ⟨rfl, h2⟩
    · rw [if_neg h2] at h; exact absurd rfl h
section TI
variable {C : Nat → Nat} {q : Nat}
theorem st_0 (h : ss C q = 0) : ss C (q + 1) = (if 48 ≤ C q ∧ C q < 55 then 1 else 7) ∧ sm C (q + 1) = sm C q ∧ sg C (q + 1) = sg C q ∧ dA C (q + 1) = sU (dA C q) (sm C q) (C q - 48) ∧ dB C (q + 1) = dB C q ∧ dPc C (q + 1) = dPc C q ∧ dGt C (q + 1) = dGt C q := by
  rw [ss_1, sm_1, sg_1, dA_1, dB_1, dPc_1, dGt_1, h]
  simp [nxt4]
theorem st_1 (h : ss C q = 1) : ss C (q + 1) = (if (48 ≤ C q ∧ C q < 55) ∧ C q ≠ C (q - 1) then 2 else 7) ∧ sm C (q + 1) = sm C q ∧ sg C (q + 1) = sg C q ∧ dA C (q + 1) = dA C q ∧ dB C (q + 1) = sU (dB C q) (sm C q) (C q - 48) ∧ dPc C (q + 1) = dPc C q ∧ dGt C (q + 1) = dGt C q := by
  rw [ss_1, sm_1, sg_1, dA_1, dB_1, dPc_1, dGt_1, h]
  simp [nxt4]
theorem st_2 (h : ss C q = 2) : ss C (q + 1) = (if 48 ≤ C q ∧ C q < 58 then 3 else 7) ∧ sm C (q + 1) = sm C q + 1 ∧ sg C (q + 1) = sg C q ∧ dA C (q + 1) = dA C q ∧ dB C (q + 1) = dB C q ∧ dPc C (q + 1) = sU (dPc C q) (sm C q) (C q - 48) ∧ dGt C (q + 1) = sU (dGt C q) (sm C q) 0 := by
  rw [ss_1, sm_1, sg_1, dA_1, dB_1, dPc_1, dGt_1, h]
  simp [nxt4]
theorem st_3g (h : ss C q = 3) (hc : C q = 33) : ss C (q + 1) = (if sg C q < 3 then 4 else 7) ∧ sm C (q + 1) = sm C q ∧ sg C (q + 1) = sg C q + 1 ∧ dA C (q + 1) = dA C q ∧ dB C (q + 1) = dB C q ∧ dPc C (q + 1) = dPc C q ∧ dGt C (q + 1) = sU (dGt C q) (sm C q - 1) (sg C q + 1) := by
  rw [ss_1, sm_1, sg_1, dA_1, dB_1, dPc_1, dGt_1, h, hc]
  simp [nxt4]
theorem st_34 (h : (ss C q = 3 ∧ C q ≠ 33) ∨ ss C q = 4) : ss C (q + 1) = nxt5 (sm C q) (C q) ∧ sm C (q + 1) = sm C q ∧ sg C (q + 1) = sg C q ∧ dA C (q + 1) = dA C q ∧ dB C (q + 1) = dB C q ∧ dPc C (q + 1) = dPc C q ∧ dGt C (q + 1) = dGt C q := by
  rw [ss_1, sm_1, sg_1, dA_1, dB_1, dPc_1, dGt_1]
  rcases h with ⟨h, hc⟩ | h
  · rw [h]; simp [nxt4, hc]
  · rw [h]; simp [nxt4]
theorem st_56 (h : ss C q = 5 ∨ ss C q = 6) : ss C (q + 1) = (if ss C q = 5 ∧ C q = 102 then 6 else 7) ∧ sm C (q + 1) = sm C q ∧ sg C (q + 1) = sg C q ∧ dA C (q + 1) = dA C q ∧ dB C (q + 1) = dB C q ∧ dPc C (q + 1) = dPc C q ∧ dGt C (q + 1) = dGt C q := by
  rw [ss_1, sm_1, sg_1, dA_1, dB_1, dPc_1, dGt_1]
  rcases h with h | h
  · rw [h]; simp [nxt4]
  · rw [h]; simp [nxt4]
theorem tI_0 : tI C 0 := by
  have e0 : ss C 0 = 0 := rfl
  have e1 : sm C 0 = 0 := rfl
  have e2 : sg C 0 = 0 := rfl
  unfold tI
  rw [e0, e1, e2]
  exact ⟨by decide, by decide, fun _ => by decide, by decide, fun z => by omega, fun t ht => by omega, fun z => by omega, fun z => by omega, fun z => by omega, fun t t' ht => by omega, fun z => by omega, fun g hg => by omega⟩
theorem tI_1 (h : tI C q) (hn : ss C (q + 1) ≠ 7) : tI C (q + 1) := by
  obtain ⟨i1, i2, i3, i4, i5, i6, i7, i8, i9, i10, i11, i12⟩ := h
  rcases (show ss C q = 0 ∨ ss C q = 1 ∨ ss C q = 2 ∨ ss C q = 3 ∨ ss C q = 4 ∨ ss C q = 5 ∨ ss C q = 6 by omega) with h | h | h | h | h | h | h
  · obtain ⟨e1, e2, e3, e4, e5, e6, e7⟩ := st_0 h
    have hc : 48 ≤ C q ∧ C q < 55 := by
      by_cases hc : 48 ≤ C q ∧ C q < 55
      · exact hc
      · rw [e1, if_neg hc] at hn; exact absurd rfl hn
    rw [if_pos hc] at e1
    unfold tI
    rw [e1, e2, e3, e4, e5, e6, e7]
    refine ⟨by decide, i2, fun _ => i3 (by omega), i4, fun z => by omega, fun t ht => ?_, fun _ => ?_, fun z => by omega, fun _ => ⟨by omega, ?_⟩, i10, fun z => by omega, i12⟩
    · rw [sU_ne (by omega)]; exact i6 t ht
    · rw [sU_eq]; omega
    · rw [sU_eq, Nat.add_sub_cancel]; omega
  · obtain ⟨e1, e2, e3, e4, e5, e6, e7⟩ := st_1 h
    have hc : (48 ≤ C q ∧ C q < 55) ∧ C q ≠ C (q - 1) := by
      by_cases hc : (48 ≤ C q ∧ C q < 55) ∧ C q ≠ C (q - 1)
      · exact hc
      · rw [e1, if_neg hc] at hn; exact absurd rfl hn
    rw [if_pos hc] at e1
    have i9' := i9 h
    unfold tI
    rw [e1, e2, e3, e4, e5, e6, e7]
    refine ⟨by decide, i2, fun _ => i3 (by omega), i4, fun z => by omega, fun t ht => ?_, fun _ => i7 (Or.inl h), fun _ => ?_, fun z => by omega, i10, fun z => by omega, i12⟩
    · rw [sU_ne (by omega)]; exact i6 t ht
    · rw [sU_eq]; omega
  · obtain ⟨e1, e2, e3, e4, e5, e6, e7⟩ := st_2 h
    have hc : 48 ≤ C q ∧ C q < 58 := by
      by_cases hc : 48 ≤ C q ∧ C q < 58
      · exact hc
      · rw [e1, if_neg hc] at hn; exact absurd rfl hn
    rw [if_pos hc] at e1
    have i3' := i3 (by omega)
    have i7' := i7 (Or.inr h)
    have i8' := i8 h
    unfold tI
    rw [e1, e2, e3, e4, e5, e6, e7]
    refine ⟨by decide, by omega, fun z => by omega, i4, fun _ => by omega, fun t ht => ?_, fun z => by omega, fun z => by omega, fun z => by omega, fun t t' ht ht' he hz => ?_, fun _ => ?_, fun g hg => ?_⟩
    · by_cases e : t = sm C q
      · subst e; rw [sU_eq, sU_eq]; exact ⟨i7', i8'.1, i8'.2, by omega, Nat.zero_le _⟩
      · rw [sU_ne e, sU_ne e]; exact i6 t (by omega)
    · by_cases e : t = sm C q
      · subst e; rw [sU_eq] at hz; exact absurd rfl hz
      · by_cases e' : t' = sm C q
        · subst e'; rw [he, sU_eq] at hz; exact absurd rfl hz
        · rw [sU_ne e] at he hz
          rw [sU_ne e'] at he
          exact i10 t t' (by omega) (by omega) he hz
    · rw [Nat.add_sub_cancel, sU_eq]
    · obtain ⟨t, ht, e⟩ := i12 g hg
      exact ⟨t, by omega, by rw [sU_ne (by omega)]; exact e⟩
  · by_cases hc : C q = 33
    · obtain ⟨e1, e2, e3, e4, e5, e6, e7⟩ := st_3g h hc
      have hg3 : sg C q < 3 := by
        by_cases hg3 : sg C q < 3
        · exact hg3
        · rw [e1, if_neg hg3] at hn; exact absurd rfl hn
      rw [if_pos hg3] at e1
      have i5' := i5 (by omega)
      unfold tI
      rw [e1, e2, e3, e4, e5, e6, e7]
      refine ⟨by decide, i2, fun z => by omega, by omega, fun _ => i5', fun t ht => ?_, fun z => by omega, fun z => by omega, fun z => by omega, fun t t' ht ht' he hz => ?_, fun z => by omega, fun g hg => ?_⟩
      · obtain ⟨a1, a2, a3, a4, a5⟩ := i6 t ht
        refine ⟨a1, a2, a3, a4, ?_⟩
        by_cases e : t = sm C q - 1
        · subst e; rw [sU_eq]; exact Nat.le_refl _
        · rw [sU_ne e]; omega
      · by_cases e : t = sm C q - 1
        · by_cases e' : t' = sm C q - 1
          · omega
          · subst e
            rw [sU_eq, sU_ne e'] at he
            have := (i6 t' ht').2.2.2.2
            omega
        · by_cases e' : t' = sm C q - 1
          · subst e'
            rw [sU_eq, sU_ne e] at he
            have := (i6 t ht).2.2.2.2
            omega
          · rw [sU_ne e] at he hz
            rw [sU_ne e'] at he
            exact i10 t t' ht ht' he hz
      · by_cases e : g = sg C q
        · subst e; exact ⟨sm C q - 1, by omega, sU_eq⟩
        · obtain ⟨t, ht, e2⟩ := i12 g (by omega)
          refine ⟨t, ht, ?_⟩
          rw [sU_ne (fun z => ?_)]
          · exact e2
          · rw [z, i11 h] at e2; omega
    · obtain ⟨e1, e2, e3, e4, e5, e6, e7⟩ := st_34 (Or.inl ⟨h, hc⟩)
      have i5' := i5 (by omega)
      rw [e1] at hn
      rcases nxt5_le _ _ hn with ⟨z, -, zm⟩ | ⟨z, -⟩
      · rw [z] at e1
        unfold tI
        rw [e1, e2, e3, e4, e5, e6, e7]
        exact ⟨by decide, i2, fun _ => zm, i4, fun z => by omega, i6, fun z => by omega, fun z => by omega, fun z => by omega, i10, fun z => by omega, i12⟩
      · rw [z] at e1
        unfold tI
        rw [e1, e2, e3, e4, e5, e6, e7]
        exact ⟨by decide, i2, fun z => by omega, i4, fun _ => i5', i6, fun z => by omega, fun z => by omega, fun z => by omega, i10, fun z => by omega, i12⟩
  · obtain ⟨e1, e2, e3, e4, e5, e6, e7⟩ := st_34 (Or.inr h)
    have i5' := i5 (by omega)
    rw [e1] at hn
    rcases nxt5_le _ _ hn with ⟨z, -, zm⟩ | ⟨z, -⟩
    · rw [z] at e1
      unfold tI
      rw [e1, e2, e3, e4, e5, e6, e7]
      exact ⟨by decide, i2, fun _ => zm, i4, fun z => by omega, i6, fun z => by omega, fun z => by omega, fun z => by omega, i10, fun z => by omega, i12⟩
    · rw [z] at e1
      unfold tI
      rw [e1, e2, e3, e4, e5, e6, e7]
      exact ⟨by decide, i2, fun z => by omega, i4, fun _ => i5', i6, fun z => by omega, fun z => by omega, fun z => by omega, i10, fun z => by omega, i12⟩
  · obtain ⟨e1, e2, e3, e4, e5, e6, e7⟩ := st_56 (Or.inl h)
    have i5' := i5 (by omega)
    have hc : ss C q = 5 ∧ C q = 102 := by
      by_cases hc : ss C q = 5 ∧ C q = 102
      · exact hc
      · rw [e1, if_neg hc] at hn; exact absurd rfl hn
    rw [if_pos hc] at e1
    unfold tI
    rw [e1, e2, e3, e4, e5, e6, e7]
    exact ⟨by decide, i2, fun z => by omega, i4, fun _ => i5', i6, fun z => by omega, fun z => by omega, fun z => by omega, i10, fun z => by omega, i12⟩
  · obtain ⟨e1, -⟩ := st_56 (Or.inr h)
    rw [e1, if_neg (by omega)] at hn
    exact absurd rfl hn
end TI
/-- where the first wrong letter is -/
def fau (C : Nat → Nat) (pl f : Nat) : Prop := f ≤ pl ∧ (∀ q, q ≤ f → ss C q ≠ 7) ∧ (f < pl → ss C (f + 1) = 7)
theorem fau_eq {C : Nat → Nat} {pl f f' : Nat} (h : fau C pl f) (h' : fau C pl f') : f = f' := by
  rcases Nat.lt_trichotomy f f' with e | e | e
  · exact absurd (h.2.2 (by have := h'.1; omega)) (h'.2.1 (f + 1) (by omega))
  · exact e
  · exact absurd (h'.2.2 (by have := h.1; omega)) (h.2.1 (f' + 1) (by omega))
theorem nI_cmp {c k : Nat} (hc : c < 127) (hk : k < 127) : (nI c < nI k ↔ c < k) ∧ (nI c ≤ nI k ↔ c ≤ k) ∧ (nI c = nI k ↔ c = k) := ⟨nI_ltI (by omega) (by omega), nI_leI (by omega) (by omega), nI_eq (by omega) (by omega)⟩
section PageC
variable {len : Nat → Nat} {r : jR} {i : jI} {j : jL} {C : Nat → Nat} {q pl : Nat}
theorem sp_sign {Q : Int32 → jI → jL → Prop} {c : Nat} (hc : c < 127) (hQ : Q (if 48 ≤ c ∧ c < 55 then 1 else 0) i j) : J_X5_isPlaceSign len r Q i j (nI c) := by
  rw [J_X5_isPlaceSign]
  refine pk_lt c 48 (fun h => ?_) (fun h => pk_le 55 c (fun h2 => ?_) (fun h2 => ?_))
  · rw [J_X5_isPlaceSign_L16]; rw [if_neg (by omega)] at hQ; exact hQ
  · rw [J_X5_isPlaceSign_L16]; rw [if_neg (by omega)] at hQ; exact hQ
  · rw [if_pos ⟨h, h2⟩] at hQ; exact hQ
theorem sp_street5 {Q : Int32 → jI → jL → Prop} {c m : Nat} (hc : c < 127) (hm : m ≤ 11) (e3 : i 1 3 = nI m) (hQ : Q (nI (nxt5 m c)) i j) : J_X5_phaseBehindStreet len r Q i j 1 (nI c) := by
  have l17 : ¬ (c = 44 ∧ m < 10) → J_X5_phaseBehindStreet_L17 len r Q i j (nI c) := by
    intro hn
    rw [J_X5_phaseBehindStreet_L17]
    unfold nxt5 at hQ
    rw [if_neg hn] at hQ
    by_cases h2 : c = 59
    · subst h2
      exact ⟨fun hh => absurd (by decide) hh, fun _ => hQ⟩
    · rw [if_neg h2] at hQ
      exact ⟨fun _ => hQ, fun hh => absurd ((nI_eq (b := 59) (by omega) (by decide)).mp hh) h2⟩
  rw [J_X5_phaseBehindStreet, e3]
  refine ⟨fun hne => l17 (fun z => hne (by rw [z.1]; decide)), fun heq => pk_le 10 m (fun h => l17 (fun z => by omega)) (fun h => ?_)⟩
  have h44 : c = 44 := (nI_eq (b := 44) (by omega) (by decide)).mp heq
  unfold nxt5 at hQ
  rw [if_pos ⟨h44, h⟩] at hQ
  exact hQ
/-- only the page's own cells -/
def pF (i i' : jI) : Prop := ∀ x f, ¬ (x = 1 ∧ (f = 2 ∨ f = 3 ∨ f = 4)) → i' x f = i x f
theorem pF.rf : pF i i := fun _ _ _ => rfl
theorem pF.tr {i i1 i2 : jI} (h1 : pF i i1) (h2 : pF i1 i2) : pF i i2 := fun x f h => (h2 x f h).trans (h1 x f h)
theorem sp_phase {Q : Int32 → jI → jL → Prop} (hg : Gr r len) (hq : q < pl) (hpl : pl ≤ 50) (hC : ∀ q, q < pl → i 2 q = nI (C q) ∧ C q < 127) (ht : tI C q) (e2 : i 1 2 = nI (ss C q)) (e3 : i 1 3 = nI (sm C q)) (e4 : i 1 4 = nI (sg C q)) (hQ : ∀ i', pF i i' → i' 1 3 = nI (sm C (q + 1)) → i' 1 4 = nI (sg C (q + 1)) → Q (nI (ss C (q + 1))) i' j) : J_X5_phaseBehind len r Q i j 1 (nI q) := by
  obtain ⟨hc1, hc2⟩ := hC q hq
  have ec : (nI q).toNatClampNeg = q := nI_clamp (by omega)
  have hv : vp_in (nI q) 50 := vp_in_nI (by omega) (by decide)
  obtain ⟨i1, i2, i3, i4, i5, i6, i7, i8, i9, i10, i11, i12⟩ := ht
  rw [J_X5_phaseBehind, ec]
  refine ⟨2, hg.1 _ (by decide) _ (by decide) _ rfl, by rw [hg.2 _ (by decide)]; exact hv, fun v ev => ?_⟩
  rw [hc1] at ev
  subst ev
  rw [e2]
  have no : ∀ k, k < 8 → ss C q ≠ k → ¬ nI (ss C q) = nI k := fun k hk hn hh => hn ((nI_eq (by omega) (by omega)).mp hh)
  rcases (show ss C q = 0 ∨ ss C q = 1 ∨ ss C q = 2 ∨ ss C q = 3 ∨ ss C q = 4 ∨ ss C q = 5 ∨ ss C q = 6 by omega) with h | h | h | h | h | h | h
  · obtain ⟨f1, f2, f3, -⟩ := st_0 h
    have hQ' := hQ i pF.rf (by rw [f2]; exact e3) (by rw [f3]; exact e4)
    refine ⟨fun _ => sp_sign hc2 ?_, fun z => absurd z (no 1 (by decide) (by omega)), fun z => absurd z (no 2 (by decide) (by omega)), fun z => absurd z (no 3 (by decide) (by omega)), fun z => absurd z (no 4 (by decide) (by omega)), fun z => absurd z (no 5 (by decide) (by omega)), fun z => absurd (by rw [h]; decide) z⟩
    rw [f1] at hQ'
    by_cases hc : 48 ≤ C q ∧ C q < 55
    · rw [if_pos hc] at hQ' ⊢
      exact ⟨fun hh => absurd hh (by decide), fun _ => hQ'⟩
    · rw [if_neg hc] at hQ' ⊢
      exact ⟨fun _ => hQ', fun hh => absurd rfl hh⟩
  · obtain ⟨f1, f2, f3, -⟩ := st_1 h
    have hQ' := hQ i pF.rf (by rw [f2]; exact e3) (by rw [f3]; exact e4)
    obtain ⟨g1, g2⟩ := i9 h
    have hq1 := hC (q - 1) (by omega)
    rw [f1] at hQ'
    refine ⟨fun z => absurd z (no 0 (by decide) (by omega)), fun _ => ⟨fun hh => absurd hh (nI_nle (by omega) (by omega)), fun _ => sp_sign hc2 ?_⟩, fun z => absurd z (no 2 (by decide) (by omega)), fun z => absurd z (no 3 (by decide) (by omega)), fun z => absurd z (no 4 (by decide) (by omega)), fun z => absurd z (no 5 (by decide) (by omega)), fun _ z => absurd (by rw [h]; decide) z⟩
    by_cases hc : 48 ≤ C q ∧ C q < 55
    · rw [if_pos hc]
      have ep : nI q - (1 : Int32) = nI (q - 1) := by
        have := nI_pred (q - 1)
        rw [show q - 1 + 1 = q by omega] at this
        exact this
      refine ⟨fun hh => absurd hh (by decide), fun _ => ⟨2, hg.1 _ (by decide) _ (by decide) _ rfl, ?_⟩⟩
      rw [ep, nI_clamp (by omega)]
      refine ⟨by rw [hg.2 _ (by decide)]; exact vp_in_nI (show q - 1 < 50 by omega) (by decide), ?_⟩
      rw [hq1.1]
      refine ⟨fun heq => ?_, fun hne => ?_⟩
      · have := (nI_cmp hc2 hq1.2).2.2.mp heq
        rw [J_X5_phaseBehind_L89]
        rw [if_neg (fun z => z.2 this)] at hQ'
        exact hQ'
      · rw [if_pos ⟨hc, fun z => hne (by rw [z])⟩] at hQ'
        exact hQ'
    · rw [if_neg hc]
      rw [if_neg (fun z => hc z.1)] at hQ'
      refine ⟨fun _ => ?_, fun hh => absurd rfl hh⟩
      rw [J_X5_phaseBehind_L89]
      exact hQ'
  · obtain ⟨f1, f2, f3, -⟩ := st_2 h
    refine ⟨fun z => absurd z (no 0 (by decide) (by omega)), fun z => absurd z (no 1 (by decide) (by omega)), fun _ i1 ei1 => ?_, fun z => absurd z (no 3 (by decide) (by omega)), fun z => absurd z (no 4 (by decide) (by omega)), fun z => absurd z (no 5 (by decide) (by omega)), fun _ _ z => absurd (by rw [h]; decide) z⟩
    rw [e3, nI_1] at ei1
    have hQ' := hQ i1 (fun x f hx => by
      rw [ei1]
      by_cases e : x = 1
      · subst e; rw [ju_eq, pk_un (fun z => hx ⟨rfl, Or.inr (Or.inl z)⟩)]
      · rw [ju_ne e]) (by rw [ei1, ju_eq, pk_us, f2]) (by rw [ei1, ju_eq, pk_un (by decide), f3]; exact e4)
    rw [f1] at hQ'
    refine pk_lt (C q) 48 (fun hlt => ?_) (fun hge => pk_lt 57 (C q) (fun hgt => ?_) (fun hle => ?_))
    · rw [J_X5_phaseBehind_L118]; rw [if_neg (by omega)] at hQ'; exact hQ'
    · rw [J_X5_phaseBehind_L118]; rw [if_neg (by omega)] at hQ'; exact hQ'
    · rw [if_pos (by omega)] at hQ'; exact hQ'
  · refine ⟨fun z => absurd z (no 0 (by decide) (by omega)), fun z => absurd z (no 1 (by decide) (by omega)), fun z => absurd z (no 2 (by decide) (by omega)), fun _ => ⟨fun hne => ?_, fun heq => ?_⟩, fun z => absurd z (no 4 (by decide) (by omega)), fun z => absurd z (no 5 (by decide) (by omega)), fun _ _ _ z => absurd (by rw [h]; decide) z⟩
    · have hc : C q ≠ 33 := fun z => hne (by rw [z]; decide)
      obtain ⟨f1, f2, f3, -⟩ := st_34 (Or.inl ⟨h, hc⟩)
      have hQ' := hQ i pF.rf (by rw [f2]; exact e3) (by rw [f3]; exact e4)
      rw [f1] at hQ'
      exact sp_street5 hc2 (by omega) e3 hQ'
    · have hc : C q = 33 := (nI_eq (b := 33) (by omega) (by decide)).mp heq
      obtain ⟨f1, f2, f3, -⟩ := st_3g h hc
      rw [J_X5_phaseBehindGate]
      intro i1 ei1
      rw [e4, nI_1] at ei1
      have e14 : i1 1 4 = nI (sg C q + 1) := by rw [ei1, ju_eq, pk_us]
      have hQ' := hQ i1 (fun x f hx => by
        rw [ei1]
        by_cases e : x = 1
        · subst e; rw [ju_eq, pk_un (fun z => hx ⟨rfl, Or.inr (Or.inr z)⟩)]
        · rw [ju_ne e]) (by rw [ei1, ju_eq, pk_un (by decide), f2]; exact e3) (by rw [f3]; exact e14)
      rw [f1] at hQ'
      rw [e14]
      refine pk_lt 3 (sg C q + 1) (fun hgt => ?_) (fun hle => ?_)
      · rw [if_neg (by omega)] at hQ'; exact hQ'
      · rw [if_pos (by omega)] at hQ'; exact hQ'
  · refine ⟨fun z => absurd z (no 0 (by decide) (by omega)), fun z => absurd z (no 1 (by decide) (by omega)), fun z => absurd z (no 2 (by decide) (by omega)), fun z => absurd z (no 3 (by decide) (by omega)), fun _ => ?_, fun z => absurd z (no 5 (by decide) (by omega)), fun _ _ _ _ z => absurd (by rw [h]; decide) z⟩
    obtain ⟨f1, f2, f3, -⟩ := st_34 (Or.inr h)
    have hQ' := hQ i pF.rf (by rw [f2]; exact e3) (by rw [f3]; exact e4)
    rw [f1] at hQ'
    exact sp_street5 hc2 (by omega) e3 hQ'
  · obtain ⟨f1, f2, f3, -⟩ := st_56 (Or.inl h)
    have hQ' := hQ i pF.rf (by rw [f2]; exact e3) (by rw [f3]; exact e4)
    rw [f1] at hQ'
    refine ⟨fun z => absurd z (no 0 (by decide) (by omega)), fun z => absurd z (no 1 (by decide) (by omega)), fun z => absurd z (no 2 (by decide) (by omega)), fun z => absurd z (no 3 (by decide) (by omega)), fun z => absurd z (no 4 (by decide) (by omega)), fun _ => ⟨fun hne => ?_, fun heq => ?_⟩, fun _ _ _ _ _ z => absurd (by rw [h]; decide) z⟩
    · rw [if_neg (fun z => hne (by rw [z.2]; decide))] at hQ'; exact hQ'
    · rw [if_pos ⟨h, (nI_eq (b := 102) (by omega) (by decide)).mp heq⟩] at hQ'; exact hQ'
  · obtain ⟨f1, f2, f3, -⟩ := st_56 (Or.inr h)
    have hQ' := hQ i pF.rf (by rw [f2]; exact e3) (by rw [f3]; exact e4)
    rw [f1, if_neg (by omega)] at hQ'
    exact ⟨fun z => absurd z (no 0 (by decide) (by omega)), fun z => absurd z (no 1 (by decide) (by omega)), fun z => absurd z (no 2 (by decide) (by omega)), fun z => absurd z (no 3 (by decide) (by omega)), fun z => absurd z (no 4 (by decide) (by omega)), fun z => absurd z (no 5 (by decide) (by omega)), fun _ _ _ _ _ _ => hQ'⟩
theorem lp_readable {Q : Int32 → jI → jL → Prop} {i0 : jI} (hg : Gr r len) (hpl : pl ≤ 50) (epl : i0 1 1 = nI pl) (hC : ∀ q, q < pl → i0 2 q = nI (C q) ∧ C q < 127) (hQ : ∀ i' f, fau C pl f → (f = pl → i' 1 2 = nI (ss C pl) ∧ tI C pl) → pF i0 i' → Q (nI f) i' j) : ∀ (m q : Nat) (i : jI), q + m = pl → (∀ t, t ≤ q → ss C t ≠ 7) → tI C q → i 1 2 = nI (ss C q) → i 1 3 = nI (sm C q) → i 1 4 = nI (sg C q) → pF i0 i → J_X5_readable_L17 len r Q (m + 1) i j 1 (nI q) := by
  intro m
  induction m with
  | zero =>
    intro q i hq hok ht e2 e3 e4 hf
    have hq' : q = pl := by omega
    subst hq'
    rw [J_X5_readable_L17]
    dsimp only
    rw [(hf 1 1 (by omega)).trans epl]
    exact ⟨fun _ => hQ i q ⟨Nat.le_refl _, hok, fun z => by omega⟩ (fun _ => ⟨e2, ht⟩) hf, fun hh => absurd (nI_le (Nat.le_refl _) (by omega)) hh⟩
  | succ m ih =>
    intro q i hq hok ht e2 e3 e4 hf
    rw [J_X5_readable_L17]
    dsimp only
    rw [(hf 1 1 (by omega)).trans epl]
    refine ⟨fun hh => absurd hh (nI_ge (by omega) (by omega)), fun _ => ?_⟩
    refine sp_phase (pl := pl) hg (by omega) hpl (fun q hq => ⟨(hf 2 q (by omega)).trans (hC q hq).1, (hC q hq).2⟩) ht e2 e3 e4 (fun i1 f1 e13 e14 i2 ei2 => ?_)
    have e22 : i2 1 2 = nI (ss C (q + 1)) := by rw [ei2, ju_eq, pk_us]
    have f2 : pF i0 i2 := fun x f hx => by
      rw [ei2]
      by_cases e : x = 1
      · subst e; rw [ju_eq, pk_un (fun z => hx ⟨rfl, Or.inl z⟩), f1 _ _ hx]; exact hf _ _ hx
      · rw [ju_ne e, f1 _ _ hx]; exact hf _ _ hx
    rw [e22]
    by_cases h7 : ss C (q + 1) = 7
    · refine ⟨fun hh => absurd (by rw [h7]; decide) hh, fun _ => hQ i2 q ⟨by omega, hok, fun _ => h7⟩ (fun z => by omega) f2⟩
    · have ht1 := tI_1 ht h7
      have hle := ht1.1
      refine ⟨fun _ v ev => ?_, fun hh => absurd ((nI_eq (b := 7) (by omega) (by decide)).mp hh) h7⟩
      rw [nI_1] at ev
      subst ev
      refine ih (q + 1) i2 (by omega) (fun t ht' => ?_) ht1 e22 (by rw [ei2, ju_eq, pk_un (by decide)]; exact e13) (by rw [ei2, ju_eq, pk_un (by decide)]; exact e14) f2
      by_cases e : t = q + 1
      · subst e; exact h7
      · exact hok t (by omega)
theorem sp_readable {Q : Int32 → jI → jL → Prop} (hg : Gr r len) (hpl : pl ≤ 50) (epl : i 1 1 = nI pl) (hC : ∀ q, q < pl → i 2 q = nI (C q) ∧ C q < 127) (hQ : ∀ i' f, fau C pl f → (f = pl → i' 1 2 = nI (ss C pl) ∧ tI C pl) → pF i i' → Q (nI f) i' j) : J_X5_readable len r Q i j 1 := by
  rw [J_X5_readable]
  intro i1 e1 i2 e2 i3 e3
  have f3 : pF i i3 := fun x f hx => by
    rw [e3]
    by_cases e : x = 1
    · subst e
      rw [ju_eq, pk_un (fun z => hx ⟨rfl, Or.inr (Or.inr z)⟩), e2, ju_eq, pk_un (fun z => hx ⟨rfl, Or.inr (Or.inl z)⟩), e1, ju_eq, pk_un (fun z => hx ⟨rfl, Or.inl z⟩)]
    · rw [ju_ne e, e2, ju_ne e, e1, ju_ne e]
  exact ⟨pl + 1, lp_readable hg hpl ((f3 1 1 (by omega)).trans epl) (fun q hq => ⟨(f3 2 q (by omega)).trans (hC q hq).1, (hC q hq).2⟩) (fun i' f h1 h2 h3 => hQ i' f h1 h2 (f3.tr h3)) pl 0 i3 (by omega) (fun t ht => by
    have : t = 0 := by omega
    subst this
    show (0 : Nat) ≠ 7
    decide) tI_0 (by rw [e3, ju_eq, pk_un (by decide), e2, ju_eq, pk_un (by decide), e1, ju_eq, pk_us]; rfl) (by rw [e3, ju_eq, pk_un (by decide), e2, ju_eq, pk_us]; rfl) (by rw [e3, ju_eq, pk_us]; rfl) pF.rf⟩
end PageC
