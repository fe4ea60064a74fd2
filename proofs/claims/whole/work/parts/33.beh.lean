/-! one step through a street, on both sides -/
/-- the reference's town -/
def TM (i : jI) (ns : Nat) (A B G P : Nat → Nat) (fr : Bool) : Prop := i 37 0 = nI ns ∧ ns ≤ 10 ∧ i 37 6 = (if fr = true then 1 else 0) ∧ ∀ s, s < ns → (i 38 s = nI (A s) ∧ i 39 s = nI (B s) ∧ i 40 s = nI (P s) ∧ i 41 s = nI (G s) - 1) ∧ A s < 7 ∧ B s < 7 ∧ A s ≠ B s ∧ P s < 11 ∧ G s ≤ 3
/-- the class's town -/
def TC (i : jI) (ns : Nat) (A B G P : Nat → Nat) (fr : Bool) : Prop := i 3 0 = nI ns ∧ ns ≤ 10 ∧ i 3 2 = (if fr = true then 1 else 0) ∧ ∀ s, s < ns → (i 4 s = nI (A s) ∧ i 5 s = nI (B s) ∧ i 6 s = nI (P s) ∧ i 7 s = nI (G s) - 1) ∧ A s < 7 ∧ B s < 7 ∧ A s ≠ B s ∧ P s < 11 ∧ G s ≤ 3
theorem ev2 : ∀ q, q < 64 → nI q - nI q / (2 : Int32) * (2 : Int32) = nI (q % 2) := by decide +kernel
theorem ft2 : ∀ f, f < 2 → ∀ t, t < 2 → (nI f + nI t) - (nI f + nI t) / (2 : Int32) * (2 : Int32) = nI ((f + t) % 2) := by decide +kernel
theorem fx2 : ∀ f, f < 2 → ∀ t, t < 2 → nI f ^^^ nI t = nI ((f + t) % 2) := by decide +kernel
theorem mv_n : ∀ st, st < 378 → ∀ p, p < 7 → ∀ f, f < 2 → ((nI st - nI (st % 7)) - ((7 : Int32) * nI (st / 7 % 2))) + ((7 : Int32) * nI f) + nI p = nI (mmv st p f) := by decide +kernel
theorem mg_n : ∀ st, st < 378 → ∀ p, p < 7 → ∀ f, f < 2 → ∀ g, g < 3 → nI (mmv st p f) + nI (mwt g) * (nI f - (nI (mmark st g) - 1)) = nI (mmv st p f - mwt g * mmark st g + mwt g * (f + 1)) := by decide +kernel
theorem mk_eq : ∀ a, a < 3 → ∀ f, f < 2 → ((nI a - 1 = nI f ↔ a = f + 1) ∧ (nI a - 1 = (-1 : Int32) ↔ a = 0)) := by decide +kernel
theorem gt_eq : ∀ g, g < 4 → ((nI g - 1 = (-1 : Int32) ↔ g = 0) ∧ (0 < g → nI g - 1 = nI (g - 1))) := by decide +kernel
theorem mst_lt : ∀ k, k < 5 → ∀ p, p < 16 → mstep k p < 64 := by decide +kernel
theorem mtn_lt (k p : Nat) : mturn k p < 2 := by unfold mturn; split <;> omega
theorem mmk_lt (st g : Nat) : mmark st g < 3 := Nat.mod_lt _ (by decide)
section Beh
variable {len : Nat → Nat} {r : jR} {Q : Int32 → jI → jL → Prop} {i : jI} {j : jL} {st s k ns : Nat} {A B G P : Nat → Nat} {fr : Bool}
theorem sp_isAtM (hg : Gr r len) (tm : TM i ns A B G P fr) (hst : st < 378) (hs : s < ns) (hQ : Q (if A s = st % 7 ∨ B s = st % 7 then 1 else 0) i j) : J_X12_isAt len r Q i j 37 (nI st) (nI s) := by
  obtain ⟨-, hn, -, ht⟩ := tm
  obtain ⟨⟨eA, eB, eP, eG⟩, hA, hB, hAB, hP, hG⟩ := ht s hs
  have ec : (nI s).toNatClampNeg = s := nI_clamp (by omega)
  have hv : vp_in (nI s) 10 := vp_in_nI (by omega) (by decide)
  rw [J_X12_isAt]
  refine ⟨_, hg.1 _ (by decide) _ (by decide) _ rfl, by rw [hg.2 _ (by decide)]; exact hv, sp_placeIn hst ?_⟩
  rw [ec, eA]
  by_cases h1 : A s = st % 7
  · rw [if_pos (Or.inl h1)] at hQ
    exact ⟨fun _ => hQ, fun h => absurd (by rw [h1]) h⟩
  · refine ⟨fun h => absurd ((nI_eq (by omega) (by omega)).mp h) h1, fun _ => ⟨_, hg.1 _ (by decide) _ (by decide) _ rfl, by rw [hg.2 _ (by decide)]; exact hv, sp_placeIn hst ?_⟩⟩
    rw [eB]
    by_cases h2 : B s = st % 7
    · rw [if_pos (Or.inr h2)] at hQ
      exact bn_f (by rw [h2]) hQ
    · rw [if_neg (fun h => h.elim h1 h2)] at hQ
      exact bn_t (fun h => h2 ((nI_eq (by omega) (by omega)).mp h)) hQ
theorem sp_behM (hg : Gr r len) (tm : TM i ns A B G P fr) (hk : k < 5) (hst : st < 378) (hs : s < ns) (hQ : Q (so (mbeh A B G (fun s => mturn k (P s)) fr st s)) i j) : J_X12_behind len r Q i j 37 (nI k) (nI st) (nI s) := by
  obtain ⟨-, hn, hf, ht⟩ := id tm
  obtain ⟨⟨eA, eB, eP, eG⟩, hA, hB, hAB, hP, hG⟩ := ht s hs
  have ec : (nI s).toNatClampNeg = s := nI_clamp (by omega)
  have hv : vp_in (nI s) 10 := vp_in_nI (by omega) (by decide)
  have hf2 : st / 7 % 2 < 2 := Nat.mod_lt _ (by decide)
  have ht2 := mtn_lt k (P s)
  have hff : (st / 7 % 2 + mturn k (P s)) % 2 < 2 := Nat.mod_lt _ (by decide)
  have e7 : (st / 7 + mturn k (P s)) % 2 = (st / 7 % 2 + mturn k (P s)) % 2 := by omega
  -- from the foot on
  have k52 : ∀ x4 : Int32, (x4 = 0 ∨ x4 = 1) → (x4 = 0 → A s ≠ st % 7 ∧ B s = st % 7) → (x4 = 1 → A s = st % 7) → J_X12_behind_L52 len r Q i j 37 (nI st) (nI s) x4 (nI (mturn k (P s))) := by
    intro x4 hx4 h0 h1
    rw [J_X12_behind_L52]
    refine sp_footIn hst ?_
    intro v63 e63
    rw [ft2 _ hf2 _ ht2] at e63
    refine ⟨_, hg.1 _ (by decide) _ (by decide) _ rfl, by rw [hg.2 _ (by decide)]; exact hv, ?_⟩
    intro v71 e71
    rw [ec, eG] at e71
    refine sp_placeIn hst (sp_footIn hst ?_)
    subst e63
    subst e71
    rcases hx4 with rfl | rfl
    · obtain ⟨hna, hb⟩ := h0 rfl
      refine ⟨fun _ => ⟨_, hg.1 _ (by decide) _ (by decide) _ rfl, by rw [hg.2 _ (by decide)]; exact hv, ?_⟩, fun h => absurd rfl h⟩
      rw [ec, eA, J_X12_behind_L113]
      intro v114 e114
      rw [mv_n st hst _ hA _ hff] at e114
      subst e114
      by_cases hg0 : G s = 0
      · refine bn_f ((gt_eq _ (by omega)).1.mpr hg0) ?_
        simp only [mbeh, if_neg hna, if_pos hb, if_pos hg0, so, e7] at hQ
        exact hQ
      · refine bn_t (fun h => hg0 ((gt_eq _ (by omega)).1.mp h)) ?_
        rw [(gt_eq _ (by omega)).2 (by omega)]
        refine sp_markIn hst (by omega) ?_
        obtain ⟨m1, m2⟩ := mk_eq _ (mmk_lt st (G s - 1)) _ hff
        simp only [mbeh, if_neg hna, if_pos hb, if_neg hg0, e7] at hQ
        refine ⟨fun _ => ?_, fun h => absurd rfl h⟩
        by_cases hm : mmark st (G s - 1) = (st / 7 % 2 + mturn k (P s)) % 2 + 1
        · rw [if_pos (Or.inl hm)] at hQ
          exact ⟨fun _ => hQ, fun h => absurd (m1.mpr hm) h⟩
        · refine ⟨fun h => absurd (m1.mp h) hm, fun _ => ?_⟩
          by_cases hz : mmark st (G s - 1) = 0
          · refine bn_f (m2.mpr hz) ?_
            rw [hf]
            cases fr with
            | true =>
              rw [if_pos (Or.inr ⟨hz, rfl⟩)] at hQ
              exact ⟨fun h => absurd h (by decide), fun _ => hQ⟩
            | false =>
              rw [if_neg (fun h => h.elim hm (fun h => by cases h.2))] at hQ
              exact ⟨fun _ => hQ, fun h => absurd (by decide) h⟩
          · rw [if_neg (fun h => h.elim hm (fun h => hz h.1))] at hQ
            exact bn_t (fun h => hz (m2.mp h)) hQ
    · have ha := h1 rfl
      refine ⟨fun h => absurd h (by decide), fun _ => ⟨_, hg.1 _ (by decide) _ (by decide) _ rfl, by rw [hg.2 _ (by decide)]; exact hv, ?_⟩⟩
      rw [ec, eB, J_X12_behind_L113]
      intro v114 e114
      rw [mv_n st hst _ hB _ hff] at e114
      subst e114
      by_cases hg0 : G s = 0
      · refine bn_f ((gt_eq _ (by omega)).1.mpr hg0) ?_
        simp only [mbeh, if_pos ha, if_pos hg0, so, e7] at hQ
        exact hQ
      · refine bn_t (fun h => hg0 ((gt_eq _ (by omega)).1.mp h)) ?_
        rw [(gt_eq _ (by omega)).2 (by omega)]
        refine sp_markIn hst (by omega) ?_
        simp only [mbeh, if_pos ha, if_neg hg0, so, e7] at hQ
        refine ⟨fun h => absurd h (by decide), fun _ => sp_weight (by omega) ?_⟩
        rw [mg_n st hst _ hB _ hff _ (by omega)]
        exact hQ
  have k29 : ∀ x4 : Int32, (x4 = 0 ∨ x4 = 1) → (x4 = 0 → A s ≠ st % 7 ∧ B s = st % 7) → (x4 = 1 → A s = st % 7) → J_X12_behind_L29 len r Q i j 37 (nI k) (nI st) (nI s) x4 := by
    intro x4 hx4 h0 h1
    have h52 := k52 x4 hx4 h0 h1
    rw [J_X12_behind_L29]
    by_cases h3 : k = 3
    · have e : mturn k (P s) = 0 := by simp [mturn, h3]
      rw [e] at h52
      exact bn_f ((k3 k hk).mpr h3) h52
    · refine bn_t (fun z => h3 ((k3 k hk).mp z)) ⟨_, hg.1 _ (by decide) _ (by decide) _ rfl, by rw [hg.2 _ (by decide)]; exact hv, ?_⟩
      rw [ec, eP]
      refine sp_stepsBy hk (by omega) ?_
      rw [ev2 _ (mst_lt k hk _ (by omega))]
      have e : mturn k (P s) = mstep k (P s) % 2 := by simp [mturn, h3]
      rw [e] at h52
      exact h52
  rw [J_X12_behind]
  refine sp_isAtM hg tm hst hs ?_
  by_cases hat : A s = st % 7 ∨ B s = st % 7
  · rw [if_pos hat]
    refine bn_t (by decide) ⟨_, hg.1 _ (by decide) _ (by decide) _ rfl, by rw [hg.2 _ (by decide)]; exact hv, sp_placeIn hst ?_⟩
    rw [ec, eA]
    by_cases ha : A s = st % 7
    · exact bn_f (by rw [ha]) (k29 1 (Or.inr rfl) (fun h => absurd h (by decide)) (fun _ => ha))
    · exact bn_t (fun h => ha ((nI_eq (by omega) (by omega)).mp h)) (k29 0 (Or.inl rfl) (fun _ => ⟨ha, hat.resolve_left ha⟩) (fun h => absurd h (by decide)))
  · rw [if_neg hat]
    simp only [mbeh, if_neg (fun h => hat (Or.inl h)), if_neg (fun h => hat (Or.inr h)), so] at hQ
    exact bn_f rfl hQ
end Beh
