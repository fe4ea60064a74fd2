section BehC
variable {len : Nat → Nat} {r : jR} {Q : Int32 → jI → jL → Prop} {i : jI} {j : jL} {st s k t p ns : Nat} {A B G P : Nat → Nat} {fr : Bool}
theorem sp_isAtC (hg : Gr r len) (tc : TC i ns A B G P fr) (hp : p < 7) (hs : s < ns) (hQ : Q (if A s = p ∨ B s = p then 1 else 0) i j) : J_X8_isAt len r Q i j 3 (nI s) (nI p) := by
  obtain ⟨-, hn, -, ht⟩ := tc
  obtain ⟨⟨eA, eB, eP, eG⟩, hA, hB, hAB, hP, hG⟩ := ht s hs
  have ec : (nI s).toNatClampNeg = s := nI_clamp (by omega)
  have hv : vp_in (nI s) 10 := vp_in_nI (by omega) (by decide)
  rw [J_X8_isAt]
  refine ⟨_, hg.1 _ (by decide) _ (by decide) _ rfl, by rw [hg.2 _ (by decide)]; exact hv, ?_⟩
  rw [ec, eA]
  by_cases h1 : A s = p
  · rw [if_pos (Or.inl h1)] at hQ
    exact ⟨fun _ => hQ, fun h => absurd (by rw [h1]) h⟩
  · refine ⟨fun h => absurd ((nI_eq (by omega) (by omega)).mp h) h1, fun _ => ⟨_, hg.1 _ (by decide) _ (by decide) _ rfl, by rw [hg.2 _ (by decide)]; exact hv, ?_⟩⟩
    rw [eB]
    by_cases h2 : B s = p
    · rw [if_pos (Or.inr h2)] at hQ
      exact bn_f (by rw [h2]) hQ
    · rw [if_neg (fun h => h.elim h1 h2)] at hQ
      exact bn_t (fun h => h2 ((nI_eq (by omega) (by omega)).mp h)) hQ
theorem sp_behC (hg : Gr r len) (tc : TC i ns A B G P fr) (ht2 : t < 2) (hst : st < 378) (hs : s < ns) (hQ : Q (eo (mbeh A B G (fun _ => t) fr st s)) i j) : J_X8_behind len r Q i j 3 (nI (enc st)) (nI s) (nI t) := by
  obtain ⟨-, hn, hf, ht⟩ := id tc
  obtain ⟨⟨eA, eB, eP, eG⟩, hA, hB, hAB, hP, hG⟩ := ht s hs
  have ec : (nI s).toNatClampNeg = s := nI_clamp (by omega)
  have hv : vp_in (nI s) 10 := vp_in_nI (by omega) (by decide)
  have hf2 : st / 7 % 2 < 2 := Nat.mod_lt _ (by decide)
  have hff : (st / 7 % 2 + t) % 2 < 2 := Nat.mod_lt _ (by decide)
  have e7 : (st / 7 + t) % 2 = (st / 7 % 2 + t) % 2 := by omega
  have hp7 : st % 7 < 7 := Nat.mod_lt _ (by decide)
  rw [J_X8_behind]
  refine sp_placeOf hst (sp_isAtC hg tc hp7 hs ?_)
  by_cases hat : A s = st % 7 ∨ B s = st % 7
  · rw [if_pos hat]
    refine bn_t (by decide) (sp_footOf hst ?_)
    intro v24 e24
    rw [fx2 _ hf2 _ ht2] at e24
    subst e24
    rw [J_X7_marksOf]
    refine ⟨_, hg.1 _ (by decide) _ (by decide) _ rfl, by rw [hg.2 _ (by decide)]; exact hv, ?_⟩
    intro v38 e38
    rw [ec, eG] at e38
    subst e38
    refine ⟨_, hg.1 _ (by decide) _ (by decide) _ rfl, by rw [hg.2 _ (by decide)]; exact hv, ?_⟩
    rw [ec, eA]
    by_cases ha : A s = st % 7
    · refine bn_f (by rw [ha]) ⟨_, hg.1 _ (by decide) _ (by decide) _ rfl, by rw [hg.2 _ (by decide)]; exact hv, ?_⟩
      rw [eB]
      by_cases hg0 : G s = 0
      · refine bn_f ((gt_eq _ (by omega)).1.mpr hg0) ?_
        simp only [mbeh, if_pos ha, if_pos hg0, eo, e7] at hQ
        rw [J_X8_behind_L79, J_X7_of, enc_of st hst _ hB _ hff]
        exact hQ
      · refine bn_t (fun h => hg0 ((gt_eq _ (by omega)).1.mp h)) ?_
        rw [(gt_eq _ (by omega)).2 (by omega)]
        simp only [mbeh, if_pos ha, if_neg hg0, eo, e7] at hQ
        rw [J_X7_marked, J_X8_behind_L79, J_X7_of, enc_marked st hst _ hB _ hff _ (by omega)]
        exact hQ
    · have hb := hat.resolve_left ha
      refine bn_t (fun h => ha ((nI_eq (by omega) (by omega)).mp h).symm) ?_
      have k106 : Q (nI (enc (mmv st (A s) ((st / 7 % 2 + t) % 2)))) i j → J_X8_behind_L106 len r Q i j 3 (nI s) (nI ((st / 7 % 2 + t) % 2)) (nI (enc st) &&& 63) := by
        intro h
        rw [J_X8_behind_L106]
        refine ⟨_, hg.1 _ (by decide) _ (by decide) _ rfl, by rw [hg.2 _ (by decide)]; exact hv, ?_⟩
        rw [ec, eA, J_X7_of, enc_of st hst _ hA _ hff]
        exact h
      by_cases hg0 : G s = 0
      · simp only [mbeh, if_neg ha, if_pos hb, if_pos hg0, eo, e7] at hQ
        exact ⟨fun _ => k106 hQ, fun h => absurd ((gt_eq _ (by omega)).1.mpr hg0) h⟩
      · refine ⟨fun h => absurd ((gt_eq _ (by omega)).1.mp h) hg0, fun _ => ?_⟩
        rw [(gt_eq _ (by omega)).2 (by omega)]
        refine sp_markOf hst (by omega) ?_
        obtain ⟨m1, m2⟩ := mk_eq _ (mmk_lt st (G s - 1)) _ hff
        simp only [mbeh, if_neg ha, if_pos hb, if_neg hg0, e7] at hQ
        rw [J_X8_isLetOut]
        by_cases hz : mmark st (G s - 1) = 0
        · refine bn_f (m2.mpr hz) ?_
          rw [hf]
          cases fr with
          | true =>
            rw [if_pos (Or.inr ⟨hz, rfl⟩)] at hQ
            exact ⟨Or.inr rfl, bn_t (by decide) (k106 hQ)⟩
          | false =>
            have hm : ¬ mmark st (G s - 1) = (st / 7 % 2 + t) % 2 + 1 := by omega
            rw [if_neg (fun h => h.elim hm (fun h => by cases h.2))] at hQ
            exact ⟨Or.inl rfl, bn_f (by decide) hQ⟩
        · refine bn_t (fun h => hz (m2.mp h)) ?_
          by_cases hm : mmark st (G s - 1) = (st / 7 % 2 + t) % 2 + 1
          · rw [if_pos (Or.inl hm)] at hQ
            exact bn_f (m1.mpr hm) (bn_t (by decide) (k106 hQ))
          · rw [if_neg (fun h => h.elim hm (fun h => hz h.1))] at hQ
            exact bn_t (fun h => hm (m1.mp h)) (bn_f rfl hQ)
  · rw [if_neg hat]
    simp only [mbeh, if_neg (fun h => hat (Or.inl h)), if_neg (fun h => hat (Or.inr h)), eo] at hQ
    exact bn_f rfl hQ
/-- where a step leads, one stands -/
theorem mbeh_lt {T : Nat → Nat} {st2 : Nat} (hst : st < 378) (hA : A s < 7) (hB : B s < 7) (hG : G s ≤ 3) (h : mbeh A B G T fr st s = some st2) : st2 < 378 := by
  have hff : (st / 7 + T s) % 2 < 2 := Nat.mod_lt _ (by decide)
  unfold mbeh at h
  split at h
  · split at h
    · cases h; exact mmv_lt st hst _ hB _ hff
    · cases h; exact mgt_lt st hst _ hB _ hff _ (by omega)
  · split at h
    · split at h
      · cases h; exact mmv_lt st hst _ hA _ hff
      · split at h
        · cases h; exact mmv_lt st hst _ hA _ hff
        · cases h
    · cases h
end BehC
