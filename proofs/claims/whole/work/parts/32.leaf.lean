/-! leaves: what the small methods answer, in plain numbers -/
theorem bn_t {c A B : Prop} (h : ¬ c) (a : A) : (¬ c → A) ∧ (c → B) := ⟨fun _ => a, fun x => absurd x h⟩
theorem bn_f {c A B : Prop} (h : c) (b : B) : (¬ c → A) ∧ (c → B) := ⟨fun x => absurd h x, fun _ => b⟩
section Leaf
variable {len : Nat → Nat} {r : jR} {Q : Int32 → jI → jL → Prop} {i : jI} {j : jL} {st g p f k : Nat}
theorem sp_placeOf (h : st < 378) (hQ : Q (nI (st % 7)) i j) : J_X7_placeOf len r Q i j (nI (enc st)) := by rw [J_X7_placeOf, enc_place st h]; exact hQ
theorem sp_footOf (h : st < 378) (hQ : Q (nI (st / 7 % 2)) i j) : J_X7_footOf len r Q i j (nI (enc st)) := by rw [J_X7_footOf, enc_foot st h]; exact hQ
theorem sp_markOf (h : st < 378) (hg : g < 3) (hQ : Q (nI (mmark st g) - 1) i j) : J_X7_markOf len r Q i j (nI (enc st)) (nI g) := by rw [J_X7_markOf, enc_mark st h g hg]; exact hQ
theorem sp_skipped (h : st < 378) (hQ : Q (nI (enc (mmv st (st % 7) (1 - st / 7 % 2)))) i j) : J_X7_skipped len r Q i j (nI (enc st)) := by rw [J_X7_skipped, enc_skip st h]; exact hQ
theorem st_place : ∀ st, st < 378 → nI st - nI st / (7 : Int32) * (7 : Int32) = nI (st % 7) := by decide +kernel
theorem st_foot : ∀ st, st < 378 → (nI st / (7 : Int32)) - (nI st / (7 : Int32)) / (2 : Int32) * (2 : Int32) = nI (st / 7 % 2) := by decide +kernel
theorem sp_placeIn (h : st < 378) (hQ : Q (nI (st % 7)) i j) : J_X12_placeIn len r Q i j (nI st) := by rw [J_X12_placeIn, st_place st h]; exact hQ
theorem sp_footIn (h : st < 378) (hQ : Q (nI (st / 7 % 2)) i j) : J_X12_footIn len r Q i j (nI st) := by rw [J_X12_footIn, st_foot st h]; exact hQ
theorem sp_weight (hg : g < 3) (hQ : Q (nI (mwt g)) i j) : J_X12_weight len r Q i j (nI g) := by
  rw [J_X12_weight]
  rcases (show g = 0 ∨ g = 1 ∨ g = 2 by omega) with rfl | rfl | rfl
  · exact bn_f (by decide) hQ
  · exact bn_t (by decide) (bn_f (by decide) hQ)
  · exact bn_t (by decide) (bn_t (by decide) hQ)
theorem st_mark : ∀ st, st < 378 → ∀ g, g < 3 → ((nI st / nI (mwt g)) - (nI st / nI (mwt g)) / (3 : Int32) * (3 : Int32)) - (1 : Int32) = nI (mmark st g) - 1 := by decide +kernel
theorem mwt_ne : ∀ g, g < 3 → ¬ nI (mwt g) = 0 := by decide +kernel
theorem sp_markIn (h : st < 378) (hg : g < 3) (hQ : Q (nI (mmark st g) - 1) i j) : J_X12_markIn len r Q i j (nI st) (nI g) := by
  rw [J_X12_markIn]
  refine sp_weight hg ⟨mwt_ne g hg, ?_⟩
  rw [st_mark st h g hg]
  exact hQ
theorem st_turned : ∀ st, st < 378 → (st / 7 % 2 = 0 → nI st + (7 : Int32) = nI (mmv st (st % 7) (1 - st / 7 % 2))) ∧ (¬ st / 7 % 2 = 0 → nI st - (7 : Int32) = nI (mmv st (st % 7) (1 - st / 7 % 2))) ∧ (nI (st / 7 % 2) = 0 ↔ st / 7 % 2 = 0) := by decide +kernel
theorem sp_turned (h : st < 378) (hQ : Q (nI (mmv st (st % 7) (1 - st / 7 % 2))) i j) : J_X12_turned len r Q i j (nI st) := by
  rw [J_X12_turned]
  obtain ⟨h1, h2, h3⟩ := st_turned st h
  refine sp_footIn h ?_
  by_cases hf : st / 7 % 2 = 0
  · refine bn_f (h3.mpr hf) ?_
    rw [h1 hf]
    exact hQ
  · refine bn_t (fun z => hf (h3.mp z)) ?_
    rw [h2 hf]
    exact hQ
theorem ms_1 : ∀ p, p < 16 → nI p + nI p / (2 : Int32) = nI (mstep 1 p) := by decide +kernel
theorem ms_2 : ∀ p, p < 16 → (nI p + (1 : Int32)) / (2 : Int32) = nI (mstep 2 p) := by decide +kernel
theorem ms_4 : ∀ p, p < 16 → (nI p + (1 : Int32)) / (2 : Int32) + (1 : Int32) = nI (mstep 4 p) := by decide +kernel
theorem sp_stepsOf (hk : k < 5) (hp : p < 16) (hQ : Q (nI (mstep k p)) i j) : J_X9_stepsOf len r Q i j (nI k) (nI p) := by
  rw [J_X9_stepsOf]
  rcases (show k = 0 ∨ k = 1 ∨ k = 2 ∨ k = 3 ∨ k = 4 by omega) with rfl | rfl | rfl | rfl | rfl
  · exact ⟨fun h => absurd h (by decide), fun h => absurd h (by decide), fun h => absurd h (by decide), fun h => absurd h (by decide), fun _ _ _ _ => hQ⟩
  · exact ⟨fun _ => by rw [ms_1 p hp]; exact hQ, fun h => absurd h (by decide), fun h => absurd h (by decide), fun h => absurd h (by decide), fun h => absurd (by decide) h⟩
  · exact ⟨fun h => absurd h (by decide), fun _ => by rw [ms_2 p hp]; exact hQ, fun h => absurd h (by decide), fun h => absurd h (by decide), fun _ h => absurd (by decide) h⟩
  · exact ⟨fun h => absurd h (by decide), fun h => absurd h (by decide), fun _ => hQ, fun h => absurd h (by decide), fun _ _ _ _ => hQ⟩
  · exact ⟨fun h => absurd h (by decide), fun h => absurd h (by decide), fun h => absurd h (by decide), fun _ => by rw [ms_4 p hp]; exact hQ, fun _ _ _ h => absurd (by decide) h⟩
theorem J_steps_same : J_X12_stepsBy len r Q i j = J_X9_stepsOf len r Q i j := rfl
theorem sp_stepsBy (hk : k < 5) (hp : p < 16) (hQ : Q (nI (mstep k p)) i j) : J_X12_stepsBy len r Q i j (nI k) (nI p) := sp_stepsOf (len := len) (r := r) hk hp hQ
theorem mt_1 : ∀ k, k < 5 → ∀ p, p < 16 → nI (mstep k p) &&& (1 : Int32) = nI (mstep k p % 2) := by decide +kernel
theorem k3 : ∀ k, k < 5 → (nI k = (3 : Int32) ↔ k = 3) := by decide +kernel
theorem sp_turnOf (hk : k < 5) (hp : p < 16) (hQ : Q (nI (mturn k p)) i j) : J_X9_turnOf len r Q i j (nI k) (nI p) := by
  rw [J_X9_turnOf]
  by_cases h3 : k = 3
  · refine bn_f ((k3 k hk).mpr h3) ?_
    have e : mturn k p = 0 := by simp [mturn, h3]
    rw [e] at hQ
    exact hQ
  · refine bn_t (fun z => h3 ((k3 k hk).mp z)) (sp_stepsOf hk hp ?_)
    have e : mturn k p = mstep k p % 2 := by simp [mturn, h3]
    rw [mt_1 k hk p hp]
    rw [e] at hQ
    exact hQ
end Leaf
