/-! the reference reads the page -/
def rtF (i i' : jI) : Prop := ∀ x f, x ≠ 47 → x ≠ 48 → x ≠ 49 → x ≠ 50 → (x = 37 → f ≠ 17 ∧ f ≠ 18 ∧ f ≠ 19 ∧ f ≠ 20 ∧ f ≠ 21) → i' x f = i x f
theorem rtF.rf {i : jI} : rtF i i := fun _ _ _ _ _ _ _ => rfl
theorem rtF.tr {i i1 i2 : jI} (h1 : rtF i i1) (h2 : rtF i1 i2) : rtF i i2 := fun x f a b c d e => (h2 x f a b c d e).trans (h1 x f a b c d e)
theorem rtF.wf {i i1 : jI} (h : rtF i i1) : wF i i1 := fun x f hk => h x f (by unfold kp at hk; omega) (by unfold kp at hk; omega) (by unfold kp at hk; omega) (by unfold kp at hk; omega) (by unfold kp at hk; omega)
theorem rtF_ju {i : jI} {k f : Nat} {v : Int32} (h : k = 47 ∨ k = 48 ∨ k = 49 ∨ k = 50 ∨ (k = 37 ∧ (f = 17 ∨ f = 18 ∨ f = 19 ∨ f = 20 ∨ f = 21))) : rtF i (ju i k f v) := by
  intro x g a b c d e
  by_cases ex : x = k
  · subst ex
    rw [ju_eq, pk_un (by omega)]
  · rw [ju_ne ex]
def nS (C : Nat → Nat) (i : jI) (q : Nat) : Prop := i 37 19 = nI (sm C q) ∧ i 37 20 = nI (sg C q) ∧ i 37 21 = bI (decide (ss C q = 6)) ∧ (∀ t, t < sm C q → i 47 t = nI (dA C q t) ∧ i 48 t = nI (dB C q t) ∧ i 49 t = nI (dPc C q t) ∧ i 50 t = nI (dGt C q t) - 1) ∧ ((ss C q = 1 ∨ ss C q = 2) → i 47 (sm C q) = nI (dA C q (sm C q))) ∧ (ss C q = 2 → i 48 (sm C q) = nI (dB C q (sm C q)))
section PageM
variable {len : Nat → Nat} {r : jR} {i : jI} {j : jL} {C : Nat → Nat} {q pl : Nat}
theorem sp_fig {Q : Int32 → jI → jL → Prop} {c m : Nat} (hc : c < 127) (hm : m ≤ 9) (hQ : Q (if 48 ≤ c ∧ c < 49 + m then 1 else 0) i j) : J_X12_within len r Q i j (nI c - (48 : Int32)) 0 (nI m) := by
  rcases Nat.lt_or_ge c 48 with h | h
  · rw [if_neg (by omega)] at hQ
    exact gM_noK (Or.inl (pk_sneg (b := 48) (by decide) h)) (by omega) hQ
  · rw [show nI c - (48 : Int32) = nI (c - 48) from pk_sub (b := 48) h]
    by_cases h2 : c < 49 + m
    · rw [if_pos ⟨h, h2⟩] at hQ
      exact gM_yesK (by omega) (by omega) hQ
    · rw [if_neg (by omega)] at hQ
      exact gM_noK (Or.inr (nI_le (by omega) (by omega))) (by omega) hQ
theorem sp_street12 {Q : Int32 → jI → jL → Prop} {c m : Nat} (hc : c < 127) (hm : m ≤ 11) (e3 : i 37 19 = nI m) (hQ : nxt5 m c ≠ 7 → Q (nI (nxt5 m c)) i j) (hQ7 : nxt5 m c = 7 → Q (-1) i j) : J_X12_nextState_L250 len r Q i j 37 (nI c) := by
  have l269 : ¬ (c = 44 ∧ m < 10) → J_X12_nextState_L269 len r Q i j (nI c) := by
    intro hn
    rw [J_X12_nextState_L269]
    unfold nxt5 at hQ hQ7
    rw [if_neg hn] at hQ hQ7
    by_cases h2 : c = 59
    · rw [if_pos h2] at hQ
      exact ⟨fun hh => absurd (by rw [h2]; decide) hh, fun _ => hQ (by decide)⟩
    · rw [if_neg h2] at hQ7
      exact ⟨fun _ => hQ7 rfl, fun hh => absurd ((nI_eq (b := 59) (by omega) (by decide)).mp hh) h2⟩
  rw [J_X12_nextState_L250, e3]
  refine ⟨fun hne => l269 (fun z => hne (by rw [z.1]; decide)), fun heq => pk_le 10 m (fun h => l269 (fun z => by omega)) (fun h => ?_)⟩
  have h44 : c = 44 := (nI_eq (b := 44) (by omega) (by decide)).mp heq
  unfold nxt5 at hQ
  rw [if_pos ⟨h44, h⟩] at hQ
  exact hQ (by decide)
theorem sp_next {Q : Int32 → jI → jL → Prop} (hg : Gr r len) (hc2 : C q < 127) (ht : tI C q) (hS : nS C i q) (hQ7 : ss C (q + 1) = 7 → ∀ i', rtF i i' → Q (-1) i' j) (hQ : ss C (q + 1) ≠ 7 → ∀ i', rtF i i' → nS C i' (q + 1) → Q (nI (ss C (q + 1))) i' j) : J_X12_nextState len r Q i j 37 (nI (ss C q)) (nI (C q)) := by
  obtain ⟨i1, i2, i3, i4, i5, i6, i7, i8, i9, i10, i11, i12⟩ := ht
  obtain ⟨s1, s2, s3, s4, s5, s6⟩ := id hS
  have no : ∀ k, k < 8 → ss C q ≠ k → ¬ nI (ss C q) = nI k := fun k hk hn hh => hn ((nI_eq (by omega) (by omega)).mp hh)
  have em : (nI (sm C q)).toNatClampNeg = sm C q := nI_clamp (by omega)
  rw [J_X12_nextState]
  intro v4 e4
  subst e4
  rcases (show ss C q = 0 ∨ ss C q = 1 ∨ ss C q = 2 ∨ ss C q = 3 ∨ ss C q = 4 ∨ ss C q = 5 ∨ ss C q = 6 by omega) with h | h | h | h | h | h | h
  · obtain ⟨f1, f2, f3, f4, f5, f6, f7⟩ := st_0 h
    have i3' := i3 (by omega)
    refine ⟨fun _ => ⟨47, hg.1 _ (by decide) _ (by decide) _ rfl, ?_⟩, fun z => absurd z (no 1 (by decide) (by omega)), fun z => absurd z (no 2 (by decide) (by omega)), fun z => absurd z (no 3 (by decide) (by omega)), fun z => absurd z (no 4 (by decide) (by omega)), fun z => absurd z (no 5 (by decide) (by omega)), fun z => absurd z (no 6 (by decide) (by omega)), fun z => absurd (by rw [h]; decide) z⟩
    rw [s1, em]
    refine ⟨by rw [hg.2 _ (by decide)]; exact vp_in_nI (show sm C q < 10 by omega) (by decide), fun ia ea => sp_fig (m := 6) hc2 (by decide) ?_⟩
    have fa : rtF i ia := by rw [ea]; exact rtF_ju (Or.inl rfl)
    by_cases hc : 48 ≤ C q ∧ C q < 55
    · rw [if_pos hc] at f1 ⊢
      refine ⟨fun hh => absurd hh (by decide), fun _ => ?_⟩
      have := hQ (by rw [f1]; decide) ia fa
      rw [f1] at this
      refine this ?_
      have o : ∀ x f, x ≠ 47 → ia x f = i x f := fun x f hx => by rw [ea, ju_ne hx]
      unfold nS
      rw [f1, f2, f3, f4, f5, f6, f7, o 37 19 (by decide), o 37 20 (by decide), o 37 21 (by decide)]
      refine ⟨s1, s2, ?_, fun t ht => ?_, fun _ => ?_, fun z => by omega⟩
      · rw [s3, h]; rfl
      · rw [o 48 t (by decide), o 49 t (by decide), o 50 t (by decide), sU_ne (by omega), ea, ju_eq, pk_un (by omega)]
        exact s4 t ht
      · rw [ea, ju_eq, pk_us, sU_eq]
        exact pk_sub (b := 48) hc.1
    · rw [if_neg hc] at f1 ⊢
      exact ⟨fun _ => hQ7 f1 ia fa, fun hh => absurd rfl hh⟩
  · obtain ⟨f1, f2, f3, f4, f5, f6, f7⟩ := st_1 h
    have i3' := i3 (by omega)
    have i9' := i9 h
    refine ⟨fun z => absurd z (no 0 (by decide) (by omega)), fun _ => ⟨48, hg.1 _ (by decide) _ (by decide) _ rfl, ?_⟩, fun z => absurd z (no 2 (by decide) (by omega)), fun z => absurd z (no 3 (by decide) (by omega)), fun z => absurd z (no 4 (by decide) (by omega)), fun z => absurd z (no 5 (by decide) (by omega)), fun z => absurd z (no 6 (by decide) (by omega)), fun _ z => absurd (by rw [h]; decide) z⟩
    rw [s1, em]
    refine ⟨by rw [hg.2 _ (by decide)]; exact vp_in_nI (show sm C q < 10 by omega) (by decide), fun ia ea => sp_fig (m := 6) hc2 (by decide) ?_⟩
    have fa : rtF i ia := by rw [ea]; exact rtF_ju (Or.inr (Or.inl rfl))
    have o : ∀ x f, x ≠ 48 → ia x f = i x f := fun x f hx => by rw [ea, ju_ne hx]
    by_cases hc : 48 ≤ C q ∧ C q < 55
    · rw [if_pos hc]
      refine ⟨fun hh => absurd hh (by decide), fun _ => ⟨47, hg.1 _ (by decide) _ (by decide) _ rfl, ?_⟩⟩
      rw [o 37 19 (by decide), s1, em]
      refine ⟨by rw [hg.2 _ (by decide)]; exact vp_in_nI (show sm C q < 10 by omega) (by decide), ?_⟩
      rw [o 47 _ (by decide), s5 (Or.inl h), show nI (C q) - (48 : Int32) = nI (C q - 48) from pk_sub (b := 48) hc.1]
      have i7' := i7 (Or.inl h)
      refine ⟨fun heq => ?_, fun hne => ?_⟩
      · have : C q - 48 = dA C q (sm C q) := (nI_eq (by omega) (by omega)).mp heq
        rw [J_X12_nextState_L111]
        exact hQ7 (by rw [f1, if_neg (fun z => z.2 (by omega))]) ia fa
      · have hne' : C q ≠ C (q - 1) := fun z => hne (by rw [show C q - 48 = dA C q (sm C q) by omega])
        rw [if_pos ⟨hc, hne'⟩] at f1
        have := hQ (by rw [f1]; decide) ia fa
        rw [f1] at this
        refine this ?_
        unfold nS
        rw [f1, f2, f3, f4, f5, f6, f7, o 37 19 (by decide), o 37 20 (by decide), o 37 21 (by decide), o 47 _ (by decide)]
        refine ⟨s1, s2, ?_, fun t ht => ?_, fun _ => s5 (Or.inl h), fun _ => ?_⟩
        · rw [s3, h]; rfl
        · rw [o 47 t (by decide), o 49 t (by decide), o 50 t (by decide), sU_ne (by omega), ea, ju_eq, pk_un (by omega)]
          exact s4 t ht
        · rw [ea, ju_eq, pk_us, sU_eq]
          exact pk_sub (b := 48) hc.1
    · rw [if_neg hc]
      refine ⟨fun _ => ?_, fun hh => absurd rfl hh⟩
      rw [J_X12_nextState_L111]
      exact hQ7 (by rw [f1, if_neg (fun z => hc z.1)]) ia fa
  · obtain ⟨f1, f2, f3, f4, f5, f6, f7⟩ := st_2 h
    have i3' := i3 (by omega)
    refine ⟨fun z => absurd z (no 0 (by decide) (by omega)), fun z => absurd z (no 1 (by decide) (by omega)), fun _ => ⟨49, hg.1 _ (by decide) _ (by decide) _ rfl, ?_⟩, fun z => absurd z (no 3 (by decide) (by omega)), fun z => absurd z (no 4 (by decide) (by omega)), fun z => absurd z (no 5 (by decide) (by omega)), fun z => absurd z (no 6 (by decide) (by omega)), fun _ _ z => absurd (by rw [h]; decide) z⟩
    rw [s1, em]
    have hv : vp_in (nI (sm C q)) 10 := vp_in_nI (by omega) (by decide)
    refine ⟨by rw [hg.2 _ (by decide)]; exact hv, fun ia ea => ⟨50, hg.1 _ (by decide) _ (by decide) _ rfl, ?_⟩⟩
    have oa : ∀ x f, x ≠ 49 → ia x f = i x f := fun x f hx => by rw [ea, ju_ne hx]
    rw [oa 37 19 (by decide), s1, em]
    refine ⟨by rw [hg.2 _ (by decide)]; exact hv, fun ib eb => sp_fig (m := 9) hc2 (by decide) ?_⟩
    have ob : ∀ x f, x ≠ 50 → ib x f = ia x f := fun x f hx => by rw [eb, ju_ne hx]
    have fb : rtF i ib := by rw [eb, ea]; exact (rtF_ju (Or.inr (Or.inr (Or.inl rfl)))).tr (rtF_ju (Or.inr (Or.inr (Or.inr (Or.inl rfl)))))
    rw [ob 37 19 (by decide), oa 37 19 (by decide), s1]
    by_cases hc : 48 ≤ C q ∧ C q < 58
    · rw [if_pos hc]
      rw [if_pos hc] at f1
      refine ⟨fun hh => absurd hh (by decide), fun _ => ?_⟩
      rw [J_X12_nextState_L153]
      intro ic ec
      rw [nI_1] at ec
      refine sp_fig (m := 9) hc2 (by decide) ?_
      rw [if_pos hc]
      have oc : ∀ x f, x ≠ 37 → ic x f = ib x f := fun x f hx => by rw [ec, ju_ne hx]
      have fc : rtF i ic := fb.tr (by rw [ec]; exact rtF_ju (Or.inr (Or.inr (Or.inr (Or.inr ⟨rfl, by omega⟩)))))
      refine ⟨fun hh => absurd hh (by decide), fun _ => ?_⟩
      have := hQ (by rw [f1]; decide) ic fc
      rw [f1] at this
      refine this ?_
      unfold nS
      rw [f1, f2, f3, f4, f5, f6, f7]
      refine ⟨by rw [ec, ju_eq, pk_us], ?_, ?_, fun t ht => ?_, fun z => by omega, fun z => by omega⟩
      · rw [ec, ju_eq, pk_un (by decide), ob _ _ (by decide), oa _ _ (by decide)]; exact s2
      · rw [ec, ju_eq, pk_un (by decide), ob _ _ (by decide), oa _ _ (by decide), s3, h]; rfl
      · rw [oc 47 t (by decide), oc 48 t (by decide), oc 49 t (by decide), oc 50 t (by decide), ob 47 t (by decide), ob 48 t (by decide), ob 49 t (by decide), oa 47 t (by decide), oa 48 t (by decide), eb, ju_eq, ea, ju_eq]
        by_cases e : t = sm C q
        · subst e
          rw [pk_us, pk_us, sU_eq, sU_eq]
          exact ⟨s5 (Or.inr h), s6 h, pk_sub (b := 48) hc.1, by decide⟩
        · rw [pk_un e, pk_un e, sU_ne e, sU_ne e, ju_ne (by decide)]
          exact s4 t (by omega)
    · rw [if_neg hc]
      rw [if_neg hc] at f1
      refine ⟨fun _ => ?_, fun hh => absurd rfl hh⟩
      rw [J_X12_nextState_L153]
      intro ic ec
      refine sp_fig (m := 9) hc2 (by decide) ?_
      rw [if_neg hc]
      exact ⟨fun _ => hQ7 f1 ic (fb.tr (by rw [ec]; exact rtF_ju (Or.inr (Or.inr (Or.inr (Or.inr ⟨rfl, by omega⟩)))))), fun hh => absurd rfl hh⟩
  · -- behind paces
    have i5' := i5 (by omega)
    refine ⟨fun z => absurd z (no 0 (by decide) (by omega)), fun z => absurd z (no 1 (by decide) (by omega)), fun z => absurd z (no 2 (by decide) (by omega)), fun _ => ⟨fun hne => ?_, fun heq => ⟨fun hh => absurd (by rw [h]; decide) hh, fun _ => ?_⟩⟩, fun z => absurd z (no 4 (by decide) (by omega)), fun z => absurd z (no 5 (by decide) (by omega)), fun z => absurd z (no 6 (by decide) (by omega)), fun _ _ _ z => absurd (by rw [h]; decide) z⟩
    · have hc : C q ≠ 33 := fun z => hne (by rw [z]; decide)
      obtain ⟨f1, f2, f3, f4, f5, f6, f7⟩ := st_34 (Or.inl ⟨h, hc⟩)
      refine sp_street12 hc2 (by omega) s1 (fun hn => ?_) (fun h7 => hQ7 (by rw [f1]; exact h7) i rtF.rf)
      have := hQ (by rw [f1]; exact hn) i rtF.rf
      rw [f1] at this
      refine this ?_
      unfold nS
      rw [f1, f2, f3, f4, f5, f6, f7]
      rcases nxt5_le _ _ hn with ⟨z, -⟩ | ⟨z, -⟩ <;> (rw [z]; exact ⟨s1, s2, by rw [s3, h]; rfl, s4, fun z => by omega, fun z => by omega⟩)
    · have hc : C q = 33 := (nI_eq (b := 33) (by omega) (by decide)).mp heq
      obtain ⟨f1, f2, f3, f4, f5, f6, f7⟩ := st_3g h hc
      rw [s2]
      refine pk_le 3 (sg C q) (fun hge => ?_) (fun hlt => ⟨50, hg.1 _ (by decide) _ (by decide) _ rfl, ?_⟩)
      · rw [if_neg (by omega)] at f1
        refine sp_street12 hc2 (by omega) s1 (fun hn => ?_) (fun h7 => hQ7 f1 i rtF.rf)
        rw [hc] at hn
        exact absurd rfl hn
      · rw [if_pos hlt] at f1
        have ep : nI (sm C q) - (1 : Int32) = nI (sm C q - 1) := by
          have := nI_pred (sm C q - 1)
          rw [show sm C q - 1 + 1 = sm C q by omega] at this
          exact this
        rw [s1, ep, nI_clamp (by omega)]
        refine ⟨by rw [hg.2 _ (by decide)]; exact vp_in_nI (show sm C q - 1 < 10 by omega) (by decide), fun ia ea ib eb => ?_⟩
        have oa : ∀ x f, x ≠ 50 → ia x f = i x f := fun x f hx => by rw [ea, ju_ne hx]
        have ob : ∀ x f, x ≠ 37 → ib x f = ia x f := fun x f hx => by rw [eb, ju_ne hx]
        rw [oa 37 20 (by decide), s2, nI_1] at eb
        have fb : rtF i ib := by rw [eb, ea]; exact (rtF_ju (Or.inr (Or.inr (Or.inr (Or.inl rfl))))).tr (rtF_ju (Or.inr (Or.inr (Or.inr (Or.inr ⟨rfl, by omega⟩)))))
        have := hQ (by rw [f1]; decide) ib fb
        rw [f1] at this
        refine this ?_
        unfold nS
        rw [f1, f2, f3, f4, f5, f6, f7]
        refine ⟨?_, by rw [eb, ju_eq, pk_us], ?_, fun t ht => ?_, fun z => by omega, fun z => by omega⟩
        · rw [eb, ju_eq, pk_un (by decide), oa _ _ (by decide)]; exact s1
        · rw [eb, ju_eq, pk_un (by decide), oa _ _ (by decide), s3, h]; rfl
        · rw [ob 47 t (by decide), ob 48 t (by decide), ob 49 t (by decide), ob 50 t (by decide), oa 47 t (by decide), oa 48 t (by decide), oa 49 t (by decide), ea, ju_eq]
          obtain ⟨b1, b2, b3, b4⟩ := s4 t ht
          refine ⟨b1, b2, b3, ?_⟩
          by_cases e : t = sm C q - 1
          · subst e; rw [pk_us, sU_eq, nI_pred]
          · rw [pk_un e, sU_ne e]; exact b4
  · have i5' := i5 (by omega)
    obtain ⟨f1, f2, f3, f4, f5, f6, f7⟩ := st_34 (Or.inr h)
    have go : J_X12_nextState_L250 len r Q i j 37 (nI (C q)) := by
      refine sp_street12 hc2 (by omega) s1 (fun hn => ?_) (fun h7 => hQ7 (by rw [f1]; exact h7) i rtF.rf)
      have := hQ (by rw [f1]; exact hn) i rtF.rf
      rw [f1] at this
      refine this ?_
      unfold nS
      rw [f1, f2, f3, f4, f5, f6, f7]
      rcases nxt5_le _ _ hn with ⟨z, -⟩ | ⟨z, -⟩ <;> (rw [z]; exact ⟨s1, s2, by rw [s3, h]; rfl, s4, fun z => by omega, fun z => by omega⟩)
    exact ⟨fun z => absurd z (no 0 (by decide) (by omega)), fun z => absurd z (no 1 (by decide) (by omega)), fun z => absurd z (no 2 (by decide) (by omega)), fun z => absurd z (no 3 (by decide) (by omega)), fun _ => ⟨fun _ => go, fun _ => ⟨fun _ => go, fun hh => absurd hh (no 3 (by decide) (by omega))⟩⟩, fun z => absurd z (no 5 (by decide) (by omega)), fun z => absurd z (no 6 (by decide) (by omega)), fun _ _ _ _ z => absurd (by rw [h]; decide) z⟩
  · obtain ⟨f1, f2, f3, f4, f5, f6, f7⟩ := st_56 (Or.inl h)
    have go : ∀ b : Bool, b = decide (C q = 102) → J_X12_nextState_L185 len r Q i j 37 37 (bI b) := by
      intro b hb
      rw [J_X12_nextState_L185]
      refine ⟨by cases b <;> decide, fun ia ea => ?_⟩
      have fa : rtF i ia := by rw [ea]; exact rtF_ju (Or.inr (Or.inr (Or.inr (Or.inr ⟨rfl, by omega⟩))))
      have o : ∀ x f, x ≠ 37 → ia x f = i x f := fun x f hx => by rw [ea, ju_ne hx]
      have e21 : ia 37 21 = bI b := by rw [ea, ju_eq, pk_us]
      have eo : ∀ f, f ≠ 21 → ia 37 f = i 37 f := fun f hf => by rw [ea, ju_eq, pk_un hf]
      rw [e21]
      cases b with
      | false =>
        refine ⟨fun _ => hQ7 ?_ ia fa, fun hh => absurd (by decide) hh⟩
        rw [f1, if_neg]
        intro z
        rw [decide_eq_true z.2] at hb
        cases hb
      | true =>
        have hc : C q = 102 := of_decide_eq_true hb.symm
        rw [if_pos ⟨h, hc⟩] at f1
        refine ⟨fun hh => absurd hh (by decide), fun _ => ?_⟩
        have := hQ (by rw [f1]; decide) ia fa
        rw [f1] at this
        refine this ?_
        unfold nS
        rw [f1, f2, f3, f4, f5, f6, f7, eo 19 (by decide), eo 20 (by decide), e21]
        refine ⟨s1, s2, rfl, fun t ht => ?_, fun z => by omega, fun z => by omega⟩
        rw [o 47 t (by decide), o 48 t (by decide), o 49 t (by decide), o 50 t (by decide)]
        exact s4 t ht
    refine ⟨fun z => absurd z (no 0 (by decide) (by omega)), fun z => absurd z (no 1 (by decide) (by omega)), fun z => absurd z (no 2 (by decide) (by omega)), fun z => absurd z (no 3 (by decide) (by omega)), fun z => absurd z (no 4 (by decide) (by omega)), fun _ => ⟨fun hne => go false ?_, fun heq => go true ?_⟩, fun z => absurd z (no 6 (by decide) (by omega)), fun _ _ _ _ _ z => absurd (by rw [h]; decide) z⟩
    · have : C q ≠ 102 := fun z => hne (by rw [z]; decide)
      simp [this]
    · have : C q = 102 := (nI_eq (b := 102) (by omega) (by decide)).mp heq
      simp [this]
  · obtain ⟨f1, -⟩ := st_56 (Or.inr h)
    rw [if_neg (by omega)] at f1
    exact ⟨fun z => absurd z (no 0 (by decide) (by omega)), fun z => absurd z (no 1 (by decide) (by omega)), fun z => absurd z (no 2 (by decide) (by omega)), fun z => absurd z (no 3 (by decide) (by omega)), fun z => absurd z (no 4 (by decide) (by omega)), fun z => absurd z (no 5 (by decide) (by omega)), fun _ => hQ7 f1 i rtF.rf, fun _ _ _ _ _ _ z => absurd (by rw [h]; decide) z⟩
def whl (C : Nat → Nat) (pl f : Nat) : Bool := decide (f = pl ∧ (ss C pl = 3 ∨ ss C pl = 4 ∨ ss C pl = 6))
theorem sp_rd84 {Q : jI → jL → Prop} {i0 : jI} {f s : Nat} (hpl : pl ≤ 50) (epl : i0 37 15 = nI pl) (hfl : f ≤ pl) (hs : s ≤ 6) (hsf : f = pl → s = ss C pl) (hf : rtF i0 i) (hQ : ∀ i', i' 37 17 = nI f → i' 37 18 = bI (whl C pl f) → (∀ x g, ¬ (x = 37 ∧ (g = 17 ∨ g = 18)) → i' x g = i x g) → Q i' j) : J_X12_readTown_L84 len r Q i j 37 (nI s) (nI f) := by
  have e15 : i 37 15 = nI pl := (hf _ _ (by decide) (by decide) (by decide) (by decide) (by omega)).trans epl
  rw [J_X12_readTown_L84]
  intro ia ea
  have o : ∀ x g, ¬ (x = 37 ∧ g = 17) → ia x g = i x g := fun x g hx => by
    rw [ea]
    by_cases e : x = 37
    · subst e; rw [ju_eq, pk_un (fun z => hx ⟨rfl, z⟩)]
    · rw [ju_ne e]
  have e17 : ia 37 17 = nI f := by rw [ea, ju_eq, pk_us]
  have fin : ∀ b : Bool, b = whl C pl f → J_X12_readTown_L119 len r Q ia j 37 (bI b) := by
    intro b hb
    rw [J_X12_readTown_L119]
    refine ⟨by cases b <;> decide, fun ib eb => ?_⟩
    refine hQ ib (by rw [eb, ju_eq, pk_un (by decide)]; exact e17) (by rw [eb, ju_eq, pk_us, hb]) (fun x g hx => ?_)
    rw [eb]
    by_cases e : x = 37
    · subst e; rw [ju_eq, pk_un (by omega)]; exact o _ _ (by omega)
    · rw [ju_ne e]; exact o _ _ (by omega)
  rw [o 37 15 (by omega), e15]
  refine ⟨fun hne => ?_, fun heq => ?_⟩
  · rw [J_X12_readTown_L118]
    refine fin false ?_
    unfold whl
    symm
    rw [decide_eq_false_iff_not]
    intro z
    exact hne (by rw [z.1])
  · have hfp : f = pl := (nI_eq (by omega) (by omega)).mp heq
    have hsf' := hsf hfp
    have no : ∀ k, k < 8 → s ≠ k → ¬ nI s = nI k := fun k hk hn hh => hn ((nI_eq (by omega) (by omega)).mp hh)
    have yes : (s = 3 ∨ s = 4 ∨ s = 6) → J_X12_readTown_L114 len r Q ia j 37 := by
      intro z
      rw [J_X12_readTown_L114]
      refine fin true ?_
      unfold whl
      symm
      rw [decide_eq_true_iff]
      exact ⟨hfp, by rw [← hsf']; exact z⟩
    have nop : ¬ (s = 3 ∨ s = 4 ∨ s = 6) → J_X12_readTown_L118 len r Q ia j 37 := by
      intro z
      rw [J_X12_readTown_L118]
      refine fin false ?_
      unfold whl
      symm
      rw [decide_eq_false_iff_not]
      intro z2
      exact z (by rw [hsf']; exact z2.2)
    exact ⟨fun h3 => yes (Or.inl ((nI_eq (b := 3) (by omega) (by decide)).mp h3)), fun n3 => ⟨fun h4 => yes (Or.inr (Or.inl ((nI_eq (b := 4) (by omega) (by decide)).mp h4))), fun n4 => ⟨fun n6 => nop (fun z => by
      rcases z with z | z | z
      · exact n3 (by rw [z]; decide)
      · exact n4 (by rw [z]; decide)
      · exact n6 (by rw [z]; decide)), fun h6 => yes (Or.inr (Or.inr ((nI_eq (b := 6) (by omega) (by decide)).mp h6)))⟩⟩⟩
theorem lp_rd21 {Q : jI → jL → Prop} {i0 : jI} (hg : Gr r len) (hpl : pl ≤ 50) (epl : i0 37 15 = nI pl) (hC : ∀ q, q < pl → i0 46 q = nI (C q) ∧ C q < 127) (hQ : ∀ i' f, fau C pl f → i' 37 17 = nI f → i' 37 18 = bI (whl C pl f) → (f = pl → nS C i' pl ∧ tI C pl) → rtF i0 i' → Q i' j) : ∀ (m q : Nat) (i : jI), q + m = pl → (∀ t, t ≤ q → ss C t ≠ 7) → tI C q → nS C i q → rtF i0 i → J_X12_readTown_L21 len r Q (m + 2) i j 37 (nI (ss C q)) (nI q) 1 := by
  have e15 : ∀ i, rtF i0 i → i 37 15 = nI pl := fun i hf => (hf _ _ (by decide) (by decide) (by decide) (by decide) (by omega)).trans epl
  -- the end
  have fin : ∀ (i : jI) (q f s : Nat), f ≤ pl → s ≤ 6 → (f = pl → s = ss C pl) → fau C pl f → (f = pl → nS C i pl ∧ tI C pl) → rtF i0 i → J_X12_readTown_L84 len r Q i j 37 (nI s) (nI f) := by
    intro i q f s h1 h2 h3 h4 h5 hf
    refine sp_rd84 (i0 := i0) hpl epl h1 h2 h3 hf (fun i' a1 a2 a3 => hQ i' f h4 a1 a2 (fun z => ⟨?_, (h5 z).2⟩) (fun x g b1 b2 b3 b4 b5 => (a3 x g (by omega)).trans (hf x g b1 b2 b3 b4 b5)))
    obtain ⟨s1, s2, s3, s4, s5, s6⟩ := (h5 z).1
    unfold nS
    rw [a3 37 19 (by omega), a3 37 20 (by omega), a3 37 21 (by omega), a3 47 _ (by omega), a3 48 _ (by omega)]
    refine ⟨s1, s2, s3, fun t ht => ?_, s5, s6⟩
    rw [a3 47 t (by omega), a3 48 t (by omega), a3 49 t (by omega), a3 50 t (by omega)]
    exact s4 t ht
  intro m
  induction m with
  | zero =>
    intro q i hq hok ht hS hf
    have hq' : q = pl := by omega
    subst hq'
    rw [J_X12_readTown_L21]
    dsimp only
    rw [e15 i hf]
    exact ⟨fun _ => fin i q q (ss C q) (Nat.le_refl _) ht.1 (fun _ => rfl) ⟨Nat.le_refl _, hok, fun z => by omega⟩ (fun _ => ⟨hS, ht⟩) hf, fun hh => absurd (nI_le (Nat.le_refl _) (by omega)) hh⟩
  | succ m ih =>
    intro q i hq hok ht hS hf
    have hqp : q < pl := by omega
    obtain ⟨hc1, hc2⟩ := hC q hqp
    rw [J_X12_readTown_L21]
    dsimp only
    rw [e15 i hf]
    refine ⟨fun hh => absurd hh (nI_ge (by omega) (by omega)), fun _ => ⟨fun hh => absurd hh (by decide), fun _ => ⟨46, hg.1 _ (by decide) _ (by decide) _ rfl, by rw [hg.2 _ (by decide)]; exact vp_in_nI (show q < 50 by omega) (by decide), ?_⟩⟩⟩
    rw [nI_clamp (by omega), hf 46 q (by decide) (by decide) (by decide) (by decide) (by omega), hc1]
    refine sp_next hg hc2 ht hS (fun h7 i1 f1 => ⟨fun _ => ?_, fun hh => absurd rfl hh⟩) (fun hn i1 f1 hS1 => ⟨fun hh => absurd hh (nI_m1 (by have := (tI_1 ht hn).1; omega)), fun _ => ?_⟩)
    · rw [J_X12_readTown_L57]
      refine ⟨fun _ => ?_, fun hh => absurd rfl hh⟩
      rw [J_X12_readTown_L68]
      refine ⟨fun _ => ?_, fun hh => absurd rfl hh⟩
      rw [J_X12_readTown_L79]
      intro v ev
      rw [Int32.add_zero] at ev
      subst ev
      rw [J_X12_readTown_L21]
      dsimp only
      rw [e15 i1 (hf.tr f1)]
      exact ⟨fun hh => absurd hh (nI_ge (by omega) (by omega)), fun _ => ⟨fun _ => fin i1 q q (ss C q) (by omega) ht.1 (fun z => by omega) ⟨by omega, hok, fun _ => h7⟩ (fun z => by omega) (hf.tr f1), fun hh => absurd rfl hh⟩⟩
    · rw [J_X12_readTown_L57]
      refine ⟨fun hh => absurd hh (by decide), fun _ => ?_⟩
      rw [J_X12_readTown_L68]
      refine ⟨fun hh => absurd hh (by decide), fun _ => ?_⟩
      rw [J_X12_readTown_L79]
      intro v ev
      rw [nI_1] at ev
      subst ev
      refine ih (q + 1) i1 (by omega) (fun t ht' => ?_) (tI_1 ht hn) hS1 (hf.tr f1)
      by_cases e : t = q + 1
      · subst e; exact hn
      · exact hok t (by omega)
theorem sp_readTown {Q : jI → jL → Prop} (hg : Gr r len) (hpl : pl ≤ 50) (epl : i 37 15 = nI pl) (hC : ∀ q, q < pl → i 46 q = nI (C q) ∧ C q < 127) (hQ : ∀ i' f, fau C pl f → i' 37 17 = nI f → i' 37 18 = bI (whl C pl f) → (f = pl → nS C i' pl ∧ tI C pl) → rtF i i' → Q i' j) : J_X12_readTown len r Q i j 37 := by
  rw [J_X12_readTown]
  intro i1 e1 i2 e2 i3 e3
  have f3 : rtF i i3 := by
    rw [e3, e2, e1]
    exact ((rtF_ju (Or.inr (Or.inr (Or.inr (Or.inr ⟨rfl, by omega⟩))))).tr (rtF_ju (Or.inr (Or.inr (Or.inr (Or.inr ⟨rfl, by omega⟩)))))).tr (rtF_ju (Or.inr (Or.inr (Or.inr (Or.inr ⟨rfl, by omega⟩)))))
  refine ⟨pl + 2, lp_rd21 (C := C) hg hpl ((f3 _ _ (by decide) (by decide) (by decide) (by decide) (by omega)).trans epl) (fun q hq => ⟨(f3 _ _ (by decide) (by decide) (by decide) (by decide) (by omega)).trans (hC q hq).1, (hC q hq).2⟩) (fun i' f a b c d e => hQ i' f a b c d (f3.tr e)) pl 0 i3 (by omega) (fun t ht => by
    have : t = 0 := by omega
    subst this
    show (0 : Nat) ≠ 7
    decide) tI_0 ⟨?_, ?_, ?_, fun t ht => absurd ht (Nat.not_lt_zero t), fun z => ?_, fun z => ?_⟩ rtF.rf⟩
  · rw [e3, ju_eq, pk_un (by decide), e2, ju_eq, pk_un (by decide), e1, ju_eq, pk_us]; rfl
  · rw [e3, ju_eq, pk_un (by decide), e2, ju_eq, pk_us]; rfl
  · rw [e3, ju_eq, pk_us]; rfl
  · exfalso; rcases z with z | z <;> cases z
  · exfalso; cases z
end PageM
theorem pF.sm {i i1 : jI} (h : pF i i1) : Sm i i1 := by
  have cl : ∀ x, x ≠ 1 → i1 x = i x := fun x hx => funext (fun f => h x f (fun z => hx z.1))
  exact ⟨⟨fun a ha => cl a (by omega), h _ _ (by omega), h _ _ (by omega), h _ _ (by omega)⟩, ⟨h _ _ (by omega), h _ _ (by omega)⟩, ⟨fun a ha => cl a (by omega), h _ _ (by omega), h _ _ (by omega)⟩, ⟨cl _ (by decide), cl _ (by decide), h _ _ (by omega), h _ _ (by omega)⟩, ⟨h _ _ (by omega), h _ _ (by omega)⟩, ⟨cl _ (by decide), cl _ (by decide), h _ _ (by omega), h _ _ (by omega)⟩, ⟨fun a ha => cl a (by omega), h _ _ (by omega), h _ _ (by omega), h _ _ (by omega), h _ _ (by omega)⟩⟩
/-- letters, read off the reference's row -/
def lto (i : jI) (q : Nat) : Nat := (i 46 q).toNatClampNeg
theorem RP.fn {i : jI} {pl : Nat} (h : RP i pl) : ∀ q, q < pl → i 46 q = nI (lto i q) ∧ i 2 q = nI (lto i q) ∧ lto i q < 127 := by
  intro q hq
  obtain ⟨c, h0, h1, h2, h3⟩ := h.2.2.2 q hq
  have e : lto i q = c := by unfold lto; rw [h2, nI_clamp (by omega)]
  rw [e]
  exact ⟨h2, h3, h1⟩
section OkFault
variable {len : Nat → Nat} {r : jR} {i : jI} {j : jL} {k : Nat}
theorem ok_2 (hg : Gr r len) (h : Rp k i) : J_X11_fault len r (fun q i1 j1 => J_X12_fault len r (fun q2 i2 j2 => q = q2 ∧ Rp (k + 5) i2) i1 j1 37) i j 0 := by
  have hR := h.up (k2 := k + 5) (by omega)
  obtain ⟨ns, ng, nt, nw, np, dn, pl, A, B, G, P, fr, h1, h2, h3, h4, h5, h6, h7, h8⟩ := h
  have hfn := h7.fn
  rw [J_X11_fault]
  refine ⟨1, hg.1 _ (by decide) _ (by decide) _ rfl, sp_readable (C := lto i) hg h7.2.2.1 h7.2.1 (fun q hq => ⟨(hfn q hq).2.1, (hfn q hq).2.2⟩) (fun i1 f hf1 _ hp1 => ?_)⟩
  rw [J_X12_fault]
  refine sp_readTown (C := lto i) hg h7.2.2.1 ((hp1 _ _ (by omega)).trans h7.1) (fun q hq => ⟨(hp1 _ _ (by omega)).trans (hfn q hq).1, (hfn q hq).2.2⟩) (fun i2 f2 hf2 e17 _ _ hr2 => ⟨?_, (hR.sm hp1.sm).sm hr2.wf.sm⟩)
  rw [e17, fau_eq hf1 hf2]
end OkFault
