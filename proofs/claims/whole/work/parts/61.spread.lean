/-! all stands that one can come to, as bits -/
def mS (j : jL) (e : Nat) : Bool := tb (j 28 (e / 64)) (e % 64)
/-- labels 2 s + t: street s with turn t, where tn s has it -/
def rs (A B G tn : Nat → Nat) (fr thr : Bool) (st a : Nat) : Option Nat := if (thr = true ∨ G (a / 2) = 0) ∧ (tn (a / 2)).testBit (a % 2) = true then mbeh A B G (fun _ => a % 2) fr st (a / 2) else none
def re (es : Nat → Nat → Option Nat) (m s x : Nat) : Prop := ∃ c, gw_way es m (fun _ => 0) s x c
section RE
variable {es : Nat → Nat → Option Nat} {m s x y a : Nat}
theorem re_nil : re es m s s := ⟨0, gw_nil⟩
theorem re_step (h : re es m s x) (ha : a < m) (he : es x a = some y) : re es m s y := by
  obtain ⟨c, h⟩ := h
  exact ⟨_, gw_step h ha he⟩
theorem re_ind {P : Nat → Prop} (h0 : P s) (hs : ∀ x a y, re es m s x → P x → a < m → es x a = some y → P y) : ∀ {x}, re es m s x → P x := by
  rintro x ⟨c, h⟩
  exact gw_ind (P := fun x _ => P x) h0 (fun x c a y hw hp ha he => hs x a y ⟨c, hw⟩ hp ha he) h
theorem re_lt {N : Nat} (hs : s < N) (hN : ∀ x, x < N → ∀ a, a < m → ∀ y, es x a = some y → y < N) (h : re es m s x) : x < N := re_ind (P := fun x => x < N) hs (fun x a y _ hx ha he => hN x hx a ha y he) h
end RE
theorem enc_hi : ∀ u, u < 378 → enc u / 64 = u % 7 * 2 + u / 7 % 2 := by decide +kernel
theorem enc_mv : ∀ u, u < 378 → ∀ p, p < 7 → ∀ f, f < 2 → enc (mmv u p f) = (p * 2 + f) * 64 + enc u % 64 := by decide +kernel
theorem enc_gt : ∀ u, u < 378 → ∀ p, p < 7 → ∀ f, f < 2 → ∀ g, g < 3 → enc (mmv u p f - mwt g * mmark u g + mwt g * (f + 1)) = (p * 2 + f) * 64 + (enc u % 64 - 4 ^ g * (enc u % 64 / 4 ^ g % 4) + 4 ^ g * (f + 1)) := by decide +kernel
theorem enc_mk : ∀ u, u < 378 → ∀ g, g < 3 → enc u % 64 / 4 ^ g % 4 = mmark u g := by decide +kernel
theorem inmk_lt {gt f b : Nat} (hg : gt ≤ 3) (hf : f < 2) (hb : b < 64) : inmk gt f b < 64 := by
  unfold inmk
  split
  · exact hb
  · rcases (show gt = 1 ∨ gt = 2 ∨ gt = 3 by omega) with rfl | rfl | rfl <;> omega
section BehS
variable {A B G tn : Nat → Nat} {fr thr : Bool} {u s t : Nat}
theorem beh_in (hu : u < 378) (hA : A s = u % 7) (hB : B s < 7) (hG : G s ≤ 3) : ∃ v, mbeh A B G (fun _ => t) fr u s = some v ∧ enc v = (B s * 2 + (u / 7 % 2 + t) % 2) * 64 + inmk (G s) ((u / 7 % 2 + t) % 2) (enc u % 64) := by
  have e7 : (u / 7 + t) % 2 = (u / 7 % 2 + t) % 2 := by omega
  have hff : (u / 7 % 2 + t) % 2 < 2 := Nat.mod_lt _ (by decide)
  unfold mbeh
  rw [if_pos hA, e7]
  by_cases h0 : G s = 0
  · rw [if_pos h0]
    refine ⟨_, rfl, ?_⟩
    rw [enc_mv u hu _ hB _ hff, inmk, if_pos h0]
  · rw [if_neg h0]
    refine ⟨_, rfl, ?_⟩
    rw [enc_gt u hu _ hB _ hff _ (by omega), inmk, if_neg h0]
theorem beh_out (hu : u < 378) (hA : ¬ A s = u % 7) (hB : B s = u % 7) (hA7 : A s < 7) (hG : G s ≤ 3) : (outok (G s) fr ((u / 7 % 2 + t) % 2) (enc u % 64) = true → ∃ v, mbeh A B G (fun _ => t) fr u s = some v ∧ enc v = (A s * 2 + (u / 7 % 2 + t) % 2) * 64 + enc u % 64) ∧ (outok (G s) fr ((u / 7 % 2 + t) % 2) (enc u % 64) = false → mbeh A B G (fun _ => t) fr u s = none) := by
  have e7 : (u / 7 + t) % 2 = (u / 7 % 2 + t) % 2 := by omega
  have hff : (u / 7 % 2 + t) % 2 < 2 := Nat.mod_lt _ (by decide)
  unfold mbeh
  rw [if_neg hA, if_pos hB, e7]
  by_cases h0 : G s = 0
  · rw [if_pos h0]
    refine ⟨fun _ => ⟨_, rfl, enc_mv u hu _ hA7 _ hff⟩, fun hh => ?_⟩
    simp [outok, h0] at hh
  · rw [if_neg h0]
    have em := enc_mk u hu (G s - 1) (by omega)
    constructor
    · intro hh
      unfold outok at hh
      rw [decide_eq_true_iff, em] at hh
      rw [if_pos (hh.resolve_left h0)]
      exact ⟨_, rfl, enc_mv u hu _ hA7 _ hff⟩
    · intro hh
      unfold outok at hh
      rw [decide_eq_false_iff_not, em] at hh
      rw [if_neg (fun z => hh (Or.inr z))]
theorem rs_eq (h : thr = true ∨ G s = 0) (ht : t < 2) (hb : (tn s).testBit t = true) : rs A B G tn fr thr u (2 * s + t) = mbeh A B G (fun _ => t) fr u s := by
  unfold rs
  rw [show (2 * s + t) / 2 = s by omega, show (2 * s + t) % 2 = t by omega, if_pos ⟨h, hb⟩]
theorem rs_no (ht : t < 2) (h : ¬ ((thr = true ∨ G s = 0) ∧ (tn s).testBit t = true)) : rs A B G tn fr thr u (2 * s + t) = none := by
  unfold rs
  rw [show (2 * s + t) / 2 = s by omega, show (2 * s + t) % 2 = t by omega, if_neg h]
theorem rs_lt {ns a y : Nat} (tok : Tok ns A B G) (ha : a < 2 * ns) (hu : u < 378) (h : rs A B G tn fr thr u a = some y) : y < 378 := by
  unfold rs at h
  split at h
  · obtain ⟨h1, h2, -, h3⟩ := tok.2 (a / 2) (by omega)
    exact mbeh_lt hu h1 h2 h3 h
  · cases h
end BehS
theorem ct_lt {p q : Nat → Bool} {n : Nat} (h : ∀ k, k < n → p k = true → q k = true) {x : Nat} (hx : x < n) (h1 : p x = false) (h2 : q x = true) : fb_ct p n < fb_ct q n := by
  have e := fb_ct_upd p true hx
  rw [h1] at e
  have e2 : fb_ct (fun k => if k = x then true else p k) n ≤ fb_ct q n := fb_ct_sub (fun k hk hh => by
    by_cases ek : k = x
    · subst ek; exact h2
    · simp only [if_neg ek] at hh
      exact h k hk hh)
  have e3 : fb_ct (fun k => if k = x then true else p k) n = fb_ct p n + 1 := by simpa using e
  omega
/-- what has grown -/
def gF (j j' : jL) (fl : Int32) : Prop := (∀ e, e < 896 → mS j e = true → mS j' e = true) ∧ ((fl = 0 ∧ ∀ e, e < 896 → mS j' e = mS j e) ∨ (fl = 1 ∧ fb_ct (mS j) 896 < fb_ct (mS j') 896))
theorem gF_rf {j : jL} : gF j j 0 := ⟨fun _ _ h => h, Or.inl ⟨rfl, fun _ _ => rfl⟩⟩
theorem gF_tr {j j1 j2 : jL} {f1 f2 : Int32} (h1 : gF j j1 f1) (h2 : gF j1 j2 f2) : gF j j2 (f1 ||| f2) := by
  obtain ⟨a1, a2⟩ := h1
  obtain ⟨b1, b2⟩ := h2
  refine ⟨fun e he h => b1 e he (a1 e he h), ?_⟩
  have c1 : fb_ct (mS j) 896 ≤ fb_ct (mS j1) 896 := fb_ct_sub a1
  have c2 : fb_ct (mS j1) 896 ≤ fb_ct (mS j2) 896 := fb_ct_sub b1
  rcases a2 with ⟨rfl, a2⟩ | ⟨rfl, a2⟩
  · rcases b2 with ⟨rfl, b2⟩ | ⟨rfl, b2⟩
    · exact Or.inl ⟨by decide, fun e he => (b2 e he).trans (a2 e he)⟩
    · exact Or.inr ⟨by decide, by omega⟩
  · rcases b2 with ⟨rfl, b2⟩ | ⟨rfl, b2⟩
    · exact Or.inr ⟨by decide, by omega⟩
    · exact Or.inr ⟨by decide, by omega⟩
theorem gF_fl {j j' : jL} {fl : Int32} (h : gF j j' fl) : fl = 0 ∨ fl = 1 := h.2.elim (fun z => Or.inl z.1) (fun z => Or.inr z.1)
def snd (es : Nat → Nat → Option Nat) (m st : Nat) (j : jL) : Prop := ∀ e, e < 896 → mS j e = true → ∃ u, u < 378 ∧ e = enc u ∧ re es m st u
theorem snd_join {es : Nat → Nat → Option Nat} {m st x : Nat} {j j' : jL} {w : Int64} (h : snd es m st j) (hj : ∀ e, e < 896 → mS j' e = (mS j e || (decide (e / 64 = x) && tb w (e % 64)))) (hw : ∀ b, b < 64 → tb w b = true → ∃ u, u < 378 ∧ x * 64 + b = enc u ∧ re es m st u) : snd es m st j' := by
  intro e he hh
  rw [hj e he, Bool.or_eq_true, Bool.and_eq_true, decide_eq_true_iff] at hh
  rcases hh with hh | ⟨h1, h2⟩
  · exact h e he hh
  · have := hw (e % 64) (Nat.mod_lt _ (by decide)) h2
    rw [show x * 64 + e % 64 = e by omega] at this
    exact this
/-- sound, and the streets of the first z codes are gone from all stands that there were -/
def rP (es : Nat → Nat → Option Nat) (m st : Nat) (j0 j : jL) (z : Nat) : Prop := snd es m st j ∧ (∀ e, e < 896 → mS j0 e = true → mS j e = true) ∧ ∀ c, c < z → ∀ u v, u < 378 → u / 7 % 2 = c / 2 % 2 → mS j0 (enc u) = true → es u (2 * (c / 4) + c % 2) = some v → mS j (enc v) = true
section Spread
variable {len : Nat → Nat} {r : jR} {i : jI} {ns st : Nat} {A B G P tn : Nat → Nat} {fr thr : Bool}
theorem sp_join {Q : Int32 → jI → jL → Prop} {j : jL} {x : Nat} {w : Int64} (hg : Gr r len) (hx : x < 14) (hQ : ∀ j' q, (∀ e, e < 896 → mS j' e = (mS j e || (decide (e / 64 = x) && tb w (e % 64)))) → gF j j' q → (∀ z f, z ≠ 28 → j' z f = j z f) → Q q i j') : J_X6_join len r Q i j 27 (nI x) w := by
  have hv : vp_in (nI x) 14 := vp_in_nI hx (by decide)
  rw [J_X6_join]
  refine ⟨28, hg.1 _ (by decide) _ (by decide) _ rfl, by rw [hg.2 _ (by decide)]; exact hv, fun v6 e6 => ⟨28, hg.1 _ (by decide) _ (by decide) _ rfl, by rw [hg.2 _ (by decide)]; exact hv, fun j1 e1 => ⟨28, hg.1 _ (by decide) _ (by decide) _ rfl, by rw [hg.2 _ (by decide)]; exact hv, ?_⟩⟩⟩
  rw [nI_clamp (by omega)] at e6 e1 ⊢
  have j1x : j1 28 x = v6 ||| w := by rw [e1, jul_eq, pk_uLs]
  have j1n : ∀ y, y ≠ x → j1 28 y = j 28 y := fun y hy => by rw [e1, jul_eq, pk_uLn hy]
  have j1o : ∀ z f, z ≠ 28 → j1 z f = j z f := fun z f hz => by rw [e1, jul_ne hz]
  have j1e : ∀ e, e < 896 → mS j1 e = (mS j e || (decide (e / 64 = x) && tb w (e % 64))) := by
    intro e he
    unfold mS
    by_cases h : e / 64 = x
    · rw [h, j1x, tb_or, e6]; simp
    · rw [j1n _ h]; simp [h]
  have mono : ∀ e, e < 896 → mS j e = true → mS j1 e = true := fun e he h => by rw [j1e e he, h]; rfl
  rw [lg_cmp_eq]
  by_cases hq : j1 28 x = v6
  · refine ⟨fun _ => hQ j1 0 j1e ⟨mono, Or.inl ⟨rfl, fun e he => ?_⟩⟩ j1o, fun hh => absurd hq hh⟩
    unfold mS
    by_cases h : e / 64 = x
    · rw [h, hq, e6]
    · rw [j1n _ h]
  · refine ⟨fun hh => absurd hh hq, fun _ => hQ j1 1 j1e ⟨mono, Or.inr ⟨rfl, ?_⟩⟩ j1o⟩
    have hex : ∃ b, b < 64 ∧ tb v6 b = false ∧ tb w b = true := by
      refine Classical.byContradiction (fun hn => hq ?_)
      rw [j1x]
      apply tb_ext
      intro b hb
      rw [tb_or]
      cases h1 : tb v6 b with
      | true => rfl
      | false =>
        cases h2 : tb w b with
        | false => rfl
        | true => exact absurd ⟨b, hb, h1, h2⟩ hn
    obtain ⟨b, hb, h1, h2⟩ := hex
    have d1 : (x * 64 + b) / 64 = x := by omega
    have d2 : (x * 64 + b) % 64 = b := by omega
    refine ct_lt mono (x := x * 64 + b) (by omega) ?_ ?_
    · unfold mS; rw [d1, d2, ← e6]; exact h1
    · unfold mS; rw [d1, d2, j1x, tb_or, h2, Bool.or_true]
theorem lp_pass {Q : Int32 → jI → jL → Prop} {j j0 : jL} {s foot : Nat} (hg : Gr r len) (tc : TC i ns A B G P fr) (htn : ∀ s, s < ns → i 29 s = nI (tn s) ∧ tn s < 4) (hst : st < 378) (hs : s < ns) (hf : foot < 2) (hthr : thr = true ∨ G s = 0) (hQ : ∀ j' fl', gF j j' fl' → rP (rs A B G tn fr thr) (2 * ns) st j0 j' (4 * s + 2 * foot + 2) → (∀ z f, z ≠ 28 → j' z f = j z f) → Q fl' i j') : ∀ (m t : Nat) (j1 : jL) (fl1 : Int32), t + m = 2 → gF j j1 fl1 → rP (rs A B G tn fr thr) (2 * ns) st j0 j1 (4 * s + 2 * foot + t) → (∀ z f, z ≠ 28 → j1 z f = j z f) → J_X6_pass_L34 len r Q (m + 1) i j1 27 3 (nI s) (nI foot) (nI (A s * 2)) (nI (B s * 2)) (nI (G s) - 1) fl1 (nI t) := by
  obtain ⟨-, hn, hfr, hts⟩ := id tc
  obtain ⟨-, hA, hB, hAB, hP, hG⟩ := hts s hs
  obtain ⟨htn1, htn2⟩ := htn s hs
  intro m
  induction m with
  | zero =>
    intro t j1 fl1 ht hgf hrp hfj
    have : t = 2 := by omega
    subst this
    rw [J_X6_pass_L34]
    exact ⟨fun _ => ⟨gF_fl hgf, hQ j1 fl1 hgf hrp hfj⟩, fun hh => absurd (by decide) hh⟩
  | succ m ih =>
    intro t j1 fl1 ht hgf hrp hfj
    have ht2 : t < 2 := by omega
    have next : ∀ (j2 : jL) (fl2 : Int32), gF j j2 fl2 → rP (rs A B G tn fr thr) (2 * ns) st j0 j2 (4 * s + 2 * foot + (t + 1)) → (∀ z f, z ≠ 28 → j2 z f = j z f) → J_X6_pass_L124 len r Q (J_X6_pass_L34 len r Q (m + 1)) i j2 27 3 (nI s) (nI foot) (nI (A s * 2)) (nI (B s * 2)) (nI (G s) - 1) fl2 (nI t) := by
      intro j2 fl2 h1 h2 h3
      rw [J_X6_pass_L124]
      intro v ev
      rw [nI_1] at ev
      subst ev
      exact ih (t + 1) j2 fl2 (by omega) h1 h2 h3
    have adv : ∀ j2, snd (rs A B G tn fr thr) (2 * ns) st j2 → (∀ e, e < 896 → mS j1 e = true → mS j2 e = true) → (∀ u v, u < 378 → u / 7 % 2 = foot → mS j0 (enc u) = true → rs A B G tn fr thr u (2 * s + t) = some v → mS j2 (enc v) = true) → rP (rs A B G tn fr thr) (2 * ns) st j0 j2 (4 * s + 2 * foot + (t + 1)) := by
      intro j2 h1 h2 h3
      obtain ⟨r1, r2, r3⟩ := hrp
      refine ⟨h1, fun e he h => h2 e he (r2 e he h), fun c hc u v hu huf hm he => ?_⟩
      by_cases e : c = 4 * s + 2 * foot + t
      · subst e
        rw [show (4 * s + 2 * foot + t) / 4 = s by omega, show (4 * s + 2 * foot + t) % 2 = t by omega] at he
        exact h3 u v hu (by omega) hm he
      · have hv : v < 378 := by
          refine rs_lt tc.tok ?_ hu he
          omega
        exact h2 _ (enc_lt v hv) (r3 c (by omega) u v hu huf hm he)
    rw [J_X6_pass_L34]
    refine ⟨fun hh => absurd hh (nI_nlt (a := 1) (by omega) (by decide)), fun _ => ⟨29, hg.1 _ (by decide) _ (by decide) _ rfl, by rw [hg.2 _ (by decide)]; exact vp_in_nI (by simp only [LL]; omega) (by decide), ?_⟩⟩
    rw [nI_clamp (show s < 2 ^ 31 by omega), htn1, sz_bit _ (by omega) t (by omega)]
    by_cases hbit : (tn s).testBit t = true
    · rw [if_pos hbit]
      refine ⟨fun hh => absurd hh (by decide), fun _ v58 e58 => ?_⟩
      rw [fx2 _ hf _ ht2] at e58
      subst e58
      have hf2 : (foot + t) % 2 < 2 := Nat.mod_lt _ (by decide)
      refine ⟨28, hg.1 _ (by decide) _ (by decide) _ rfl, ?_⟩
      rw [nI_add (A s * 2) foot, nI_clamp (show A s * 2 + foot < 2 ^ 31 by omega)]
      refine ⟨by rw [hg.2 _ (by decide)]; exact vp_in_nI (by simp only [LL]; omega) (by decide), sp_cameIn hG hf2 (fun w1 hw1 => ?_)⟩
      rw [nI_add (B s * 2) ((foot + t) % 2)]
      refine sp_join hg (by omega) (fun j2 q2 hj2 hg2 hf2' v88 e88 => ⟨28, hg.1 _ (by decide) _ (by decide) _ rfl, ?_⟩)
      subst e88
      rw [nI_add (B s * 2) foot, nI_clamp (show B s * 2 + foot < 2 ^ 31 by omega), hfr]
      refine ⟨by rw [hg.2 _ (by decide)]; exact vp_in_nI (by simp only [LL]; omega) (by decide), sp_letOut hG hf2 (fun w2 hw2 => ?_)⟩
      rw [nI_add (A s * 2) ((foot + t) % 2)]
      refine sp_join hg (by omega) (fun j3 q3 hj3 hg3 hf3' v122 e122 => ?_)
      subst e122
      have hsnd1 := hrp.1
      -- who stands at a place on a foot
      have at1 : ∀ (p : Nat) (jj : jL) (b : Nat), p < 7 → b < 64 → snd (rs A B G tn fr thr) (2 * ns) st jj → tb (jj 28 (p * 2 + foot)) b = true → ∃ u, u < 378 ∧ enc u % 64 = b ∧ u % 7 = p ∧ u / 7 % 2 = foot ∧ re (rs A B G tn fr thr) (2 * ns) st u := by
        intro p jj b hp hb hs1 hb1
        obtain ⟨u, hu, he, hre⟩ := hs1 ((p * 2 + foot) * 64 + b) (by omega) (by
          unfold mS
          rw [show ((p * 2 + foot) * 64 + b) / 64 = p * 2 + foot by omega, show ((p * 2 + foot) * 64 + b) % 64 = b by omega]
          exact hb1)
        have hh := enc_hi u hu
        rw [← he] at hh
        exact ⟨u, hu, by omega, by omega, by omega, hre⟩
      have hsnd2 : snd (rs A B G tn fr thr) (2 * ns) st j2 := snd_join hsnd1 hj2 (fun c hc hwc => by
        obtain ⟨b, hb, hb1, -, hb3⟩ := (hw1 c hc).mp hwc
        obtain ⟨u, hu, u1, u2, u3, hre⟩ := at1 (A s) j1 b hA hb hsnd1 hb1
        obtain ⟨v, v1, v2⟩ := beh_in (t := t) (fr := fr) hu u2.symm hB hG
        refine ⟨v, mbeh_lt hu hA hB hG v1, ?_, re_step (a := 2 * s + t) hre (by omega) (by rw [rs_eq hthr ht2 hbit]; exact v1)⟩
        rw [v2, u1, u3, hb3])
      have hsnd3 : snd (rs A B G tn fr thr) (2 * ns) st j3 := snd_join hsnd2 hj3 (fun c hc hwc => by
        rw [hw2 c hc, Bool.and_eq_true] at hwc
        obtain ⟨u, hu, u1, u2, u3, hre⟩ := at1 (B s) j2 c hB hc hsnd2 hwc.1
        obtain ⟨b1, -⟩ := beh_out (t := t) (fr := fr) hu (by rw [u2]; exact hAB) u2.symm hA hG
        obtain ⟨v, v1, v2⟩ := b1 (by rw [u3, u1]; exact hwc.2)
        refine ⟨v, mbeh_lt hu hA hB hG v1, ?_, re_step (a := 2 * s + t) hre (by omega) (by rw [rs_eq hthr ht2 hbit]; exact v1)⟩
        rw [v2, u1, u3])
      refine next j3 _ (gF_tr (gF_tr hgf hg2) hg3) (adv j3 hsnd3 (fun e he h => hg3.1 e he (hg2.1 e he h)) (fun u v hu huf hm he => ?_)) (fun z f hz => (hf3' z f hz).trans ((hf2' z f hz).trans (hfj z f hz)))
      rw [rs_eq hthr ht2 hbit] at he
      have hul := enc_lt u hu
      have hvl := enc_lt v (mbeh_lt hu hA hB hG he)
      have hh := enc_hi u hu
      have hm1 := hrp.2.1 _ hul hm
      by_cases ha : A s = u % 7
      · obtain ⟨v', v1, v2⟩ := beh_in (t := t) (fr := fr) hu ha hB hG
        rw [v1] at he
        cases he
        refine hg3.1 _ hvl ?_
        have il := inmk_lt (b := enc u % 64) hG hf2 (Nat.mod_lt _ (by decide))
        rw [huf] at v2
        rw [hj2 _ hvl, v2, show ((B s * 2 + (foot + t) % 2) * 64 + inmk (G s) ((foot + t) % 2) (enc u % 64)) / 64 = B s * 2 + (foot + t) % 2 by omega, show ((B s * 2 + (foot + t) % 2) * 64 + inmk (G s) ((foot + t) % 2) (enc u % 64)) % 64 = inmk (G s) ((foot + t) % 2) (enc u % 64) by omega]
        have := (hw1 _ il).mpr ⟨enc u % 64, Nat.mod_lt _ (by decide), by
          unfold mS at hm1
          rw [hh, ← ha, huf] at hm1
          exact hm1, by
          by_cases h0 : G s = 0
          · exact Or.inl h0
          · right
            rw [enc_mk u hu _ (by omega)]
            exact mmk_lt _ _, rfl⟩
        rw [this]
        simp
      · by_cases hb : B s = u % 7
        · obtain ⟨b1, b2⟩ := beh_out (t := t) (fr := fr) hu ha hb hA hG
          rw [huf] at b1 b2
          cases hok : outok (G s) fr ((foot + t) % 2) (enc u % 64) with
          | false => rw [b2 hok] at he; cases he
          | true =>
            obtain ⟨v', v1, v2⟩ := b1 hok
            rw [v1] at he
            cases he
            have hm2 := hg2.1 _ hul hm1
            unfold mS at hm2
            rw [hh, ← hb, huf] at hm2
            rw [hj3 _ hvl, v2, show ((A s * 2 + (foot + t) % 2) * 64 + enc u % 64) / 64 = A s * 2 + (foot + t) % 2 by omega, show ((A s * 2 + (foot + t) % 2) * 64 + enc u % 64) % 64 = enc u % 64 by omega, hw2 _ (Nat.mod_lt _ (by decide)), hm2, hok]
            simp
        · unfold mbeh at he
          rw [if_neg ha, if_neg hb] at he
          cases he
    · rw [if_neg hbit]
      refine ⟨fun _ => next j1 fl1 hgf (adv j1 hrp.1 (fun _ _ h => h) (fun u v hu huf hm he => ?_)) hfj, fun hh => absurd (by decide) hh⟩
      rw [rs_no ht2 (fun z => hbit z.2)] at he
      cases he
theorem sp_pass {Q : Int32 → jI → jL → Prop} {j j0 : jL} {s foot : Nat} (hg : Gr r len) (tc : TC i ns A B G P fr) (htn : ∀ s, s < ns → i 29 s = nI (tn s) ∧ tn s < 4) (hst : st < 378) (hs : s < ns) (hf : foot < 2) (hthr : thr = true ∨ G s = 0) (hrp : rP (rs A B G tn fr thr) (2 * ns) st j0 j (4 * s + 2 * foot)) (hQ : ∀ j' fl', gF j j' fl' → rP (rs A B G tn fr thr) (2 * ns) st j0 j' (4 * s + 2 * foot + 2) → (∀ z f, z ≠ 28 → j' z f = j z f) → Q fl' i j') : J_X6_pass len r Q i j 27 3 (nI s) (nI foot) := by
  obtain ⟨-, hn, hfr, hts⟩ := id tc
  obtain ⟨⟨eA, eB, eP, eG⟩, hA, hB, hAB, hP, hG⟩ := hts s hs
  have ec : (nI s).toNatClampNeg = s := nI_clamp (by omega)
  have hv : vp_in (nI s) 10 := vp_in_nI (by omega) (by decide)
  rw [J_X6_pass]
  refine ⟨4, hg.1 _ (by decide) _ (by decide) _ rfl, by rw [hg.2 _ (by decide)]; exact hv, fun v8 e8 => ⟨5, hg.1 _ (by decide) _ (by decide) _ rfl, by rw [hg.2 _ (by decide)]; exact hv, fun v18 e18 => ⟨7, hg.1 _ (by decide) _ (by decide) _ rfl, by rw [hg.2 _ (by decide)]; exact hv, fun v26 e26 => ⟨3, ?_⟩⟩⟩⟩
  rw [ec, eA, show nI (A s) * (2 : Int32) = nI (A s * 2) from pk_mul _ 2] at e8
  rw [ec, eB, show nI (B s) * (2 : Int32) = nI (B s * 2) from pk_mul _ 2] at e18
  rw [ec, eG] at e26
  subst e8 e18 e26
  exact lp_pass hg tc htn hst hs hf hthr hQ 2 0 j 0 (by omega) gF_rf hrp (fun _ _ _ => rfl)
theorem lp_s48 {Q : jI → jL → Prop} {Hd : jI → jL → Nat → Nat → Int32 → Int32 → Int32 → Prop} {j0 : jL} {n : Nat} (hg : Gr r len) (tc : TC i ns A B G P fr) (htn : ∀ s, s < ns → i 29 s = nI (tn s) ∧ tn s < 4) (hst : st < 378) (hH : ∀ j' fl', gF j0 j' fl' → rP (rs A B G tn fr thr) (2 * ns) st j0 j' (4 * ns) → (∀ z f, z ≠ 28 → j' z f = j0 z f) → Hd i j' 27 3 (bI thr) fl' (nI (n + 1))) : ∀ (m x : Nat) (j1 : jL) (fl1 : Int32), x + m = ns → gF j0 j1 fl1 → rP (rs A B G tn fr thr) (2 * ns) st j0 j1 (4 * x) → (∀ z f, z ≠ 28 → j1 z f = j0 z f) → J_X6_spread_L48 len r Q Hd (m + 1) i j1 27 3 (bI thr) fl1 (nI n) (nI x) := by
  have hn := tc.2.1
  intro m
  induction m with
  | zero =>
    intro x j1 fl1 hx hgf hrp hfj
    have hx' : x = ns := by omega
    subst hx'
    rw [J_X6_spread_L48]
    dsimp only
    rw [tc.1]
    refine ⟨fun _ v ev => ?_, fun hh => absurd (nI_le (Nat.le_refl _) (by omega)) hh⟩
    rw [nI_1] at ev
    subst ev
    exact hH j1 fl1 hgf hrp hfj
  | succ m ih =>
    intro x j1 fl1 hx hgf hrp hfj
    have hxn : x < ns := by omega
    obtain ⟨⟨-, -, -, eG⟩, -, -, -, -, hG⟩ := tc.2.2.2 x hxn
    have fin : ∀ (j2 : jL) (fl2 : Int32), gF j0 j2 fl2 → rP (rs A B G tn fr thr) (2 * ns) st j0 j2 (4 * (x + 1)) → (∀ z f, z ≠ 28 → j2 z f = j0 z f) → J_X6_spread_L98 len r Q Hd (J_X6_spread_L48 len r Q Hd (m + 1)) i j2 27 3 (bI thr) fl2 (nI n) (nI x) := by
      intro j2 fl2 h1 h2 h3
      rw [J_X6_spread_L98]
      intro v ev
      rw [nI_1] at ev
      subst ev
      exact ih (x + 1) j2 fl2 (by omega) h1 h2 h3
    have go : (thr = true ∨ G x = 0) → J_X6_spread_L72 len r Q Hd (J_X6_spread_L48 len r Q Hd (m + 1)) i j1 27 3 (bI thr) fl1 (nI n) (nI x) := by
      intro hthr
      rw [J_X6_spread_L72]
      refine sp_pass (foot := 0) (j0 := j0) hg tc htn hst hxn (by decide) hthr hrp (fun j2 fl2 g2 r2 f2 v83 e83 => ?_)
      subst e83
      refine sp_pass (foot := 1) (j0 := j0) hg tc htn hst hxn (by decide) hthr r2 (fun j3 fl3 g3 r3 f3 v96 e96 => ?_)
      subst e96
      exact fin j3 _ (gF_tr (gF_tr hgf g2) g3) r3 (fun z f hz => (f3 z f hz).trans ((f2 z f hz).trans (hfj z f hz)))
    rw [J_X6_spread_L48]
    dsimp only
    rw [tc.1]
    refine ⟨fun hh => absurd hh (nI_ge (by omega) (by omega)), fun _ => ?_⟩
    cases thr with
    | true => exact ⟨fun _ => go (Or.inl rfl), fun hh => absurd hh (by decide)⟩
    | false =>
      refine ⟨fun hh => absurd (by decide) hh, fun _ => ⟨7, hg.1 _ (by decide) _ (by decide) _ rfl, by rw [hg.2 _ (by decide)]; exact vp_in_nI (by simp only [LL]; omega) (by decide), ?_⟩⟩
      rw [nI_clamp (show x < 2 ^ 31 by omega), eG]
      refine ⟨fun hne => ?_, fun heq => go (Or.inr ((gt_eq _ (by omega)).1.mp heq))⟩
      have h0 : ¬ G x = 0 := fun z => hne ((gt_eq _ (by omega)).1.mpr z)
      obtain ⟨r1, r2, r3⟩ := hrp
      refine fin j1 fl1 hgf ⟨r1, r2, fun c hc u v hu huf hm he => ?_⟩ hfj
      by_cases e : c < 4 * x
      · exact r3 c e u v hu huf hm he
      · rw [show c / 4 = x by omega, rs_no (Nat.mod_lt _ (by decide)) (fun z => z.1.elim (fun z => (by cases z)) h0)] at he
        cases he
theorem lp_s29 {Q : jI → jL → Prop} {j : jL} (hg : Gr r len) (tc : TC i ns A B G P fr) (htn : ∀ s, s < ns → i 29 s = nI (tn s) ∧ tn s < 4) (hst : st < 378) (hQ : ∀ j', (∀ e, e < 896 → (mS j' e = true ↔ ∃ u, u < 378 ∧ e = enc u ∧ re (rs A B G tn fr thr) (2 * ns) st u)) → (∀ z f, z ≠ 28 → j' z f = j z f) → Q i j') : ∀ (g n : Nat) (j1 : jL) (fl : Int32), n + g = 900 → snd (rs A B G tn fr thr) (2 * ns) st j1 → mS j1 (enc st) = true → ((fl = 0 ∧ n ≤ 897 ∧ ∀ a, a < 2 * ns → ∀ u v, u < 378 → mS j1 (enc u) = true → rs A B G tn fr thr u a = some v → mS j1 (enc v) = true) ∨ (fl = 1 ∧ n ≤ fb_ct (mS j1) 896)) → (∀ z f, z ≠ 28 → j1 z f = j z f) → J_X6_spread_L29 len r Q g i j1 27 3 (bI thr) fl (nI n) := by
  intro g
  induction g with
  | zero =>
    intro n j1 fl hn h1 h2 h3 h4
    have := fb_ct_le (mS j1) 896
    rcases h3 with h3 | h3
    · omega
    · have := h3.2; omega
  | succ g ih =>
    intro n j1 fl hn h1 h2 h3 h4
    rw [J_X6_spread_L29]
    rcases h3 with ⟨rfl, h5, h6⟩ | ⟨rfl, h5⟩
    · refine ⟨fun _ => hQ j1 (fun e he => ⟨h1 e he, ?_⟩) h4, fun hh => absurd rfl hh⟩
      rintro ⟨u, hu, rfl, hre⟩
      have key : u < 378 ∧ mS j1 (enc u) = true := re_ind (P := fun u => u < 378 ∧ mS j1 (enc u) = true) ⟨hst, h2⟩ (fun x a y _ hx ha he2 => ⟨rs_lt tc.tok ha hx.1 he2, h6 a ha x y hx.1 hx.2 he2⟩) hre
      exact key.2
    · have hc := fb_ct_le (mS j1) 896
      refine ⟨fun hh => absurd hh (by decide), fun _ => ⟨fun hh => absurd hh (nI_nlt (a := 896) (by omega) (by decide)), fun _ => ⟨ns + 1, ?_⟩⟩⟩
      refine lp_s48 (j0 := j1) hg tc htn hst (fun j2 fl2 g2 r2 f2 => ?_) ns 0 j1 0 (by omega) gF_rf ⟨h1, fun _ _ h => h, fun c hc => by omega⟩ (fun _ _ _ => rfl)
      refine ih (n + 1) j2 fl2 (by omega) r2.1 (g2.1 _ (enc_lt st hst) h2) ?_ (fun z f hz => (f2 z f hz).trans (h4 z f hz))
      rcases g2.2 with ⟨e1, e2⟩ | ⟨e1, e2⟩
      · refine Or.inl ⟨e1, by omega, fun a ha u v hu hm he => ?_⟩
        rw [e2 _ (enc_lt u hu)] at hm
        refine r2.2.2 (4 * (a / 2) + 2 * (u / 7 % 2) + a % 2) (by omega) u v hu (by omega) hm ?_
        rw [show 2 * ((4 * (a / 2) + 2 * (u / 7 % 2) + a % 2) / 4) + (4 * (a / 2) + 2 * (u / 7 % 2) + a % 2) % 2 = a by omega]
        exact he
      · exact Or.inr ⟨e1, by omega⟩
theorem lp_fillL {Q : jI → jL → Prop} {j0 : jL} {a L : Nat} {v : Int64} (hl : len a = L) (hL : L < 2 ^ 31) (hQ : ∀ j', (∀ y, y < L → j' a y = v) → (∀ z f, z ≠ a → j' z f = j0 z f) → Q i j') : ∀ (m x : Nat) (j : jL), x + m = L → (∀ y, y < x → j a y = v) → (∀ z f, z ≠ a → j z f = j0 z f) → J_J7_fill_d0a16_L6 len r Q (m + 1) i j a v (nI x) (nI L) := by
  intro m
  induction m with
  | zero =>
    intro x j hx h1 h2
    have hx' : x = L := by omega
    subst hx'
    rw [J_J7_fill_d0a16_L6]
    exact ⟨fun _ => hQ j h1 h2, fun hh => absurd (nI_le (Nat.le_refl _) hL) hh⟩
  | succ m ih =>
    intro x j hx h1 h2
    rw [J_J7_fill_d0a16_L6]
    refine ⟨fun hh => absurd hh (nI_ge (by omega) hL), fun _ => ⟨by rw [hl]; exact vp_in_nI (by omega) hL, fun j1 e1 v1 ev => ?_⟩⟩
    rw [nI_clamp (by omega)] at e1
    rw [nI_1] at ev
    subst ev
    refine ih (x + 1) j1 (by omega) (fun y hy => ?_) (fun z f hz => ?_)
    · rw [e1, jul_eq]
      by_cases e : y = x
      · subst e; rw [pk_uLs]
      · rw [pk_uLn e]; exact h1 y (by omega)
    · rw [e1, jul_ne hz]; exact h2 z f hz
theorem sp_fillL {Q : jI → jL → Prop} {j : jL} {a L : Nat} {v : Int64} (hl : len a = L) (hL : L < 2 ^ 31) (hQ : ∀ j', (∀ y, y < L → j' a y = v) → (∀ z f, z ≠ a → j' z f = j z f) → Q i j') : J_J7_fill_d0a16 len r Q i j a v := by
  rw [J_J7_fill_d0a16]
  intro v4 e4
  rw [hl] at e4
  have e5 : v4 = nI L := e4
  subst e5
  exact ⟨L + 1, lp_fillL hl hL hQ L 0 j (by omega) (fun y hy => by omega) (fun _ _ _ => rfl)⟩
theorem enc_63 : ∀ u, u < 378 → nI (enc u) &&& (63 : Int32) = nI (enc u % 64) := by decide +kernel
theorem sp_spread {Q : jI → jL → Prop} {j : jL} (hg : Gr r len) (tc : TC i ns A B G P fr) (htn : ∀ s, s < ns → i 29 s = nI (tn s) ∧ tn s < 4) (hst : st < 378) (hQ : ∀ j', (∀ e, e < 896 → (mS j' e = true ↔ ∃ u, u < 378 ∧ e = enc u ∧ re (rs A B G tn fr thr) (2 * ns) st u)) → (∀ z f, z ≠ 28 → j' z f = j z f) → Q i j') : J_X6_spread len r Q i j 27 3 (nI (enc st)) (bI thr) := by
  have hes := enc_lt st hst
  rw [J_X6_spread]
  refine ⟨28, hg.1 _ (by decide) _ (by decide) _ rfl, sp_fillL (L := 14) (hg.2 28 (by decide)) (by decide) (fun j1 h1 h2 => ⟨28, hg.1 _ (by decide) _ (by decide) _ rfl, ?_⟩)⟩
  rw [J_X7_marksOf, enc_63 st hst, show nI (enc st) / (64 : Int32) = nI (enc st / 64) from pk_div (d := 64) (by omega) (by decide) (by decide)]
  refine ⟨by rw [hg.2 _ (by decide)]; exact vp_in_nI (by show enc st / 64 < 14; omega) (by decide), fun j2 e2 => ⟨900, ?_⟩⟩
  rw [nI_clamp (by omega)] at e2
  have bit : ∀ e, e < 896 → mS j2 e = decide (e = enc st) := by
    intro e he
    unfold mS
    rw [e2, jul_eq]
    by_cases h : e / 64 = enc st / 64
    · rw [h, pk_uLs, tb_one (Nat.mod_lt _ (by decide)) (Nat.mod_lt _ (by decide))]
      apply decide_eq_decide.mpr
      omega
    · rw [pk_uLn h, h1 _ (by omega), tb_zero]
      symm
      rw [decide_eq_false_iff_not]
      intro z
      exact h (by rw [z])
  refine lp_s29 hg tc htn hst hQ 900 0 j2 1 (by omega) (fun e he hh => ?_) ?_ (Or.inr ⟨rfl, Nat.zero_le _⟩) (fun z f hz => ?_)
  · rw [bit e he, decide_eq_true_iff] at hh
    exact ⟨st, hst, hh, re_nil⟩
  · rw [bit _ hes]; simp
  · rw [e2, jul_ne hz]; exact h2 z f hz
end Spread
