/-! both() while the arms are not made yet: it makes them -/
def Kp65 (g g1 : jS) : Prop := ∀ q, q < 65 → gK g1 q = gK g q ∧ gl g1 q = gl g q ∧ gr g1 q = gr g q ∧ gi g1 q = gi g q
theorem Kp65.tr {g g1 g2 : jS} (h1 : Kp65 g g1) (h2 : Kp65 g1 g2) : Kp65 g g2 := fun q hq => ⟨(h2 q hq).1.trans (h1 q hq).1, (h2 q hq).2.1.trans (h1 q hq).2.1, (h2 q hq).2.2.1.trans (h1 q hq).2.2.1, (h2 q hq).2.2.2.trans (h1 q hq).2.2.2⟩
theorem Kp65_new {kd ln : Nat} {g g1 : jS} (h : 65 ≤ gN g) (e : g1 = gnew kd ln g) : Kp65 g g1 := by
  subst e
  intro q hq
  have hne : q ≠ gN g := by omega
  exact ⟨va_up_ne _ _ hne, va_up_ne _ _ hne, va_up_ne _ _ hne, va_up_ne _ _ hne⟩
theorem Kp65_pr {k f v : Nat} {g g1 : jS} (h : 65 ≤ k) (e : g1 = gpr g k f v) : Kp65 g g1 := by
  subst e
  intro q hq
  have hne : q ≠ k := by omega
  exact ⟨rfl, rfl, jur_ne hne, rfl⟩
theorem n_new {kd ln n : Nat} {g g1 : jS} (h : gN g = n) (e : g1 = gnew kd ln g) : gN g1 = n + 1 := by
  subst e
  show gN g + 1 = n + 1
  rw [h]
theorem n_pr {k f v n : Nat} {g g1 : jS} (h : gN g = n) (e : g1 = gpr g k f v) : gN g1 = n := by
  subst e
  exact h
theorem r_new {kd ln q : Nat} {g g1 : jS} (h : q ≠ gN g) (e : g1 = gnew kd ln g) : gr g1 q = gr g q ∧ gl g1 q = gl g q := by
  subst e
  exact ⟨va_up_ne _ _ h, va_up_ne _ _ h⟩
theorem l_new {kd ln n : Nat} {g g1 : jS} (h : gN g = n) (e : g1 = gnew kd ln g) : gl g1 n = ln := by
  subst e
  subst h
  exact va_up_self _ _ _
theorem l_pr {k f v : Nat} {g g1 : jS} (e : g1 = gpr g k f v) : gl g1 = gl g := by
  subst e
  rfl
theorem r_pr {k f v : Nat} {g g1 : jS} (e : g1 = gpr g k f v) : gr g1 k f = some v := by
  subst e
  show jur (gr g) k f (some v) k f = some v
  rw [jur_eq, va_up_self]
theorem r_prk {k f v z : Nat} {g g1 : jS} (h : z ≠ f) (e : g1 = gpr g k f v) : gr g1 k z = gr g k z := by
  subst e
  show jur (gr g) k f (some v) k z = gr g k z
  rw [jur_eq, va_up_ne _ _ h]
theorem r_prn {k f v q : Nat} {g g1 : jS} (h : q ≠ k) (e : g1 = gpr g k f v) : gr g1 q = gr g q := by
  subst e
  show jur (gr g) k f (some v) q = gr g q
  rw [jur_ne h]
set_option maxHeartbeats 1000000 in
theorem arms_new {T : jS → Prop} {g : jS} (hN : gN g = 65) (hg : Gr (gr g) (gl g)) (hQ : ∀ g1 : jS, gN g1 = 71 → (∀ q, q < 65 → gK g1 q = gK g q) → (∀ q, q < 65 → gi g1 q = gi g q) → Gr (gr g1) (gl g1) → hgA (gr g1) (gl g1) → gr g1 0 14 = some 65 → T g1) : ∀ g109 : jS, g109 = gnew 0 0 g → J_X0_init (fun g113 : jS => ∀ g116 : jS, g116 = gpr g113 0 14 (gN g) → T g116) g109 (gN g) := by
  intro g0 e0
  rw [J_X0_init]
  intro g1 e1
  rw [J_X3_init]
  intro g2 e2 g3 e3 g4 e4 g5 e5 g6 e6 g7 e7 g8 e8 g9 e9 g10 e10 g11 e11
  have n0 := n_new hN e0
  have n1 := n_new n0 e1
  have n2 := n_new n1 e2
  have n3 := n_pr n2 e3
  have n4 := n_new n3 e4
  have n5 := n_pr n4 e5
  have n6 := n_new n5 e6
  have n7 := n_pr n6 e7
  have n8 := n_pr n7 e8
  have n9 := n_new n8 e9
  have n10 := n_pr n9 e10
  have n11 := n_pr n10 e11
  rw [n0, n1] at e3
  rw [n0, n3] at e5
  rw [n0, n5] at e7
  rw [hN, n0] at e8
  rw [hN, n8] at e10
  rw [hN] at e11
  have kk : Kp65 g g10 := (Kp65_new (by omega) e0).tr ((Kp65_new (by omega) e1).tr ((Kp65_new (by omega) e2).tr ((Kp65_pr (by decide) e3).tr ((Kp65_new (by omega) e4).tr ((Kp65_pr (by decide) e5).tr ((Kp65_new (by omega) e6).tr ((Kp65_pr (by decide) e7).tr ((Kp65_pr (by decide) e8).tr ((Kp65_new (by omega) e9).tr (Kp65_pr (by decide) e10))))))))))
  have el11 := l_pr e11
  have el10 := l_pr e10
  have el8 := l_pr e8
  have el7 := l_pr e7
  have el5 := l_pr e5
  have el3 := l_pr e3
  have f1 : ∀ q, q ≠ 0 → gr g11 q = gr g10 q := fun q hq => r_prn hq e11
  have a0 : gr g11 65 0 = some 66 := by
    rw [f1 _ (by decide), r_prk (by decide) e10, (r_new (by omega) e9).1]
    exact r_pr e8
  have a1 : gr g11 65 1 = some 70 := by
    rw [f1 _ (by decide)]
    exact r_pr e10
  have up : gr g11 66 = gr g7 66 := by
    rw [f1 _ (by decide), r_prn (by decide) e10, (r_new (by omega) e9).1, r_prn (by decide) e8]
  have a2 : gr g11 66 0 = some 67 := by
    rw [up, r_prk (by decide) e7, (r_new (by omega) e6).1, r_prk (by decide) e5, (r_new (by omega) e4).1]
    exact r_pr e3
  have a3 : gr g11 66 1 = some 68 := by
    rw [up, r_prk (by decide) e7, (r_new (by omega) e6).1]
    exact r_pr e5
  have a4 : gr g11 66 2 = some 69 := by
    rw [up]
    exact r_pr e7
  have l70 : gl g11 70 = 3500 := by
    rw [el11, el10]
    exact l_new n8 e9
  have l69 : gl g11 69 = 3500 := by
    rw [el11, el10, (r_new (by omega) e9).2, el8, el7]
    exact l_new n5 e6
  have l68 : gl g11 68 = 3500 := by
    rw [el11, el10, (r_new (by omega) e9).2, el8, el7, (r_new (by omega) e6).2, el5]
    exact l_new n3 e4
  have l67 : gl g11 67 = 3500 := by
    rw [el11, el10, (r_new (by omega) e9).2, el8, el7, (r_new (by omega) e6).2, el5, (r_new (by omega) e4).2, el3]
    exact l_new n1 e2
  refine hQ g11 n11 (fun q hq => ?_) (fun q hq => ?_) ⟨fun k hk f hf z hz => ?_, fun k hk => ?_⟩ ⟨a0, a1, ⟨a2, a3, a4, l67, l68, l69, by decide, by decide, by decide, by decide, by decide, by decide, by decide⟩, l70⟩ (r_pr e11)
  · rw [show gK g11 = gK g10 by rw [e11]; rfl]
    exact (kk q hq).1
  · rw [show gi g11 = gi g10 by rw [e11]; rfl]
    exact (kk q hq).2.2.2
  · by_cases h0 : k = 0
    · subst h0
      have hne : f ≠ 14 := fun h => by
        subst h
        cases hz
      rw [r_prk hne e11, (kk 0 hk).2.2.1]
      exact hg.1 _ hk _ hf _ hz
    · rw [f1 k h0, (kk k hk).2.2.1]
      exact hg.1 _ hk _ hf _ hz
  · rw [el11, (kk k hk).2.1]
    exact hg.2 _ hk
section OkBothN
variable {k : Nat} {y1 y2 y3 : Int32} {Inv : jS → Prop} {g : jS}
set_option maxHeartbeats 2000000 in
theorem ok_19n (hN : gN g = 65) (h14 : gr g 0 14 = none) (hg : Gr (gr g) (gl g)) (h : Rp k (gi g)) (hI1 : ∀ i2 j2, Rp (k + 5) i2 → Inv (gsi g i2 j2)) (hI2 : ∀ (g1 : jS) i2 j2, gN g1 = 71 → (∀ q, q < 65 → gK g1 q = gK g q) → gr g1 0 14 = some 65 → hgA (gr g1) (gl g1) → Gr (gr g1) (gl g1) → Rp (k + 5) i2 → Inv (gsi g1 i2 j2)) : Lw_19n Inv g y1 y2 y3 := by
  obtain ⟨N, K, len, r, i, j⟩ := g
  replace hN : N = 65 := hN
  subst hN
  replace h14 : r 0 14 = none := h14
  replace hg : Gr r len := hg
  replace h : Rp k i := h
  have hR := h.up (k2 := k + 5) (by omega)
  obtain ⟨ns, ng, nt, nw, np, dn, pl, A, B, G, P, fr, h1, h2, h3, h4, h5, h6, h7, h8⟩ := h
  obtain ⟨w1, w2, w3, w4⟩ := h4
  unfold Lw_19n
  rw [J_X11_both_new]
  rcases out_or y1 (n := nw) (by omega) with ho | ⟨a, ha, rfl⟩
  · refine wkC_no (len := len) (r := r) (i := i) (j := j) (by omega) w2 ho (fun g2 e => ?_)
    obtain rfl : g2 = (65, K, len, r, i, j) := e
    refine ⟨fun _ => ?_, fun hh => absurd rfl hh⟩
    exact rb_1 (W := fun i2 j2 => Inv (gsi (65, K, len, r, i, j) i2 j2)) w1 w3 ho (hI1 _ _ hR)
  · refine wkC_yes (len := len) (r := r) (i := i) (j := j) (by omega) w2 ha (fun g2 e => ?_)
    obtain rfl : g2 = (65, K, len, r, i, j) := e
    refine ⟨fun hh => absurd hh (by decide), fun _ => ?_⟩
    rcases out_or y2 (n := nw) (by omega) with ho | ⟨b, hb, rfl⟩
    · refine wkC_no (len := len) (r := r) (i := i) (j := j) (by omega) w2 ho (fun g2 e => ?_)
      obtain rfl : g2 = (65, K, len, r, i, j) := e
      refine ⟨fun _ => ?_, fun hh => absurd rfl hh⟩
      exact rb_2 (W := fun i2 j2 => Inv (gsi (65, K, len, r, i, j) i2 j2)) w1 w3 ha ho (hI1 _ _ hR)
    · refine wkC_yes (len := len) (r := r) (i := i) (j := j) (by omega) w2 hb (fun g2 e => ?_)
      obtain rfl : g2 = (65, K, len, r, i, j) := e
      refine ⟨fun hh => absurd hh (by decide), fun _ => ⟨fun heq => ?_, fun hne => ?_⟩⟩
      · have e : a = b := (nI_eq (by omega) (by omega)).mp heq
        subst e
        exact rb_3 (W := fun i2 j2 => Inv (gsi (65, K, len, r, i, j) i2 j2)) w1 w3 ha (hI1 _ _ hR)
      · rcases out_or y3 (n := 7) (by decide) with ho | ⟨p, hp, rfl⟩
        · refine plC_no (len := len) (r := r) (i := i) (j := j) ho (fun g2 e => ?_)
          obtain rfl : g2 = (65, K, len, r, i, j) := e
          refine ⟨fun hh => absurd rfl hh, fun _ => ?_⟩
          exact rb_4 (W := fun i2 j2 => Inv (gsi (65, K, len, r, i, j) i2 j2)) w1 w3 ha hb hne ho (hI1 _ _ hR)
        · obtain ⟨ka, sa, a1, a2, a3, a4, a5, a6, -⟩ := w4 a ha
          obtain ⟨kb, sb, b1, b2, b3, b4, b5, b6, -⟩ := w4 b hb
          have eca : (nI a).toNatClampNeg = a := nI_clamp (by omega)
          have ecb : (nI b).toNatClampNeg = b := nI_clamp (by omega)
          have hva : vp_in (nI a) (len 9) := by rw [hg.2 _ (by decide)]; exact vp_in_nI (show a < 5 by omega) (by decide)
          have hvb : vp_in (nI b) (len 9) := by rw [hg.2 _ (by decide)]; exact vp_in_nI (show b < 5 by omega) (by decide)
          have h7a : sa % 7 < 7 := Nat.mod_lt _ (by decide)
          have h7b : sb % 7 < 7 := Nat.mod_lt _ (by decide)
          refine plC_yes (len := len) (r := r) (i := i) (j := j) hp (fun g2 e => ?_)
          obtain rfl : g2 = (65, K, len, r, i, j) := e
          refine ⟨fun _ => ⟨9, hg.1 0 (by decide) 2 (by decide) _ rfl, hva, 32 + a, by rw [eca]; exact hg.1 9 (by decide) a (by omega) _ (RR9 a (by omega)), 9, hg.1 0 (by decide) 2 (by decide) _ rfl, hvb, 32 + b, by rw [ecb]; exact hg.1 9 (by decide) b (by omega) _ (RR9 b (by omega)), ?_⟩, fun hh => absurd hh (by decide)⟩
          rw [show gi ((65, K, len, r, i, j) : jS) (32 + a) 1 = nI (enc sa) from a6]
          refine sp_placeOf (len := len) (r := r) (i := i) (j := j) a2 (fun g2 e => ?_)
          obtain rfl : g2 = (65, K, len, r, i, j) := e
          rw [show gi ((65, K, len, r, i, j) : jS) (32 + b) 1 = nI (enc sb) from b6]
          refine sp_placeOf (len := len) (r := r) (i := i) (j := j) b2 (fun g2 e => ?_)
          obtain rfl : g2 = (65, K, len, r, i, j) := e
          refine ⟨fun heq => ?_, fun hne2 => ?_⟩
          · have hab : sa % 7 = sb % 7 := (nI_eq (by omega) (by omega)).mp heq
            refine ⟨16, hg.1 0 (by decide) 9 (by decide) _ rfl, 3, hg.1 0 (by decide) 1 (by decide) _ rfl, ?_⟩
            rw [show gi ((65, K, len, r, i, j) : jS) (32 + a) 0 = nI ka from a4]
            refine sp_gait (len := len) (r := r) (i := i) (j := j) hg (hg16 hg) h1.2.1 a1 (fun i1 f1 ga1 g2 e => ?_)
            obtain rfl : g2 = (65, K, len, r, i1, j) := e
            refine ⟨19, hg.1 0 (by decide) 10 (by decide) _ rfl, 3, hg.1 0 (by decide) 1 (by decide) _ rfl, ?_⟩
            have tc1 : TC i1 ns A B G P fr := h1.2.1.wf (gF.wf f1)
            rw [show gi ((65, K, len, r, i1, j) : jS) (32 + b) 0 = nI kb from (f1 (32 + b) 0 (by omega) (by omega)).trans b4]
            refine sp_gait (len := len) (r := r) (i := i1) (j := j) hg (hg19 hg) tc1 b1 (fun i2 f2 ga2 g2 e => ?_)
            obtain rfl : g2 = (65, K, len, r, i2, j) := e
            refine ⟨h14, arms_new (g := (65, K, len, r, i2, j)) rfl hg (fun g7 n7 k7 i7 hg7 hA7 t7 => ?_)⟩
            replace i7 : ∀ q, q < 65 → gi g7 q = i2 q := i7
            have f3 : wF i2 (gi g7) := fun x f hk => congrFun (i7 x (by unfold kp at hk; omega)) f
            have tc2 : TC (gi g7) ns A B G P fr := (tc1.wf (gF2.wf f2)).wf f3
            have ga1' : ga (gi g7) 17 18 ns (fun s => mstep ka (P s)) (fun s => mturn ka (P s)) := fun s hs => by
              rw [i7 17 (by decide), i7 18 (by decide), f2 17 s (by decide) (by decide), f2 18 s (by decide) (by decide)]
              exact ga1 s hs
            have ga2' : ga (gi g7) 20 21 ns (fun s => mstep kb (P s)) (fun s => mturn kb (P s)) := fun s hs => by
              rw [i7 20 (by decide), i7 21 (by decide)]
              exact ga2 s hs
            refine ⟨65, t7, ?_⟩
            rw [i7 (32 + a) (by omega), i7 (32 + b) (by omega), f2 (32 + a) 1 (by omega) (by omega), f1 (32 + a) 1 (by omega) (by omega), a6, f2 (32 + b) 1 (by omega) (by omega), f1 (32 + b) 1 (by omega) (by omega), b6]
            refine sp_armsC (len := gl g7) (r := gr g7) (i := gi g7) (j := gj g7) (Q := fun q i3 j3 => ∀ g8 : jS, g8 = gsi g7 i3 j3 → J_X12_both (gl g8) (gr g8) (fun q2 i2 j2 => q = q2 ∧ Inv (gsi g8 i2 j2)) (gi g8) (gj g8) 37 (nI a) (nI b) (nI p)) (fun i3 j3 hJ g8 e => by subst e; exact ⟨65, t7, 3, hg7.1 0 (by decide) 1 (by decide) _ rfl, 16, hg7.1 0 (by decide) 9 (by decide) _ rfl, 19, hg7.1 0 (by decide) 10 (by decide) _ rfl, hJ⟩) hg7 hA7 tc2 ga1' ga2' (fun s hs => mst_39 ka a1 _ (tc2.p16 s hs)) (fun s hs => mst_39 kb b1 _ (tc2.p16 s hs)) (fun s _ => mtn_lt _ _) (fun s _ => mtn_lt _ _) a2 b2 hab hp (fun i3 o ho hf3 g8 e => ?_)
            subst e
            have hf : wF i i3 := (gF.wf f1).tr ((gF2.wf f2).tr (f3.tr hf3.wf))
            have hz0 : pgd (378 * sa + sb) := ⟨by rw [show (378 * sa + sb) / 378 = sa by omega]; exact a2, by rw [show (378 * sa + sb) / 378 = sa by omega, show (378 * sa + sb) % 378 = sb by omega]; exact hab⟩
            obtain ⟨hls, -⟩ := lsm_ls (fun c hc => pcs_small tc2.tok tc2.p16 a1 b1 hz0 hc) ho
            refine rb_5 (len := gl g7) (r := gr g7) (i := i3) (j := gj g7) (q := bo o) (W := fun i4 j4 => Inv (gsi g7 i4 j4)) hg7 ((hf 37 8 (by unfold kp; omega)).trans w1) w3 ha hb hne hp ((hf _ _ (by unfold kp; omega)).trans a5) ((hf _ _ (by unfold kp; omega)).trans b5) a2 b2 (fun z => absurd hab z) (fun _ => ?_)
            exact sp_bothM hg7 (h1.1.wf hf) a1 b1 (by omega) (by omega) ((hf _ _ (by unfold kp; omega)).trans a3) ((hf _ _ (by unfold kp; omega)).trans b3) ((hf _ _ (by unfold kp; omega)).trans a5) ((hf _ _ (by unfold kp; omega)).trans b5) a2 b2 hab hp (fun i4 o' ho' hf4 => ⟨by rw [gw_ls_eq hls ho'], hI2 g7 i4 _ n7 k7 t7 hA7 hg7 (hR.sm (hf.tr hf4.wf).sm)⟩)
          · exact rb_5 (len := len) (r := r) (i := i) (j := j) (W := fun i2 j2 => Inv (gsi (65, K, len, r, i, j) i2 j2)) hg w1 w3 ha hb hne hp a5 b5 a2 b2 (fun _ => ⟨rfl, hI1 _ _ hR⟩) (fun z => absurd (by rw [z]) hne2)
end OkBothN
