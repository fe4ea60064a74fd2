/-! the digest -/
def mx (h : Int64) (v : Int32) : Int64 := (31 : Int64) * h + v.toInt64
def itr (f : Nat → Int64 → Int64) : Nat → Int64 → Int64
  | 0, h => h
  | n + 1, h => f n (itr f n h)
theorem itr_1 (f : Nat → Int64 → Int64) (n : Nat) (h : Int64) : itr f (n + 1) h = f n (itr f n h) := rfl
def stv (A B P G : Nat → Nat) (s a : Nat) : Int32 := if a = 0 then nI (A s) else if a = 1 then nI (B s) else if a = 2 then nI (P s) else nI (G s) - 1
def abv (kd st : Nat) (sk : Int32) (a : Nat) : Int32 := if a = 0 then nI kd else if a = 1 then nI (st % 7) else if a = 2 then nI (st / 7 % 2) else if a = 3 then sk else nI (mmark st (a - 4)) - 1
def ctv (ns ng nw np pl nt dn : Nat) (fr : Bool) (a : Nat) : Int32 := if a = 0 then nI ns else if a = 1 then nI ng else if a = 2 then nI nw else if a = 3 then nI np else if a = 4 then bI fr else if a = 5 then nI pl else if a = 6 then nI nt else nI dn
theorem gw_ls_ex (C : Nat → Prop) : ∃ o, gw_ls C o := by
  by_cases h : ∃ c, C c
  · obtain ⟨c, h1, h2⟩ := pk_least C h
    refine ⟨some c, h1, fun c' hc' => ?_⟩
    rcases Nat.lt_or_ge c' c with z | z
    · exact absurd hc' (h2 c' z)
    · exact z
  · exact ⟨none, fun c hc => h ⟨c, hc⟩⟩
theorem fs_ls_ex (p : Nat → Prop) (n : Nat) : ∃ o, fs_ls p n o := by
  by_cases h : ∃ s, s < n ∧ p s
  · obtain ⟨s, ⟨h1, h2⟩, h3⟩ := pk_least (fun s => s < n ∧ p s) h
    exact ⟨some s, h1, h2, fun t ht hp => h3 t ht ⟨by omega, hp⟩⟩
  · exact ⟨none, fun s hs hp => h ⟨s, hs, hp⟩⟩
noncomputable def lsO (C : Nat → Prop) : Option Nat := Classical.epsilon (fun o => gw_ls C o)
theorem lsO_spec (C : Nat → Prop) : gw_ls C (lsO C) := Classical.epsilon_spec (p := fun o => gw_ls C o) (gw_ls_ex C)
theorem lsO_eq {C : Nat → Prop} {o : Option Nat} (h : gw_ls C o) : o = lsO C := gw_ls_eq h (lsO_spec C)
section FO
variable {A B G P : Nat → Nat} {fr : Bool} {ns kd st p : Nat}
noncomputable def fO (A B G P : Nat → Nat) (fr : Bool) (ns kd st p : Nat) : Option Nat := lsO (cw A B G P fr ns kd false 10000 st p)
noncomputable def fO2 (A B G P : Nat → Nat) (fr : Bool) (ns kd st p : Nat) : Option Nat := Classical.epsilon (fun o2 => fwt A B G P fr ns kd st p (fO A B G P fr ns kd st p) o2)
noncomputable def sO (A B G P : Nat → Nat) (fr : Bool) (ns kd st p : Nat) : Option Nat := lsO (cw A B G P fr ns kd (decide (kd ≠ 3)) 10000 st p)
theorem fwt_ex (o : Option Nat) : ∃ o2, fwt A B G P fr ns kd st p o o2 := by
  cases o with
  | none => exact ⟨none, rfl⟩
  | some c =>
    by_cases e : st % 7 = p
    · exact ⟨none, by unfold fwt; simp only [if_pos e]⟩
    · obtain ⟨o2, h⟩ := fs_ls_ex (fP A B G P fr ns kd st p c) ns
      exact ⟨o2, by unfold fwt; simp only [if_neg e]; exact h⟩
theorem fO2_eq {o2 : Option Nat} (h : fwt A B G P fr ns kd st p (fO A B G P fr ns kd st p) o2) : o2 = fO2 A B G P fr ns kd st p := fwt_eq h (Classical.epsilon_spec (p := fun o2 => fwt A B G P fr ns kd st p (fO A B G P fr ns kd st p) o2) (fwt_ex _))
end FO
section DgRows
variable {len : Nat → Nat} {r : jR} {i : jI} {j : jL} {ns ng nw s a w kd st : Nat} {A B G P : Nat → Nat} {fr : Bool}
theorem sp_streetC {Q : Int32 → jI → jL → Prop} (hg : Gr r len) (tc : TC i ns A B G P fr) (hs : s < ns) (ha : a < 4) (hQ : Q (stv A B P G s a) i j) : J_X11_street len r Q i j 0 (nI s) (nI a) := by
  have hn := tc.2.1
  obtain ⟨⟨c0, c1, c2, c3⟩, -⟩ := tc.2.2.2 s hs
  have ec : (nI s).toNatClampNeg = s := nI_clamp (by omega)
  have hv : vp_in (nI s) 10 := vp_in_nI (by omega) (by decide)
  rw [J_X11_street]
  refine stC_yes hg (by omega) tc.1 hs ⟨fun _ => ?_, fun hh => absurd hh (by decide)⟩
  rcases (show a = 0 ∨ a = 1 ∨ a = 2 ∨ a = 3 by omega) with rfl | rfl | rfl | rfl
  · refine ⟨fun _ => ⟨_, hg.1 _ (by decide) _ (by decide) _ rfl, _, hg.1 _ (by decide) _ (by decide) _ rfl, by rw [hg.2 _ (by decide)]; exact hv, ?_⟩, fun h => absurd h (by decide), fun h => absurd h (by decide), fun h => absurd h (by decide), fun h0 _ _ _ => absurd (by decide) h0⟩
    rw [ec, c0]; exact hQ
  · refine ⟨fun h => absurd h (by decide), fun _ => ⟨_, hg.1 _ (by decide) _ (by decide) _ rfl, _, hg.1 _ (by decide) _ (by decide) _ rfl, by rw [hg.2 _ (by decide)]; exact hv, ?_⟩, fun h => absurd h (by decide), fun h => absurd h (by decide), fun _ h1 _ _ => absurd (by decide) h1⟩
    rw [ec, c1]; exact hQ
  · refine ⟨fun h => absurd h (by decide), fun h => absurd h (by decide), fun _ => ⟨_, hg.1 _ (by decide) _ (by decide) _ rfl, _, hg.1 _ (by decide) _ (by decide) _ rfl, by rw [hg.2 _ (by decide)]; exact hv, ?_⟩, fun h => absurd h (by decide), fun _ _ h2 _ => absurd (by decide) h2⟩
    rw [ec, c2]; exact hQ
  · refine ⟨fun h => absurd h (by decide), fun h => absurd h (by decide), fun h => absurd h (by decide), fun _ => ⟨_, hg.1 _ (by decide) _ (by decide) _ rfl, _, hg.1 _ (by decide) _ (by decide) _ rfl, by rw [hg.2 _ (by decide)]; exact hv, ?_⟩, fun _ _ _ h3 => absurd (by decide) h3⟩
    rw [ec, c3]; exact hQ
theorem sp_streetM {Q : Int32 → jI → jL → Prop} (hg : Gr r len) (tm : TM i ns A B G P fr) (hs : s < ns) (ha : a < 4) (hQ : Q (stv A B P G s a) i j) : J_X12_streetNow len r Q i j 37 (nI s) (nI a) := by
  have hn := tm.2.1
  obtain ⟨⟨c0, c1, c2, c3⟩, -⟩ := tm.2.2.2 s hs
  have ec : (nI s).toNatClampNeg = s := nI_clamp (by omega)
  have hv : vp_in (nI s) 10 := vp_in_nI (by omega) (by decide)
  rw [J_X12_streetNow]
  rcases (show a = 0 ∨ a = 1 ∨ a = 2 ∨ a = 3 by omega) with rfl | rfl | rfl | rfl
  · refine bn_f (by decide) ⟨_, hg.1 _ (by decide) _ (by decide) _ rfl, by rw [hg.2 _ (by decide)]; exact hv, ?_⟩
    rw [ec, c0]; exact hQ
  · refine bn_t (by decide) (bn_f (by decide) ⟨_, hg.1 _ (by decide) _ (by decide) _ rfl, by rw [hg.2 _ (by decide)]; exact hv, ?_⟩)
    rw [ec, c1]; exact hQ
  · refine bn_t (by decide) (bn_t (by decide) (bn_f (by decide) ⟨_, hg.1 _ (by decide) _ (by decide) _ rfl, by rw [hg.2 _ (by decide)]; exact hv, ?_⟩))
    rw [ec, c2]; exact hQ
  · refine bn_t (by decide) (bn_t (by decide) (bn_t (by decide) ⟨_, hg.1 _ (by decide) _ (by decide) _ rfl, by rw [hg.2 _ (by decide)]; exact hv, ?_⟩))
    rw [ec, c3]; exact hQ
theorem sp_aboutC {Q : Int32 → jI → jL → Prop} {sk : Int32} (hg : Gr r len) (w2 : i 0 3 = nI nw) (hnw : nw ≤ 5) (hw : w < nw) (hk : RWk i w kd st) (hsk : i 44 w = sk) (ha : a < 7) (hQ : Q (abv kd st sk a) i j) : J_X11_about len r Q i j 0 (nI w) (nI a) := by
  obtain ⟨q1, q2, q3, q4, q5, q6, q7⟩ := hk
  have ew : (nI w).toNatClampNeg = w := nI_clamp (by omega)
  have hv : vp_in (nI w) 5 := vp_in_nI (by omega) (by decide)
  rw [J_X11_about]
  refine wkC_yes (by omega) w2 hw ⟨fun _ => ⟨9, hg.1 _ (by decide) _ (by decide) _ rfl, by rw [hg.2 _ (by decide)]; exact hv, 32 + w, by rw [ew]; exact hg.1 9 (by decide) w (by omega) _ (RR9 w (by omega)), ?_⟩, fun hh => absurd hh (by decide)⟩
  rw [q4, q6, q7, hsk]
  rcases (show a = 0 ∨ a = 1 ∨ a = 2 ∨ a = 3 ∨ a = 4 ∨ a = 5 ∨ a = 6 by omega) with rfl | rfl | rfl | rfl | rfl | rfl | rfl
  · exact ⟨fun _ => hQ, fun h => absurd h (by decide), fun h => absurd h (by decide), fun h => absurd h (by decide), fun h => absurd h (by decide), fun h => absurd h (by decide), fun h => absurd h (by decide), fun h => absurd (by decide) h⟩
  · exact ⟨fun h => absurd h (by decide), fun _ => sp_placeOf q2 hQ, fun h => absurd h (by decide), fun h => absurd h (by decide), fun h => absurd h (by decide), fun h => absurd h (by decide), fun h => absurd h (by decide), fun _ h => absurd (by decide) h⟩
  · exact ⟨fun h => absurd h (by decide), fun h => absurd h (by decide), fun _ => sp_footOf q2 hQ, fun h => absurd h (by decide), fun h => absurd h (by decide), fun h => absurd h (by decide), fun h => absurd h (by decide), fun _ _ h => absurd (by decide) h⟩
  · exact ⟨fun h => absurd h (by decide), fun h => absurd h (by decide), fun h => absurd h (by decide), fun _ => hQ, fun h => absurd h (by decide), fun h => absurd h (by decide), fun h => absurd h (by decide), fun _ _ _ h => absurd (by decide) h⟩
  · exact ⟨fun h => absurd h (by decide), fun h => absurd h (by decide), fun h => absurd h (by decide), fun h => absurd h (by decide), fun _ => sp_markOf (g := 0) q2 (by decide) hQ, fun h => absurd h (by decide), fun h => absurd h (by decide), fun _ _ _ _ h => absurd (by decide) h⟩
  · exact ⟨fun h => absurd h (by decide), fun h => absurd h (by decide), fun h => absurd h (by decide), fun h => absurd h (by decide), fun h => absurd h (by decide), fun _ => sp_markOf (g := 1) q2 (by decide) hQ, fun h => absurd h (by decide), fun _ _ _ _ _ h => absurd (by decide) h⟩
  · exact ⟨fun h => absurd h (by decide), fun h => absurd h (by decide), fun h => absurd h (by decide), fun h => absurd h (by decide), fun h => absurd h (by decide), fun h => absurd h (by decide), fun _ => sp_markOf (g := 2) q2 (by decide) hQ, fun _ _ _ _ _ _ h => absurd (by decide) h⟩
theorem sp_aboutM {Q : Int32 → jI → jL → Prop} {sk : Int32} (hg : Gr r len) (hw : w < 5) (hk : RWk i w kd st) (hsk : i 44 w = sk) (ha : a < 7) (hQ : Q (abv kd st sk a) i j) : J_X12_walkerNow len r Q i j 37 (nI w) (nI a) := by
  obtain ⟨q1, q2, q3, q4, q5, q6, q7⟩ := hk
  have ew : (nI w).toNatClampNeg = w := nI_clamp (by omega)
  have hv : vp_in (nI w) 5 := vp_in_nI (by omega) (by decide)
  rw [J_X12_walkerNow, ew]
  rcases (show a = 0 ∨ a = 1 ∨ a = 2 ∨ a = 3 ∨ (4 ≤ a ∧ a < 7) by omega) with rfl | rfl | rfl | rfl | h
  · refine ⟨fun _ => ⟨42, hg.1 _ (by decide) _ (by decide) _ rfl, by rw [hg.2 _ (by decide)]; exact hv, ?_⟩, fun h => absurd h (by decide), fun h => absurd h (by decide), fun h => absurd h (by decide), fun h => absurd (by decide) h⟩
    rw [q3]; exact hQ
  · refine ⟨fun h => absurd h (by decide), fun _ => ⟨43, hg.1 _ (by decide) _ (by decide) _ rfl, by rw [hg.2 _ (by decide)]; exact hv, ?_⟩, fun h => absurd h (by decide), fun h => absurd h (by decide), fun _ h => absurd (by decide) h⟩
    rw [q5]; exact sp_placeIn q2 hQ
  · refine ⟨fun h => absurd h (by decide), fun h => absurd h (by decide), fun _ => ⟨43, hg.1 _ (by decide) _ (by decide) _ rfl, by rw [hg.2 _ (by decide)]; exact hv, ?_⟩, fun h => absurd h (by decide), fun _ _ h => absurd (by decide) h⟩
    rw [q5]; exact sp_footIn q2 hQ
  · refine ⟨fun h => absurd h (by decide), fun h => absurd h (by decide), fun h => absurd h (by decide), fun _ => ⟨44, hg.1 _ (by decide) _ (by decide) _ rfl, by rw [hg.2 _ (by decide)]; exact hv, ?_⟩, fun _ _ _ h => absurd (by decide) h⟩
    rw [hsk]; exact hQ
  · have no : ∀ k, k < 4 → ¬ nI a = nI k := fun k hk hh => by have := (nI_eq (by omega) (by omega)).mp hh; omega
    refine ⟨fun z => absurd z (no 0 (by decide)), fun z => absurd z (no 1 (by decide)), fun z => absurd z (no 2 (by decide)), fun z => absurd z (no 3 (by decide)), fun _ _ _ _ => ⟨43, hg.1 _ (by decide) _ (by decide) _ rfl, by rw [hg.2 _ (by decide)]; exact hv, ?_⟩⟩
    rw [q5, show nI a - (4 : Int32) = nI (a - 4) from pk_sub (b := 4) h.1]
    refine sp_markIn q2 (by omega) ?_
    unfold abv at hQ
    rw [if_neg (by omega), if_neg (by omega), if_neg (by omega), if_neg (by omega)] at hQ
    exact hQ
theorem sp_shutW {Q : Int32 → jI → jL → Prop} (hg : Gr r len) (tc : TC i ns A B G P fr) (w2 : i 0 3 = nI nw) (hnw : nw ≤ 5) (hw : w < nw) (hk : RWk i w kd st) (hQ : ∀ i' j', wF i i' → Q (nI (shv A B G (fun s => mturn kd (P s)) fr ns st)) i' j') : J_X11_shut len r Q i j 0 (nI w) := by
  obtain ⟨q1, q2, q3, q4, q5, q6, q7⟩ := hk
  have ew : (nI w).toNatClampNeg = w := nI_clamp (by omega)
  have hv : vp_in (nI w) 5 := vp_in_nI (by omega) (by decide)
  rw [J_X11_shut]
  refine wkC_yes (by omega) w2 hw ⟨fun _ => ⟨9, hg.1 _ (by decide) _ (by decide) _ rfl, by rw [hg.2 _ (by decide)]; exact hv, 32 + w, by rw [ew]; exact hg.1 9 (by decide) w (by omega) _ (RR9 w (by omega)), 16, hg.1 _ (by decide) _ (by decide) _ rfl, 3, hg.1 _ (by decide) _ (by decide) _ rfl, ?_⟩, fun hh => absurd hh (by decide)⟩
  rw [q4]
  refine sp_gait hg (hg16 hg) tc q1 (fun i1 f1 ga1 => ?_)
  exact sp_shutPlaces hg (tc.wf (gF.wf f1)) ga1 (fun s _ => mtn_lt kd (P s)) q2 (by omega) ((f1 (32 + w) 1 (by omega) (by omega)).trans q6) (fun i2 j2 f2 => hQ i2 j2 ((gF.wf f1).tr (tF.wf f2)))
end DgRows
section DgC
variable {len : Nat → Nat} {r : jR} {i0 : jI} {k ns ng nt nw np dn pl : Nat} {A B G P : Nat → Nat} {fr : Bool}
theorem sp_countC {Q : Int32 → jI → jL → Prop} {i : jI} {j : jL} {a : Nat} (hg : Gr r len) (h1 : RT i ns ng A B G P fr) (h2 : RN k i ns nt) (h4 : RW i nw) (h5 : RQ i np ng) (h6 : RD i dn) (h7 : RP i pl) (ha : a < 8) (hQ : Q (ctv ns ng nw np pl nt dn fr a) i j) : J_X11_count len r Q i j 0 (nI a) := by
  rw [J_X11_count]
  rcases (show a = 0 ∨ a = 1 ∨ a = 2 ∨ a = 3 ∨ a = 4 ∨ a = 5 ∨ a = 6 ∨ a = 7 by omega) with rfl | rfl | rfl | rfl | rfl | rfl | rfl | rfl
  · refine ⟨fun _ => ⟨3, hg.1 _ (by decide) _ (by decide) _ rfl, ?_⟩, fun h => absurd h (by decide), fun h => absurd h (by decide), fun h => absurd h (by decide), fun h => absurd h (by decide), fun h => absurd h (by decide), fun h => absurd h (by decide), fun h => absurd h (by decide), fun h => absurd (by decide) h⟩
    rw [h1.2.1.1]; exact hQ
  · refine ⟨fun h => absurd h (by decide), fun _ => ⟨3, hg.1 _ (by decide) _ (by decide) _ rfl, ?_⟩, fun h => absurd h (by decide), fun h => absurd h (by decide), fun h => absurd h (by decide), fun h => absurd h (by decide), fun h => absurd h (by decide), fun h => absurd h (by decide), fun _ h => absurd (by decide) h⟩
    rw [h1.2.2.2.1.2.1]; exact hQ
  · refine ⟨fun h => absurd h (by decide), fun h => absurd h (by decide), fun _ => ?_, fun h => absurd h (by decide), fun h => absurd h (by decide), fun h => absurd h (by decide), fun h => absurd h (by decide), fun h => absurd h (by decide), fun _ _ h => absurd (by decide) h⟩
    rw [h4.2.1]; exact hQ
  · refine ⟨fun h => absurd h (by decide), fun h => absurd h (by decide), fun h => absurd h (by decide), fun _ => ?_, fun h => absurd h (by decide), fun h => absurd h (by decide), fun h => absurd h (by decide), fun h => absurd h (by decide), fun _ _ _ h => absurd (by decide) h⟩
    rw [h5.2.1]; exact hQ
  · refine ⟨fun h => absurd h (by decide), fun h => absurd h (by decide), fun h => absurd h (by decide), fun h => absurd h (by decide), fun _ => ⟨3, hg.1 _ (by decide) _ (by decide) _ rfl, ?_⟩, fun h => absurd h (by decide), fun h => absurd h (by decide), fun h => absurd h (by decide), fun _ _ _ _ h => absurd (by decide) h⟩
    rw [h1.2.1.2.2.1]
    cases fr with
    | false => exact ⟨fun _ => hQ, fun hh => absurd (by decide) hh⟩
    | true => exact ⟨fun hh => absurd hh (by decide), fun _ => hQ⟩
  · refine ⟨fun h => absurd h (by decide), fun h => absurd h (by decide), fun h => absurd h (by decide), fun h => absurd h (by decide), fun h => absurd h (by decide), fun _ => ⟨1, hg.1 _ (by decide) _ (by decide) _ rfl, ?_⟩, fun h => absurd h (by decide), fun h => absurd h (by decide), fun _ _ _ _ _ h => absurd (by decide) h⟩
    rw [h7.2.1]; exact hQ
  · refine ⟨fun h => absurd h (by decide), fun h => absurd h (by decide), fun h => absurd h (by decide), fun h => absurd h (by decide), fun h => absurd h (by decide), fun h => absurd h (by decide), fun _ => ?_, fun h => absurd h (by decide), fun _ _ _ _ _ _ h => absurd (by decide) h⟩
    rw [h2.2.1]; exact hQ
  · refine ⟨fun h => absurd h (by decide), fun h => absurd h (by decide), fun h => absurd h (by decide), fun h => absurd h (by decide), fun h => absurd h (by decide), fun h => absurd h (by decide), fun h => absurd h (by decide), fun _ => ?_, fun _ _ _ _ _ _ _ h => absurd (by decide) h⟩
    rw [h6.2.1]; exact hQ
theorem sp_countM {Q : Int32 → jI → jL → Prop} {i : jI} {j : jL} {a : Nat} (h1 : RT i ns ng A B G P fr) (h2 : RN k i ns nt) (h4 : RW i nw) (h5 : RQ i np ng) (h6 : RD i dn) (h7 : RP i pl) (ha : a < 8) (hQ : Q (ctv ns ng nw np pl nt dn fr a) i j) : J_X12_howMany len r Q i j 37 (nI a) := by
  rw [J_X12_howMany, h1.1.1, h1.2.2.2.1.1, h4.1, h5.1, h7.1, h2.1, h6.1, h1.1.2.2.1]
  rcases (show a = 0 ∨ a = 1 ∨ a = 2 ∨ a = 3 ∨ a = 4 ∨ a = 5 ∨ a = 6 ∨ a = 7 by omega) with rfl | rfl | rfl | rfl | rfl | rfl | rfl | rfl
  · exact ⟨fun _ => hQ, fun h => absurd h (by decide), fun h => absurd h (by decide), fun h => absurd h (by decide), fun h => absurd h (by decide), fun h => absurd h (by decide), fun h => absurd h (by decide), fun h => absurd h (by decide), fun h => absurd (by decide) h⟩
  · exact ⟨fun h => absurd h (by decide), fun _ => hQ, fun h => absurd h (by decide), fun h => absurd h (by decide), fun h => absurd h (by decide), fun h => absurd h (by decide), fun h => absurd h (by decide), fun h => absurd h (by decide), fun _ h => absurd (by decide) h⟩
  · exact ⟨fun h => absurd h (by decide), fun h => absurd h (by decide), fun _ => hQ, fun h => absurd h (by decide), fun h => absurd h (by decide), fun h => absurd h (by decide), fun h => absurd h (by decide), fun h => absurd h (by decide), fun _ _ h => absurd (by decide) h⟩
  · exact ⟨fun h => absurd h (by decide), fun h => absurd h (by decide), fun h => absurd h (by decide), fun _ => hQ, fun h => absurd h (by decide), fun h => absurd h (by decide), fun h => absurd h (by decide), fun h => absurd h (by decide), fun _ _ _ h => absurd (by decide) h⟩
  · refine ⟨fun h => absurd h (by decide), fun h => absurd h (by decide), fun h => absurd h (by decide), fun h => absurd h (by decide), fun _ => ?_, fun h => absurd h (by decide), fun h => absurd h (by decide), fun h => absurd h (by decide), fun _ _ _ _ h => absurd (by decide) h⟩
    cases fr with
    | false => exact ⟨fun _ => hQ, fun hh => absurd (by decide) hh⟩
    | true => exact ⟨fun hh => absurd hh (by decide), fun _ => hQ⟩
  · exact ⟨fun h => absurd h (by decide), fun h => absurd h (by decide), fun h => absurd h (by decide), fun h => absurd h (by decide), fun h => absurd h (by decide), fun _ => hQ, fun h => absurd h (by decide), fun h => absurd h (by decide), fun _ _ _ _ _ h => absurd (by decide) h⟩
  · exact ⟨fun h => absurd h (by decide), fun h => absurd h (by decide), fun h => absurd h (by decide), fun h => absurd h (by decide), fun h => absurd h (by decide), fun h => absurd h (by decide), fun _ => hQ, fun h => absurd h (by decide), fun _ _ _ _ _ _ h => absurd (by decide) h⟩
  · exact ⟨fun h => absurd h (by decide), fun h => absurd h (by decide), fun h => absurd h (by decide), fun h => absurd h (by decide), fun h => absurd h (by decide), fun h => absurd h (by decide), fun h => absurd h (by decide), fun _ => hQ, fun _ _ _ _ _ _ _ h => absurd (by decide) h⟩
end DgC
