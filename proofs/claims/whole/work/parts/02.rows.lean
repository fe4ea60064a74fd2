/-! MY ROWS: a world of numbered cells: cell number k lies at the address b + k; ints and longs, references and lengths are functions of the number -/
abbrev jI : Type := Nat → Nat → Int32
abbrev jL : Type := Nat → Nat → Int64
abbrev jR : Type := Nat → Nat → Option Nat
def jFv (b : Nat) (r : jR) (i : jI) (j : jL) (k f t : Nat) : Value := match t with
  | 0 => .int (i k f)
  | 1 => .long (j k f)
  | _ => va_rf ((r k f).map (fun q => b + q))
def jfs (v : Nat → Nat → Value) : Nat → List Nat → List Value
  | _, [] => []
  | f, t :: ts => v f t :: jfs v (f + 1) ts
theorem jfs_get (v : Nat → Nat → Value) : ∀ (ts : List Nat) (g f : Nat), (jfs v g ts)[f]? = ts[f]?.map (fun t => v (g + f) t)
  | [], g, f => by simp [jfs]
  | t :: ts, g, 0 => by simp [jfs]
  | t :: ts, g, f + 1 => by
    have h := jfs_get v ts (g + 1) f
    simp only [jfs, List.getElem?_cons_succ]
    rw [h, show g + 1 + f = g + (f + 1) by omega]
theorem jfs_len (v : Nat → Nat → Value) : ∀ (ts : List Nat) (g : Nat), (jfs v g ts).length = ts.length
  | [], g => rfl
  | t :: ts, g => by simp [jfs, jfs_len v ts (g + 1)]
theorem jfs_congr {v v' : Nat → Nat → Value} : ∀ (ts : List Nat) (g : Nat), (∀ f t, g ≤ f → v' f t = v f t) → jfs v' g ts = jfs v g ts
  | [], g, _ => rfl
  | t :: ts, g, h => by
    simp only [jfs]
    rw [h g t (Nat.le_refl g), jfs_congr ts (g + 1) (fun f t hf => h f t (by omega))]
theorem jfs_set {v v' : Nat → Nat → Value} {x : Value} : ∀ (ts : List Nat) (g f t0 : Nat), ts[f]? = some t0 → v' (g + f) t0 = x → (∀ f' t, f' ≠ g + f → v' f' t = v f' t) → (jfs v g ts).set f x = jfs v' g ts
  | [], g, f, t0, h, _, _ => by simp at h
  | t :: ts, g, 0, t0, h, hx, ho => by
    simp at h
    subst h
    simp only [jfs, List.set_cons_zero]
    rw [show v' g t = x from hx, jfs_congr ts (g + 1) (fun f t hf => ho f t (by omega))]
  | t :: ts, g, f + 1, t0, h, hx, ho => by
    simp only [jfs, List.set_cons_succ]
    rw [ho g t (by omega), jfs_set ts (g + 1) f t0 (by simpa using h) (by rw [show g + 1 + f = g + (f + 1) by omega]; exact hx) (fun f' t hf => ho f' t (by omega))]
/-- the fields of a kind: 0 an int (a boolean), 1 a long, 2 a reference -/
def jT (c : Nat) : List Nat := match c with
  | 0 => [2, 2]
  | 1 => [2]
  | 2 => [2, 2]
  | 3 => [2, 2, 2, 0]
  | 4 => [0, 0, 2, 2, 0, 2, 2]
  | 5 => [2, 0, 0, 0, 0]
  | 6 => [2, 2]
  | 7 => [0, 0, 0, 2, 2, 2, 2, 2]
  | 8 => [0, 0, 0]
  | 9 => [2]
  | 10 => [2, 2, 2, 0, 2, 0, 2, 0, 0, 2, 2, 2, 2, 2, 2]
  | 11 => [0, 2, 2, 2, 2, 0, 0, 0, 0, 2, 2, 2, 0, 2, 0, 0, 2, 0, 0, 0, 0, 0, 2, 2, 2, 2, 2, 2, 2, 0, 0, 2, 2, 2, 2, 2, 0, 0, 0, 2, 2, 1, 0, 0, 0, 0, 2, 2, 2, 2, 1]
  | _ => []
/-- kinds below 12: the objects; 12 bytes, 13 ints, 14 longs, 15 booleans, 16 walkers -/
def jC (cy : Nat → ClassId) (b : Nat) (K len : Nat → Nat) (r : jR) (i : jI) (j : jL) (k : Nat) : va_E :=
  if K k < 12 then .inr (K k, jfs (jFv b r i j k) 0 (jT (K k)))
  else if K k = 14 then .inl (cy 14, len k, .inr (.inl (j k)))
  else if K k = 16 then .inl (cy 16, len k, .inr (.inr (.inr (.inr (fun t => (r k t).map (fun q => b + q))))))
  else .inl (cy (K k), len k, .inl (i k))
def jW (cy : Nat → ClassId) (b n : Nat) (K len : Nat → Nat) (r : jR) (i : jI) (j : jL) : va_W := (List.range n).map (fun k => (b + k, jC cy b K len r i j k))
def jA (b : Nat) : Nat → Prop := fun q => b ≤ q
section JW0
variable {cy : Nat → ClassId} {b n k f : Nat} {K len K' len' : Nat → Nat} {r r' : jR} {i i' : jI} {j j' : jL} {e : va_E}
theorem jW_get (h : k < n) : (jW cy b n K len r i j)[k]? = some (b + k, jC cy b K len r i j k) := by
  simp [jW, List.getElem?_map, List.getElem?_range h]
theorem jW_got {q : Nat × va_E} (h : (jW cy b n K len r i j)[k]? = some q) : k < n ∧ q = (b + k, jC cy b K len r i j k) := by
  have hk : k < n := by
    have := (List.getElem?_eq_some_iff.mp h).1
    simpa [jW] using this
  rw [jW_get hk] at h
  exact ⟨hk, (Option.some.inj h).symm⟩
theorem jW_D : va_D (jA b) (jW cy b n K len r i j) := by
  refine ⟨fun x y p q hp hq hpq => ?_, fun x q hq => ?_⟩
  · obtain ⟨-, rfl⟩ := jW_got hp
    obtain ⟨-, rfl⟩ := jW_got hq
    exact Nat.add_left_cancel hpq
  · obtain ⟨-, rfl⟩ := jW_got hq
    exact Nat.le_add_right b x
theorem jW_set (hk : k < n) (he : e = jC cy b K' len' r' i' j' k) (ho : ∀ q, q < n → q ≠ k → jC cy b K' len' r' i' j' q = jC cy b K len r i j q) : (jW cy b n K len r i j).set k (b + k, e) = jW cy b n K' len' r' i' j' := by
  apply List.ext_getElem?
  intro m
  by_cases hm : m < n
  · rw [jW_get hm]
    by_cases hmk : m = k
    · subst hmk
      rw [List.getElem?_set_self (by simpa [jW] using hm), he]
    · rw [List.getElem?_set_ne (Ne.symm hmk), jW_get hm, ho m hm hmk]
  · rw [List.getElem?_eq_none (by simpa [jW] using Nat.le_of_not_lt hm), List.getElem?_eq_none (by simpa [jW] using Nat.le_of_not_lt hm)]
end JW0
def ju (i : jI) (k f : Nat) (v : Int32) : jI := fun a => if a = k then upd (i a) f v else i a
def jul (j : jL) (k f : Nat) (v : Int64) : jL := fun a => if a = k then vp_updL (j a) f v else j a
def jur (r : jR) (k f : Nat) (v : Option Nat) : jR := fun a => if a = k then va_up (r a) f v else r a
theorem ju_ne {i : jI} {k f a : Nat} {v : Int32} (h : a ≠ k) : ju i k f v a = i a := if_neg h
theorem ju_eq {i : jI} {k f : Nat} {v : Int32} : ju i k f v k = upd (i k) f v := if_pos rfl
theorem jul_ne {i : jL} {k f a : Nat} {v : Int64} (h : a ≠ k) : jul i k f v a = i a := if_neg h
theorem jul_eq {i : jL} {k f : Nat} {v : Int64} : jul i k f v k = vp_updL (i k) f v := if_pos rfl
theorem jur_ne {i : jR} {k f a : Nat} {v : Option Nat} (h : a ≠ k) : jur i k f v a = i a := if_neg h
theorem jur_eq {i : jR} {k f : Nat} {v : Option Nat} : jur i k f v k = va_up (i k) f v := if_pos rfl
section JW1
variable {cy : Nat → ClassId} {b k f q : Nat} {K len : Nat → Nat} {r : jR} {i : jI} {j : jL} {v : Int32} {x : Int64} {o : Option Nat}
theorem jC_ju_ne (h : q ≠ k) : jC cy b K len r (ju i k f v) j q = jC cy b K len r i j q := by
  have e : ∀ f t, jFv b r (ju i k f v) j q f t = jFv b r i j q f t := fun f t => by simp only [jFv, ju_ne h]
  have e2 : jFv b r (ju i k f v) j q = jFv b r i j q := by funext g t; simp only [jFv, ju_ne h]
  simp only [jC, ju_ne h, e2]
theorem jC_jul_ne (h : q ≠ k) : jC cy b K len r i (jul j k f x) q = jC cy b K len r i j q := by
  have e2 : jFv b r i (jul j k f x) q = jFv b r i j q := by funext g t; simp only [jFv, jul_ne h]
  simp only [jC, jul_ne h, e2]
theorem jC_jur_ne (h : q ≠ k) : jC cy b K len (jur r k f o) i j q = jC cy b K len r i j q := by
  have e2 : jFv b (jur r k f o) i j q = jFv b r i j q := by funext g t; simp only [jFv, jur_ne h]
  simp only [jC, jur_ne h, e2]
theorem jC_obj {ci : Nat} (hK : K k = ci) (hc : ci < 12) : jC cy b K len r i j k = .inr (ci, jfs (jFv b r i j k) 0 (jT ci)) := by
  subst hK
  simp only [jC, if_pos hc]
theorem jC_arr {ci : Nat} (hK : K k = ci) (hc : ci = 12 ∨ ci = 13 ∨ ci = 15) : jC cy b K len r i j k = .inl (cy ci, len k, .inl (i k)) := by
  subst hK
  have h1 : ¬ K k < 12 := by omega
  have h2 : ¬ K k = 14 := by omega
  have h3 : ¬ K k = 16 := by omega
  simp only [jC, if_neg h1, if_neg h2, if_neg h3]
theorem jC_arrJ (hK : K k = 14) : jC cy b K len r i j k = .inl (cy 14, len k, .inr (.inl (j k))) := by
  simp [jC, hK]
theorem jC_arrR (hK : K k = 16) : jC cy b K len r i j k = .inl (cy 16, len k, .inr (.inr (.inr (.inr (fun t => (r k t).map (fun q => b + q)))))) := by
  simp [jC, hK]
theorem jC_ju {ci : Nat} (hK : K k = ci) (hc : ci < 12) (ht : (jT ci)[f]? = some 0) : (.inr (ci, (jfs (jFv b r i j k) 0 (jT ci)).set f (.int v)) : va_E) = jC cy b K len r (ju i k f v) j k := by
  rw [jC_obj hK hc, jfs_set (v := jFv b r i j k) (v' := jFv b r (ju i k f v) j k) (x := .int v) (jT ci) 0 f 0 ht (by simp [jFv, ju_eq, upd]) (fun f' t hf => ?_)]
  match t with
  | 0 => simp only [jFv, ju_eq, upd]; rw [if_neg (by omega)]
  | 1 => rfl
  | t + 2 => rfl
theorem jC_jul {ci : Nat} (hK : K k = ci) (hc : ci < 12) (ht : (jT ci)[f]? = some 1) : (.inr (ci, (jfs (jFv b r i j k) 0 (jT ci)).set f (.long x)) : va_E) = jC cy b K len r i (jul j k f x) k := by
  rw [jC_obj hK hc, jfs_set (v := jFv b r i j k) (v' := jFv b r i (jul j k f x) k) (x := .long x) (jT ci) 0 f 1 ht (by simp [jFv, jul_eq, vp_updL]) (fun f' t hf => ?_)]
  match t with
  | 0 => rfl
  | 1 => simp only [jFv, jul_eq, vp_updL]; rw [if_neg (by omega)]
  | t + 2 => rfl
theorem jC_jur {ci : Nat} (hK : K k = ci) (hc : ci < 12) (ht : (jT ci)[f]? = some 2) : (.inr (ci, (jfs (jFv b r i j k) 0 (jT ci)).set f (va_rf (o.map (fun q => b + q)))) : va_E) = jC cy b K len (jur r k f o) i j k := by
  rw [jC_obj hK hc, jfs_set (v := jFv b r i j k) (v' := jFv b (jur r k f o) i j k) (x := va_rf (o.map (fun q => b + q))) (jT ci) 0 f 2 ht (by simp [jFv, jur_eq, va_up]) (fun f' t hf => ?_)]
  match t with
  | 0 => rfl
  | 1 => rfl
  | t + 2 => simp only [jFv, jur_eq, va_up]; rw [if_neg (by omega)]
end JW1
def jTys (cy : Nat → ClassId) : List (ClassId × FieldType) := [(cy 12, .byte), (cy 13, .int), (cy 14, .long), (cy 15, .boolean), (cy 16, .object "FootByGate$Walker")]
/-- which kind a reference of a field points to -/
def jrt (c f : Nat) : Nat := match c with
  | 0 => match f with
    | 0 => 3
    | 1 => 13
    | _ => 0
  | 1 => match f with
    | 0 => 13
    | _ => 0
  | 2 => match f with
    | 0 => 13
    | 1 => 13
    | _ => 0
  | 3 => match f with
    | 0 => 13
    | 1 => 13
    | 2 => 13
    | _ => 0
  | 4 => match f with
    | 2 => 13
    | 3 => 13
    | 5 => 13
    | 6 => 13
    | _ => 0
  | 5 => match f with
    | 0 => 13
    | _ => 0
  | 6 => match f with
    | 0 => 14
    | 1 => 13
    | _ => 0
  | 7 => match f with
    | 3 => 13
    | 4 => 13
    | 5 => 13
    | 6 => 13
    | 7 => 13
    | _ => 0
  | 9 => match f with
    | 0 => 3
    | _ => 0
  | 10 => match f with
    | 0 => 5
    | 1 => 7
    | 2 => 16
    | 4 => 13
    | 6 => 4
    | 9 => 2
    | 10 => 2
    | 11 => 9
    | 12 => 6
    | 13 => 1
    | 14 => 0
    | _ => 0
  | 11 => match f with
    | 1 => 13
    | 2 => 13
    | 3 => 13
    | 4 => 13
    | 9 => 13
    | 10 => 13
    | 11 => 13
    | 13 => 13
    | 16 => 12
    | 22 => 13
    | 23 => 13
    | 24 => 13
    | 25 => 13
    | 26 => 13
    | 27 => 13
    | 28 => 15
    | 31 => 13
    | 32 => 13
    | 33 => 13
    | 34 => 13
    | 35 => 15
    | 39 => 15
    | 40 => 13
    | 46 => 13
    | 47 => 13
    | 48 => 13
    | 49 => 13
    | _ => 0
  | _ => 8
/-- the references are of their kinds -/
def jG (n : Nat) (K : Nat → Nat) (r : jR) : Prop := ∀ k f q, k < n → r k f = some q → q < n ∧ K q = jrt (K k) f
def jUm : Nat → Value := fun q => .long (if q = 0 then 1229782938247303441 else if q = 1 then 4222189076152335 else 65535)
/-- the nest mates' links that the system uses -/
def jNl : List Cond := [.methodLinkNest RX11 9 yX5_init "FootByGate", .methodLinkNest RX11 18 yX8_init "FootByGate", .methodLinkNest RX11 35 yX4_init "FootByGate", .methodLinkNest RX11 42 yX2_init "FootByGate", .methodLinkNest RX11 52 yX10_init "FootByGate", .methodLinkNest RX11 59 yX6_init "FootByGate", .methodLinkNest RX11 66 yX1_init "FootByGate", .methodLinkNest RX11 71 yX9_init "FootByGate", .methodLinkNest RX11 223 yX0_init "FootByGate"]
/-- what the tables and the statics say, at any state -/
def jSt (b : Nat) (cy : Nat → ClassId) (D : va_G) (tU : Nat) (U : State) (H : Heap) : Prop := va_K D vwCl (jTys cy) U ∧ va_Z "FootByGate$Reach" "UNMARKED" "[J" (.ref tU) (jA b) U H ∧ va_T .long tU 3 jUm (jA b) U H ∧ va_AO "FootByGate$Walker" U ∧ ∀ w ∈ jNl, va_Nw w U
def jDy (b : Nat) (cy : Nat → ClassId) (D : va_G) (n : Nat) (K len : Nat → Nat) (r : jR) (i : jI) (j : jL) (s : State) (H : Heap) (locs : List Loc) : Prop := H.size = b + n ∧ va_P D vwCl (jW cy b n K len r i j) H ∧ va_S (jA b) s.heap H locs
def jPre (b : Nat) (cy : Nat → ClassId) (D : va_G) (tU n : Nat) (K len : Nat → Nat) (r : jR) (i : jI) (j : jL) (U : State) : Prop := U.heap.size = b + n ∧ va_P D vwCl (jW cy b n K len r i j) U.heap ∧ jSt b cy D tU U U.heap
section JSt
variable {b tU n : Nat} {cy : Nat → ClassId} {D : va_G} {K len : Nat → Nat} {r : jR} {i : jI} {j : jL} {s U : State} {H : Heap} {locs : List Loc}
theorem jNl_moved (hW : s.WarmedH U.vm) (h : ∀ w ∈ jNl, va_Nw w s) : ∀ w ∈ jNl, va_Nw w U := by
  intro w hw
  have h0 := h w hw
  simp only [jNl, List.mem_cons, List.not_mem_nil, or_false] at hw
  rcases hw with rfl | rfl | rfl | rfl | rfl | rfl | rfl | rfl | rfl <;> exact va_Nw.warmM hW h0
theorem jSt.at (h : jSt b cy D tU s s.heap) (hS : va_S (jA b) s.heap H locs) (hU : U.heap = H) (hW : s.WarmedH U.vm) : jSt b cy D tU U U.heap := by
  obtain ⟨h1, h2, h3, h4, h5⟩ := h
  rw [hU]
  exact ⟨va_K.moved hW.alike h1, (va_Z.moved hW.alike h2).kept (fun a ha hA => hS.2.1 a ha hA), (va_T.moved hW.alike h3).kept (fun a ha hA => hS.2.1 a ha hA), va_AO.moved hW.alike h4, jNl_moved hW h5⟩
theorem jSt.calling {g : JFrame} {mk : MethodId} {a : Array Value} (h : jSt b cy D tU U U.heap) : jSt b cy D tU (U.calling g mk a) (U.calling g mk a).heap := by
  obtain ⟨h1, h2, h3, h4, h5⟩ := h
  refine ⟨va_K.moved (u := U) (U := U.calling g mk a) (Vm.Alike.refl U.vm) h1, va_Z.moved (u := U) (U := U.calling g mk a) (Vm.Alike.refl U.vm) h2, va_T.moved (u := U) (U := U.calling g mk a) (Vm.Alike.refl U.vm) h3, va_AO.moved (u := U) (U := U.calling g mk a) (Vm.Alike.refl U.vm) h4, fun w hw => ?_⟩
  have h0 := h5 w hw
  simp only [jNl, List.mem_cons, List.not_mem_nil, or_false] at hw
  rcases hw with rfl | rfl | rfl | rfl | rfl | rfl | rfl | rfl | rfl <;> exact va_Nw.same rfl (u := U) (U := U.calling g mk a) rfl h0
theorem jBlind (av : List Value) : FrameBlind (va_Pc av (jPre b cy D tU n K len r i j)) := by
  intro a U g mk q
  obtain ⟨q0, q1, q2, q3⟩ := q
  exact ⟨q0, q1, q2, q3.calling⟩
theorem jPre.of (hst : jSt b cy D tU s s.heap) (w : jDy b cy D n K len r i j s H locs) (hU : U.heap = H) (hW : s.WarmedH U.vm) : jPre b cy D tU n K len r i j U := by
  refine ⟨by rw [hU]; exact w.1, by rw [hU]; exact w.2.1, hst.at w.2.2 hU hW⟩
theorem jDy.start (h : jPre b cy D tU n K len r i j s) : jDy b cy D n K len r i j s s.heap [] := ⟨h.1, h.2.1, va_S.rf⟩
end JSt
section JPut
variable {p : Program} {l : Launch} {e : Env} {R : Room} {s : State} {m : MethodId} {args : Array Value} {below : List Frame} {meth : Method} {c : Code} {H : Heap} {locs : List Loc} {cells slots : Nat} {Q : State → Prop}
variable {cc : ByteArray} {pc : Nat} {ls : Array Slot} {rest : List Value} {D : va_G} {cl : List vw_C} {A : Nat → Prop} {a : Nat} {tys : List (ClassId × FieldType)} {ws : va_W} {H0 : Heap}
theorem jput0 (hexec : p.tables.exec = Jvm.exec) (hb : c.code = cc) {own ref C : String} {T : u_T} {N ci index : Nat} {Ts : List Cond} (hts : ∀ w ∈ Ts, w.before args s = true) (hin : ∀ w ∈ u_ws C T N, w ∈ Ts) (ty0 : Nat → FieldType) (hty : ∀ k, k < N → parseFieldDescriptor (T k).2.2.1 = some (ty0 k)) (hnm : ∀ a, a < N → ∀ b, b < N → a ≠ b → (T a).2.1 ≠ (T b).2.1) (hown : s.vm.findClass own = some m.cls) (hK : va_K D cl tys s) (hP : va_P D cl ws H) (hD : va_D A ws) (hS0 : va_S A H0 H locs) (q0 : Nat) {fs : List Value} (he : ws[q0]? = some (a, .inr (ci, fs))) (hc : cl[ci]? = some (C, T, N)) (k : Nat) (hk : k < N) (hlink : (Cond.fieldLink own index ref (T k).2.1 (T k).2.2.1).before args s = true) (hsame : ∀ x, s.fieldFound? (T k).1 (T k).2.1 (T k).2.2.1 = some x → s.fieldFound? ref (T k).2.1 (T k).2.2.1 = some x) (hfin : (T k).2.2.2 = false) {ty : FieldType} {v : Value} (hd : parseFieldDescriptor (T k).2.2.1 = some ty) (hn : narrow ty v = v) (hfit : fits ty v = true) (hl : k < fs.length)
    (hdg : decode cc pc = .ok (.putfield index, 3)) (kk : ∀ (H1 : Heap) (locs1 : List Loc), H1.size = H.size → va_P D cl (ws.set q0 (a, .inr (ci, fs.set k v))) H1 → va_S A H0 H1 locs1 → W p l e R s m args below meth c H1 locs1 cells slots Q (F0 m (pc + 3) ls rest)) : W p l e R s m args below meth c H locs cells slots Q (F0 m pc ls (v :: .ref a :: rest)) := by
  have hap := va_apart (own := own) hts hin ty0 hty hnm hK hc
  obtain ⟨r, h1, cell, q1, q2, q3, q4⟩ := hP q0 _ he
  have hr : r = (C, T, N) := Option.some.inj (h1.symm.trans hc)
  subst hr
  obtain ⟨hS, hfc, kC, hkC, hkind⟩ := hK.1 ci _ hc
  obtain ⟨cf, kf, fi, f, hi, hsl⟩ := hS k hk
  have hlay := hts _ (hin _ (u_in_lay hk))
  unfold u_lay at hlay
  rw [if_neg (by rw [hfin]; decide)] at hlay
  have hst := (u_facts hfc hkC (u_lays hts hin hk) hi).1
  have h6 := u_store hfc hkC hkind hlay hi hd hn hfit
  refine W.putK hexec hb (f := f) ⟨hown, hlink, ⟨_, _, _, hsame _ hi⟩, hst⟩ (by rw [q2]; exact h6) q1 q3 (by rw [hsl]; exact k2_hasslot (q4 k hk)) rfl rfl hdg fun H' e1 e2 e3 => ?_
  rw [hsl] at e1 ⊢
  exact kk H' _ e2 (hP.set hD he ⟨_, hc, t_OB.to (V := updV (vp_V fs) k v) ⟨_, e1, q2, q3, t_set q4 hap hk v⟩ (fun j _ => vp_updV_set hl v j)⟩ e3) (hS0.put e2 e3 (hD.2 q0 _ he))
theorem jputF0 (hexec : p.tables.exec = Jvm.exec) (hb : c.code = cc) {own ref C : String} {T : u_T} {N ci index : Nat} {Ts : List Cond} (hts : ∀ w ∈ Ts, w.before args s = true) (hin : ∀ w ∈ u_ws C T N, w ∈ Ts) (ty0 : Nat → FieldType) (hty : ∀ k, k < N → parseFieldDescriptor (T k).2.2.1 = some (ty0 k)) (hnm : ∀ a, a < N → ∀ b, b < N → a ≠ b → (T a).2.1 ≠ (T b).2.1) (hown : s.vm.findClass own = some m.cls) (hK : va_K D cl tys s) (hP : va_P D cl ws H) (hD : va_D A ws) (hS0 : va_S A H0 H locs) (q0 : Nat) {fs : List Value} (he : ws[q0]? = some (a, .inr (ci, fs))) (hc : cl[ci]? = some (C, T, N)) (k : Nat) (hk : k < N) (hlink : (Cond.fieldLink own index ref (T k).2.1 (T k).2.2.1).before args s = true) (hsame : ∀ x, s.fieldFound? (T k).1 (T k).2.1 (T k).2.2.1 = some x → s.fieldFound? ref (T k).2.1 (T k).2.2.1 = some x) (hfin : (T k).2.2.2 = true) (hin2 : meth.name = "<init>") (hdecl : (T k).1 = own) {ty : FieldType} {v : Value} (hd : parseFieldDescriptor (T k).2.2.1 = some ty) (hn : narrow ty v = v) (hfit : fits ty v = true) (hl : k < fs.length)
    (hdg : decode cc pc = .ok (.putfield index, 3)) (kk : ∀ (H1 : Heap) (locs1 : List Loc), H1.size = H.size → va_P D cl (ws.set q0 (a, .inr (ci, fs.set k v))) H1 → va_S A H0 H1 locs1 → W p l e R s m args below meth c H1 locs1 cells slots Q (F0 m (pc + 3) ls rest)) : W p l e R s m args below meth c H locs cells slots Q (F0 m pc ls (v :: .ref a :: rest)) := by
  have hap := va_apart (own := own) hts hin ty0 hty hnm hK hc
  obtain ⟨r, h1, cell, q1, q2, q3, q4⟩ := hP q0 _ he
  have hr : r = (C, T, N) := Option.some.inj (h1.symm.trans hc)
  subst hr
  obtain ⟨hS, hfc, kC, hkC, hkind⟩ := hK.1 ci _ hc
  obtain ⟨cf, kf, fi, f, hi, hsl⟩ := hS k hk
  have hlay := hts _ (hin _ (u_in_lay hk))
  unfold u_lay at hlay
  rw [if_pos hfin] at hlay
  have hst := (u_facts hfc hkC (u_lays hts hin hk) hi).1
  have hcf : m.cls = cf := by
    obtain ⟨_, _, c', _, _, _, -, -, hf', -, -, -, hown2, -⟩ := Cond.laysFinal_spec hlay
    have e1 : c' = cf := by have := hi.symm.trans hf'; simp at this; exact this.1.symm
    rw [hdecl] at hown2
    rw [← e1]; exact Option.some.inj (hown.symm.trans hown2)
  have h6 := u_fits hfc hkC hkind (Or.inr hlay) hi hd hn hfit
  refine W.putFinK hexec hb hown hlink (hsame _ hi) hst hcf hin2 (by rw [q2]; exact h6) q1 q3 (by rw [hsl]; exact k2_hasslot (q4 k hk)) rfl rfl hdg fun H' e1 e2 e3 => ?_
  rw [hsl] at e1 ⊢
  exact kk H' _ e2 (hP.set hD he ⟨_, hc, t_OB.to (V := updV (vp_V fs) k v) ⟨_, e1, q2, q3, t_set q4 hap hk v⟩ (fun j _ => vp_updV_set hl v j)⟩ e3) (hS0.put e2 e3 (hD.2 q0 _ he))
theorem jiast0 (hexec : p.tables.exec = Jvm.exec) (hb : c.code = cc) (hK : va_K D cl tys s) (hP : va_P D cl ws H) (hD : va_D A ws) (hS : va_S A H0 H locs) (q0 t0 : Nat) {cA : ClassId} {n : Nat} {f : Nat → Int32} (ha : ws[q0]? = some (a, .inl (cA, n, .inl f))) (ht : tys[t0]? = some (cA, .int)) {i : Int32} {x : Int32} (hin : vp_in i n) (hdg : decode cc pc = .ok (.iastore, 1))
    (kk : ∀ (H1 : Heap) (locs1 : List Loc), H1.size = H.size → va_P D cl (ws.set q0 (a, .inl (cA, n, .inl (upd f i.toNatClampNeg x)))) H1 → va_S A H0 H1 locs1 → W p l e R s m args below meth c H1 locs1 cells slots Q (F0 m (pc + 1) ls rest)) : W p l e R s m args below meth c H locs cells slots Q (F0 m pc ls (.int x :: .int i :: .ref a :: rest)) := by
  refine W.iast hexec hb (hP q0 _ ha) ((hK.2 t0 _ ht).1 n (fun j => .int (f j))) (fun q => by cases q) (by show ¬ (i < 0 ∨ (arrV _ _ _).slots.size ≤ _); rw [arrV_size]; exact hin) rfl rfl hdg fun H1 e z oq => ?_
  refine kk H1 _ z (hP.set hD ha ?_ oq) (hS.put z oq (hD.2 q0 _ ha))
  show H1[a]? = some (vp_cell _ _)
  rw [e]
  rw [vp_cell_i, vp_cell_i, arrV_store]
  congr 2
  funext q
  by_cases hq : q = i.toNatClampNeg
  · subst hq
    simp [updV, upd, vp_nar]
    try rfl
  · simp [updV, upd, hq]
theorem jbast0 (hexec : p.tables.exec = Jvm.exec) (hb : c.code = cc) (hK : va_K D cl tys s) (hP : va_P D cl ws H) (hD : va_D A ws) (hS : va_S A H0 H locs) (q0 t0 : Nat) {cA : ClassId} {n : Nat} {f : Nat → Int32} (ha : ws[q0]? = some (a, .inl (cA, n, .inl f))) (ht : tys[t0]? = some (cA, .byte)) {i : Int32} {x : Int32} (hin : vp_in i n) (hdg : decode cc pc = .ok (.bastore, 1))
    (kk : ∀ (H1 : Heap) (locs1 : List Loc), H1.size = H.size → va_P D cl (ws.set q0 (a, .inl (cA, n, .inl (upd f i.toNatClampNeg (vp_nar .byte x))))) H1 → va_S A H0 H1 locs1 → W p l e R s m args below meth c H1 locs1 cells slots Q (F0 m (pc + 1) ls rest)) : W p l e R s m args below meth c H locs cells slots Q (F0 m pc ls (.int x :: .int i :: .ref a :: rest)) := by
  refine W.bast hexec hb (hP q0 _ ha) ((hK.2 t0 _ ht).1 n (fun j => .int (f j))) (fun q => by cases q) (by show ¬ (i < 0 ∨ (arrV _ _ _).slots.size ≤ _); rw [arrV_size]; exact hin) rfl rfl hdg fun H1 e z oq => ?_
  refine kk H1 _ z (hP.set hD ha ?_ oq) (hS.put z oq (hD.2 q0 _ ha))
  show H1[a]? = some (vp_cell _ _)
  rw [e]
  rw [vp_cell_i, vp_cell_i, arrV_store]
  congr 2
  funext q
  by_cases hq : q = i.toNatClampNeg
  · subst hq
    simp [updV, upd, vp_nar]
    try rfl
  · simp [updV, upd, hq]
theorem jzast0 (hexec : p.tables.exec = Jvm.exec) (hb : c.code = cc) (hK : va_K D cl tys s) (hP : va_P D cl ws H) (hD : va_D A ws) (hS : va_S A H0 H locs) (q0 t0 : Nat) {cA : ClassId} {n : Nat} {f : Nat → Int32} (ha : ws[q0]? = some (a, .inl (cA, n, .inl f))) (ht : tys[t0]? = some (cA, .boolean)) {i : Int32} {x : Int32} (hin : vp_in i n) (hdg : decode cc pc = .ok (.bastore, 1))
    (kk : ∀ (H1 : Heap) (locs1 : List Loc), H1.size = H.size → va_P D cl (ws.set q0 (a, .inl (cA, n, .inl (upd f i.toNatClampNeg (vp_nar .boolean x))))) H1 → va_S A H0 H1 locs1 → W p l e R s m args below meth c H1 locs1 cells slots Q (F0 m (pc + 1) ls rest)) : W p l e R s m args below meth c H locs cells slots Q (F0 m pc ls (.int x :: .int i :: .ref a :: rest)) := by
  refine W.zast hexec hb (hP q0 _ ha) ((hK.2 t0 _ ht).1 n (fun j => .int (f j))) (fun q => by cases q) (by show ¬ (i < 0 ∨ (arrV _ _ _).slots.size ≤ _); rw [arrV_size]; exact hin) rfl rfl hdg fun H1 e z oq => ?_
  refine kk H1 _ z (hP.set hD ha ?_ oq) (hS.put z oq (hD.2 q0 _ ha))
  show H1[a]? = some (vp_cell _ _)
  rw [e]
  rw [vp_cell_i, vp_cell_i, arrV_store]
  congr 2
  funext q
  by_cases hq : q = i.toNatClampNeg
  · subst hq
    simp [updV, upd, vp_nar]
    try rfl
  · simp [updV, upd, hq]
theorem jlast0 (hexec : p.tables.exec = Jvm.exec) (hb : c.code = cc) (hK : va_K D cl tys s) (hP : va_P D cl ws H) (hD : va_D A ws) (hS : va_S A H0 H locs) (q0 t0 : Nat) {cA : ClassId} {n : Nat} {f : Nat → Int64} (ha : ws[q0]? = some (a, .inl (cA, n, .inr (.inl f)))) (ht : tys[t0]? = some (cA, .long)) {i : Int32} {x : Int64} (hin : vp_in i n) (hdg : decode cc pc = .ok (.lastore, 1))
    (kk : ∀ (H1 : Heap) (locs1 : List Loc), H1.size = H.size → va_P D cl (ws.set q0 (a, .inl (cA, n, .inr (.inl (vp_updL f i.toNatClampNeg x))))) H1 → va_S A H0 H1 locs1 → W p l e R s m args below meth c H1 locs1 cells slots Q (F0 m (pc + 1) ls rest)) : W p l e R s m args below meth c H locs cells slots Q (F0 m pc ls (.long x :: .int i :: .ref a :: rest)) := by
  refine W.last hexec hb (hP q0 _ ha) ((hK.2 t0 _ ht).1 n (fun j => .long (f j))) (fun q => by cases q) (by show ¬ (i < 0 ∨ (arrV _ _ _).slots.size ≤ _); rw [arrV_size]; exact hin) rfl rfl hdg fun H1 e z oq => ?_
  refine kk H1 _ z (hP.set hD ha ?_ oq) (hS.put z oq (hD.2 q0 _ ha))
  show H1[a]? = some (vp_cell _ _)
  rw [e]
  rw [vp_cell_l, vp_cell_l, arrV_store]
  congr 2
  funext q
  by_cases hq : q = i.toNatClampNeg
  · subst hq
    simp [updV, vp_updL]
  · simp [updV, vp_updL, hq]
end JPut
section JRow
variable {p : Program} {l : Launch} {e : Env} {R : Room} {s : State} {m : MethodId} {args : Array Value} {below : List Frame} {meth : Method} {c : Code} {H : Heap} {locs : List Loc} {cells slots : Nat} {Q : State → Prop}
variable {cc : ByteArray} {pc : Nat} {ls : Array Slot} {rest : List Value} {D : va_G} {b tU n : Nat} {cy : Nat → ClassId} {K len : Nat → Nat} {r : jR} {i : jI} {j : jL} {Ts : List Cond} {own C : String} {T : u_T} {N ci index k f : Nat}
theorem jgi (hx : p.tables.exec = Jvm.exec) (hb : c.code = cc) (hts : ∀ w ∈ Ts, w.before args s = true) (hown : s.vm.findClass own = some m.cls) (hst : jSt b cy D tU s s.heap) (w : jDy b cy D n K len r i j s H locs) (hk : k < n ∧ K k = ci) (hin : ∀ w ∈ u_ws C T N, w ∈ Ts) (hc : vwCl[ci]? = some (C, T, N)) (hl : (Cond.fieldLink own index (T f).1 (T f).2.1 (T f).2.2.1).before args s = true) (hf : f < N ∧ ci < 12 ∧ (jT ci)[f]? = some 0) (hdg : decode cc pc = .ok (.getfield index, 3))
    (kk : W p l e R s m args below meth c H locs cells slots Q (F0 m (pc + 3) ls (.int (i k f) :: rest))) : W p l e R s m args below meth c H locs cells slots Q (F0 m pc ls (.ref (b + k) :: rest)) :=
  va_get (D := D) (ci := ci) (v := .int (i k f)) (C := C) (T := T) (N := N) hx hb hts hin hown hst.1 w.2.1 k ((jW_get hk.1).trans (by rw [jC_obj hk.2 hf.2.1])) hc f hf.1 hl (fun _ h => h) (by rw [jfs_get, hf.2.2]; simp [jFv]) hdg kk
theorem jgl (hx : p.tables.exec = Jvm.exec) (hb : c.code = cc) (hts : ∀ w ∈ Ts, w.before args s = true) (hown : s.vm.findClass own = some m.cls) (hst : jSt b cy D tU s s.heap) (w : jDy b cy D n K len r i j s H locs) (hk : k < n ∧ K k = ci) (hin : ∀ w ∈ u_ws C T N, w ∈ Ts) (hc : vwCl[ci]? = some (C, T, N)) (hl : (Cond.fieldLink own index (T f).1 (T f).2.1 (T f).2.2.1).before args s = true) (hf : f < N ∧ ci < 12 ∧ (jT ci)[f]? = some 1) (hdg : decode cc pc = .ok (.getfield index, 3))
    (kk : W p l e R s m args below meth c H locs cells slots Q (F0 m (pc + 3) ls (.long (j k f) :: rest))) : W p l e R s m args below meth c H locs cells slots Q (F0 m pc ls (.ref (b + k) :: rest)) :=
  va_get (D := D) (ci := ci) (v := .long (j k f)) (C := C) (T := T) (N := N) hx hb hts hin hown hst.1 w.2.1 k ((jW_get hk.1).trans (by rw [jC_obj hk.2 hf.2.1])) hc f hf.1 hl (fun _ h => h) (by rw [jfs_get, hf.2.2]; simp [jFv]) hdg kk
theorem jgo (hx : p.tables.exec = Jvm.exec) (hb : c.code = cc) (hts : ∀ w ∈ Ts, w.before args s = true) (hown : s.vm.findClass own = some m.cls) (hst : jSt b cy D tU s s.heap) (w : jDy b cy D n K len r i j s H locs) (hk : k < n ∧ K k = ci) (hin : ∀ w ∈ u_ws C T N, w ∈ Ts) (hc : vwCl[ci]? = some (C, T, N)) (hl : (Cond.fieldLink own index (T f).1 (T f).2.1 (T f).2.2.1).before args s = true) (hf : f < N ∧ ci < 12 ∧ (jT ci)[f]? = some 2) (hdg : decode cc pc = .ok (.getfield index, 3))
    (kk : W p l e R s m args below meth c H locs cells slots Q (F0 m (pc + 3) ls (va_rf ((r k f).map (fun q => b + q)) :: rest))) : W p l e R s m args below meth c H locs cells slots Q (F0 m pc ls (.ref (b + k) :: rest)) :=
  va_get (D := D) (ci := ci) (v := va_rf ((r k f).map (fun q => b + q))) (C := C) (T := T) (N := N) hx hb hts hin hown hst.1 w.2.1 k ((jW_get hk.1).trans (by rw [jC_obj hk.2 hf.2.1])) hc f hf.1 hl (fun _ h => h) (by rw [jfs_get, hf.2.2]; simp [jFv]) hdg kk
theorem jgr (hx : p.tables.exec = Jvm.exec) (hb : c.code = cc) (hts : ∀ w ∈ Ts, w.before args s = true) (hown : s.vm.findClass own = some m.cls) (hst : jSt b cy D tU s s.heap) (w : jDy b cy D n K len r i j s H locs) (hG : jG n K r) (hk : k < n ∧ K k = ci) (hin : ∀ w ∈ u_ws C T N, w ∈ Ts) (hc : vwCl[ci]? = some (C, T, N)) (hl : (Cond.fieldLink own index (T f).1 (T f).2.1 (T f).2.2.1).before args s = true) (hf : f < N ∧ ci < 12 ∧ (jT ci)[f]? = some 2) {ct : Nat} (hct : jrt ci f = ct) (hdg : decode cc pc = .ok (.getfield index, 3)) {q : Nat} (hr : r k f = some q)
    (kk : q < n ∧ K q = ct → W p l e R s m args below meth c H locs cells slots Q (F0 m (pc + 3) ls (.ref (b + q) :: rest))) : W p l e R s m args below meth c H locs cells slots Q (F0 m pc ls (.ref (b + k) :: rest)) := by
  refine jgo hx hb hts hown hst w hk hin hc hl hf hdg ?_
  rw [hr]
  have h := hG k f q hk.1 hr
  rw [hk.2, hct] at h
  exact kk h
theorem jpi (hx : p.tables.exec = Jvm.exec) (hb : c.code = cc) (hts : ∀ w ∈ Ts, w.before args s = true) (hown : s.vm.findClass own = some m.cls) (hst : jSt b cy D tU s s.heap) (w : jDy b cy D n K len r i j s H locs) (hk : k < n ∧ K k = ci) (hin : ∀ w ∈ u_ws C T N, w ∈ Ts) (hc : vwCl[ci]? = some (C, T, N)) (hl : (Cond.fieldLink own index (T f).1 (T f).2.1 (T f).2.2.1).before args s = true) (hf : f < N ∧ ci < 12 ∧ (jT ci)[f]? = some 0) (ty0 : Nat → FieldType) (hty : ∀ k, k < N → parseFieldDescriptor (T k).2.2.1 = some (ty0 k)) (hnm : ∀ a, a < N → ∀ b, b < N → a ≠ b → (T a).2.1 ≠ (T b).2.1) (hfin : (T f).2.2.2 = false) {v : Int32} (hn : narrow (ty0 f) (.int v) = .int v ∧ fits (ty0 f) (.int v) = true) (hdg : decode cc pc = .ok (.putfield index, 3))
    (kk : ∀ (i1 : jI) (H : Heap) (locs : List Loc), i1 = ju i k f v → jDy b cy D n K len r i1 j s H locs → W p l e R s m args below meth c H locs cells slots Q (F0 m (pc + 3) ls rest)) : W p l e R s m args below meth c H locs cells slots Q (F0 m pc ls (.int v :: .ref (b + k) :: rest)) := by
  refine jput0 (D := D) (ci := ci) (v := .int v) (C := C) (T := T) (N := N) (ty := ty0 f) hx hb hts hin ty0 hty hnm hown hst.1 w.2.1 jW_D w.2.2 k ((jW_get hk.1).trans (by rw [jC_obj hk.2 hf.2.1])) hc f hf.1 hl (fun _ h => h) hfin (hty f hf.1) hn.1 hn.2 (by rw [jfs_len]; exact (List.getElem?_eq_some_iff.mp hf.2.2).1) hdg (fun H1 locs1 hz hP hS => ?_)
  rw [jW_set hk.1 (jC_ju hk.2 hf.2.1 hf.2.2) (fun q _ hq => jC_ju_ne hq)] at hP
  exact kk _ H1 locs1 rfl ⟨hz.trans w.1, hP, hS⟩
theorem jpl (hx : p.tables.exec = Jvm.exec) (hb : c.code = cc) (hts : ∀ w ∈ Ts, w.before args s = true) (hown : s.vm.findClass own = some m.cls) (hst : jSt b cy D tU s s.heap) (w : jDy b cy D n K len r i j s H locs) (hk : k < n ∧ K k = ci) (hin : ∀ w ∈ u_ws C T N, w ∈ Ts) (hc : vwCl[ci]? = some (C, T, N)) (hl : (Cond.fieldLink own index (T f).1 (T f).2.1 (T f).2.2.1).before args s = true) (hf : f < N ∧ ci < 12 ∧ (jT ci)[f]? = some 1) (ty0 : Nat → FieldType) (hty : ∀ k, k < N → parseFieldDescriptor (T k).2.2.1 = some (ty0 k)) (hnm : ∀ a, a < N → ∀ b, b < N → a ≠ b → (T a).2.1 ≠ (T b).2.1) (hfin : (T f).2.2.2 = false) {v : Int64} (hn : narrow (ty0 f) (.long v) = .long v ∧ fits (ty0 f) (.long v) = true) (hdg : decode cc pc = .ok (.putfield index, 3))
    (kk : ∀ (j1 : jL) (H : Heap) (locs : List Loc), j1 = jul j k f v → jDy b cy D n K len r i j1 s H locs → W p l e R s m args below meth c H locs cells slots Q (F0 m (pc + 3) ls rest)) : W p l e R s m args below meth c H locs cells slots Q (F0 m pc ls (.long v :: .ref (b + k) :: rest)) := by
  refine jput0 (D := D) (ci := ci) (v := .long v) (C := C) (T := T) (N := N) (ty := ty0 f) hx hb hts hin ty0 hty hnm hown hst.1 w.2.1 jW_D w.2.2 k ((jW_get hk.1).trans (by rw [jC_obj hk.2 hf.2.1])) hc f hf.1 hl (fun _ h => h) hfin (hty f hf.1) hn.1 hn.2 (by rw [jfs_len]; exact (List.getElem?_eq_some_iff.mp hf.2.2).1) hdg (fun H1 locs1 hz hP hS => ?_)
  rw [jW_set hk.1 (jC_jul hk.2 hf.2.1 hf.2.2) (fun q _ hq => jC_jul_ne hq)] at hP
  exact kk _ H1 locs1 rfl ⟨hz.trans w.1, hP, hS⟩
theorem jaid (hx : p.tables.exec = Jvm.exec) (hb : c.code = cc) (hst : jSt b cy D tU s s.heap) (w : jDy b cy D n K len r i j s H locs) (hk : k < n ∧ K k = 13) {q : Int32} (hin : vp_in q (len k)) (hdg : decode cc pc = .ok (.iaload, 1))
    (kk : W p l e R s m args below meth c H locs cells slots Q (F0 m (pc + 1) ls (.int (i k q.toNatClampNeg) :: rest))) : W p l e R s m args below meth c H locs cells slots Q (F0 m pc ls (.int q :: .ref (b + k) :: rest)) :=
  va_iald (D := D) hx hb hst.1 w.2.1 k 1 ((jW_get hk.1).trans (by rw [jC_arr hk.2 (by decide)])) rfl hin hdg kk
theorem jabd (hx : p.tables.exec = Jvm.exec) (hb : c.code = cc) (hst : jSt b cy D tU s s.heap) (w : jDy b cy D n K len r i j s H locs) (hk : k < n ∧ K k = 12) {q : Int32} (hin : vp_in q (len k)) (hdg : decode cc pc = .ok (.baload, 1))
    (kk : W p l e R s m args below meth c H locs cells slots Q (F0 m (pc + 1) ls (.int (i k q.toNatClampNeg) :: rest))) : W p l e R s m args below meth c H locs cells slots Q (F0 m pc ls (.int q :: .ref (b + k) :: rest)) :=
  va_bald (D := D) hx hb hst.1 w.2.1 k 0 ((jW_get hk.1).trans (by rw [jC_arr hk.2 (by decide)])) rfl hin hdg kk
theorem jazd (hx : p.tables.exec = Jvm.exec) (hb : c.code = cc) (hst : jSt b cy D tU s s.heap) (w : jDy b cy D n K len r i j s H locs) (hk : k < n ∧ K k = 15) {q : Int32} (hin : vp_in q (len k)) (hdg : decode cc pc = .ok (.baload, 1))
    (kk : W p l e R s m args below meth c H locs cells slots Q (F0 m (pc + 1) ls (.int (i k q.toNatClampNeg) :: rest))) : W p l e R s m args below meth c H locs cells slots Q (F0 m pc ls (.int q :: .ref (b + k) :: rest)) :=
  va_zald (D := D) hx hb hst.1 w.2.1 k 3 ((jW_get hk.1).trans (by rw [jC_arr hk.2 (by decide)])) rfl hin hdg kk
theorem jais (hx : p.tables.exec = Jvm.exec) (hb : c.code = cc) (hst : jSt b cy D tU s s.heap) (w : jDy b cy D n K len r i j s H locs) (hk : k < n ∧ K k = 13) {q v : Int32} (hin : vp_in q (len k)) (hdg : decode cc pc = .ok (.iastore, 1))
    (kk : ∀ (i1 : jI) (H : Heap) (locs : List Loc), i1 = ju i k q.toNatClampNeg v → jDy b cy D n K len r i1 j s H locs → W p l e R s m args below meth c H locs cells slots Q (F0 m (pc + 1) ls rest)) : W p l e R s m args below meth c H locs cells slots Q (F0 m pc ls (.int v :: .int q :: .ref (b + k) :: rest)) := by
  refine jiast0 (D := D) hx hb hst.1 w.2.1 jW_D w.2.2 k 1 ((jW_get hk.1).trans (by rw [jC_arr hk.2 (by decide)])) rfl hin hdg (fun H1 locs1 hz hP hS => ?_)
  rw [jW_set (i' := ju i k q.toNatClampNeg v) hk.1 (by rw [jC_arr hk.2 (by decide), ju_eq]) (fun q _ hq => jC_ju_ne hq)] at hP
  exact kk _ H1 locs1 rfl ⟨hz.trans w.1, hP, hS⟩
theorem jabs (hx : p.tables.exec = Jvm.exec) (hb : c.code = cc) (hst : jSt b cy D tU s s.heap) (w : jDy b cy D n K len r i j s H locs) (hk : k < n ∧ K k = 12) {q v : Int32} (hin : vp_in q (len k)) (hdg : decode cc pc = .ok (.bastore, 1))
    (kk : ∀ (i1 : jI) (H : Heap) (locs : List Loc), i1 = ju i k q.toNatClampNeg (vp_nar .byte v) → jDy b cy D n K len r i1 j s H locs → W p l e R s m args below meth c H locs cells slots Q (F0 m (pc + 1) ls rest)) : W p l e R s m args below meth c H locs cells slots Q (F0 m pc ls (.int v :: .int q :: .ref (b + k) :: rest)) := by
  refine jbast0 (D := D) hx hb hst.1 w.2.1 jW_D w.2.2 k 0 ((jW_get hk.1).trans (by rw [jC_arr hk.2 (by decide)])) rfl hin hdg (fun H1 locs1 hz hP hS => ?_)
  rw [jW_set (i' := ju i k q.toNatClampNeg (vp_nar .byte v)) hk.1 (by rw [jC_arr hk.2 (by decide), ju_eq]) (fun q _ hq => jC_ju_ne hq)] at hP
  exact kk _ H1 locs1 rfl ⟨hz.trans w.1, hP, hS⟩
theorem jazs (hx : p.tables.exec = Jvm.exec) (hb : c.code = cc) (hst : jSt b cy D tU s s.heap) (w : jDy b cy D n K len r i j s H locs) (hk : k < n ∧ K k = 15) {q v : Int32} (hin : vp_in q (len k)) (hdg : decode cc pc = .ok (.bastore, 1))
    (kk : ∀ (i1 : jI) (H : Heap) (locs : List Loc), i1 = ju i k q.toNatClampNeg (vp_nar .boolean v) → jDy b cy D n K len r i1 j s H locs → W p l e R s m args below meth c H locs cells slots Q (F0 m (pc + 1) ls rest)) : W p l e R s m args below meth c H locs cells slots Q (F0 m pc ls (.int v :: .int q :: .ref (b + k) :: rest)) := by
  refine jzast0 (D := D) hx hb hst.1 w.2.1 jW_D w.2.2 k 3 ((jW_get hk.1).trans (by rw [jC_arr hk.2 (by decide)])) rfl hin hdg (fun H1 locs1 hz hP hS => ?_)
  rw [jW_set (i' := ju i k q.toNatClampNeg (vp_nar .boolean v)) hk.1 (by rw [jC_arr hk.2 (by decide), ju_eq]) (fun q _ hq => jC_ju_ne hq)] at hP
  exact kk _ H1 locs1 rfl ⟨hz.trans w.1, hP, hS⟩
theorem jald (hx : p.tables.exec = Jvm.exec) (hb : c.code = cc) (hst : jSt b cy D tU s s.heap) (w : jDy b cy D n K len r i j s H locs) (hk : k < n ∧ K k = 14) {q : Int32} (hin : vp_in q (len k)) (hdg : decode cc pc = .ok (.laload, 1))
    (kk : W p l e R s m args below meth c H locs cells slots Q (F0 m (pc + 1) ls (.long (j k q.toNatClampNeg) :: rest))) : W p l e R s m args below meth c H locs cells slots Q (F0 m pc ls (.int q :: .ref (b + k) :: rest)) :=
  va_lald (D := D) hx hb hst.1 w.2.1 k 2 ((jW_get hk.1).trans (by rw [jC_arrJ hk.2])) rfl hin hdg kk
theorem jast (hx : p.tables.exec = Jvm.exec) (hb : c.code = cc) (hst : jSt b cy D tU s s.heap) (w : jDy b cy D n K len r i j s H locs) (hk : k < n ∧ K k = 14) {q : Int32} {v : Int64} (hin : vp_in q (len k)) (hdg : decode cc pc = .ok (.lastore, 1))
    (kk : ∀ (j1 : jL) (H : Heap) (locs : List Loc), j1 = jul j k q.toNatClampNeg v → jDy b cy D n K len r i j1 s H locs → W p l e R s m args below meth c H locs cells slots Q (F0 m (pc + 1) ls rest)) : W p l e R s m args below meth c H locs cells slots Q (F0 m pc ls (.long v :: .int q :: .ref (b + k) :: rest)) := by
  refine jlast0 (D := D) hx hb hst.1 w.2.1 jW_D w.2.2 k 2 ((jW_get hk.1).trans (by rw [jC_arrJ hk.2])) rfl hin hdg (fun H1 locs1 hz hP hS => ?_)
  rw [jW_set (j' := jul j k q.toNatClampNeg v) hk.1 (by rw [jC_arrJ hk.2, jul_eq]) (fun q _ hq => jC_jul_ne hq)] at hP
  exact kk _ H1 locs1 rfl ⟨hz.trans w.1, hP, hS⟩
/-- the walkers' row is read: what it holds is a walker -/
theorem jaar (hx : p.tables.exec = Jvm.exec) (hb : c.code = cc) (hst : jSt b cy D tU s s.heap) (w : jDy b cy D n K len r i j s H locs) (hG : jG n K r) (hk : k < n ∧ K k = 16) {q : Int32} (hin : vp_in q (len k)) (hdg : decode cc pc = .ok (.aaload, 1)) {v : Nat} (hr : r k q.toNatClampNeg = some v)
    (kk : v < n ∧ K v = 8 → W p l e R s m args below meth c H locs cells slots Q (F0 m (pc + 1) ls (.ref (b + v) :: rest))) : W p l e R s m args below meth c H locs cells slots Q (F0 m pc ls (.int q :: .ref (b + k) :: rest)) := by
  refine va_aldq (D := D) hx hb hst.1 w.2.1 k 4 ((jW_get hk.1).trans (by rw [jC_arrR hk.2])) rfl hin hdg ?_
  simp only [hr]
  have h := hG k _ v hk.1 hr
  rw [hk.2] at h
  exact kk h
theorem jlen (hx : p.tables.exec = Jvm.exec) (hb : c.code = cc) (hst : jSt b cy D tU s s.heap) (w : jDy b cy D n K len r i j s H locs) (hk : k < n ∧ (K k = 13 ∨ K k = 14)) (hdg : decode cc pc = .ok (.arraylength, 1))
    (kk : W p l e R s m args below meth c H locs cells slots Q (F0 m (pc + 1) ls (.int (Int32.ofNat (len k)) :: rest))) : W p l e R s m args below meth c H locs cells slots Q (F0 m pc ls (.ref (b + k) :: rest)) := by
  rcases hk.2 with h | h
  · exact va_alen (D := D) hx hb hst.1 w.2.1 k 1 ((jW_get hk.1).trans (by rw [jC_arr h (by decide)])) rfl rfl hdg kk
  · exact va_alen (D := D) hx hb hst.1 w.2.1 k 2 ((jW_get hk.1).trans (by rw [jC_arrJ h])) rfl rfl hdg kk
/-- the static row of masks -/
theorem jgU (hx : p.tables.exec = Jvm.exec) (hb : c.code = cc) (hown : s.vm.findClass own = some m.cls) (hst : jSt b cy D tU s s.heap) (w : jDy b cy D n K len r i j s H locs) (hl : (Cond.fieldLink own index "FootByGate$Reach" "UNMARKED" "[J").before args s = true) (hdg : decode cc pc = .ok (.getstatic index, 3))
    (kk : W p l e R s m args below meth c H locs cells slots Q (F0 m (pc + 3) ls (.ref tU :: rest))) : W p l e R s m args below meth c H locs cells slots Q (F0 m pc ls rest) :=
  va_gets hx hb hst.2.1 w.2.2 hown hl (fun _ h => h) hdg kk
theorem jlU (hx : p.tables.exec = Jvm.exec) (hb : c.code = cc) (hst : jSt b cy D tU s s.heap) (w : jDy b cy D n K len r i j s H locs) {q : Int32} (hin : vp_in q 3) (hdg : decode cc pc = .ok (.laload, 1))
    (kk : W p l e R s m args below meth c H locs cells slots Q (F0 m (pc + 1) ls (.long (if q.toNatClampNeg = 0 then 1229782938247303441 else if q.toNatClampNeg = 1 then 4222189076152335 else 65535) :: rest))) : W p l e R s m args below meth c H locs cells slots Q (F0 m pc ls (.int q :: .ref tU :: rest)) :=
  va_tl hx hb hst.2.2.1 w.2.2 hin rfl hdg kk
end JRow
theorem jbool {v : Int32} (h : v = 0 ∨ v = 1) : narrow .boolean (.int v) = .int v ∧ fits .boolean (.int v) = true := by
  rcases h with rfl | rfl <;> exact ⟨by decide, by decide⟩
def jQi (b : Nat) (cy : Nat → ClassId) (D : va_G) (tU n : Nat) (K len : Nat → Nat) (r : jR) (Qj : Int32 → jI → jL → Prop) : Array Value → State → Outcome → State → Prop := va_Qi (fun q (u : jI × jL) => Qj q u.1 u.2) (fun u => jPre b cy D tU n K len r u.1 u.2) (jA b)
def jQl (b : Nat) (cy : Nat → ClassId) (D : va_G) (tU n : Nat) (K len : Nat → Nat) (r : jR) (Qj : Int64 → jI → jL → Prop) : Array Value → State → Outcome → State → Prop := va_Ql (fun q (u : jI × jL) => Qj q u.1 u.2) (fun u => jPre b cy D tU n K len r u.1 u.2) (jA b)
def jQv (b : Nat) (cy : Nat → ClassId) (D : va_G) (tU n : Nat) (K len : Nat → Nat) (r : jR) (Qj : jI → jL → Prop) : Array Value → State → Outcome → State → Prop := va_Qv (fun (u : jI × jL) => Qj u.1 u.2) (fun u => jPre b cy D tU n K len r u.1 u.2) (jA b)
def jCx (p : Program) (s : State) (m : MethodId) (args : Array Value) (c : Code) (cc : ByteArray) (nL : Nat) (Ts : List Cond) (own : String) (b : Nat) (cy : Nat → ClassId) (D : va_G) (tU n : Nat) (K : Nat → Nat) (r : jR) : Prop := p.tables.exec = Jvm.exec ∧ c.code = cc ∧ c.maxLocals = nL ∧ s.vm.findClass own = some m.cls ∧ (∀ w ∈ Ts, w.before args s = true) ∧ jSt b cy D tU s s.heap ∧ jG n K r
section JCall
variable {p : Program} {l : Launch} {e : Env} {R : Room} {s : State} {m : MethodId} {args : Array Value} {below : List Frame} {meth : Method} {c : Code} {H : Heap} {locs : List Loc} {cells slots : Nat} {Q : State → Prop}
variable {cc bytes : ByteArray} {pc nL maxL na : Nat} {ls : Array Slot} {rest st0 As : List Value} {D : va_G} {b tU n : Nat} {cy : Nat → ClassId} {K len : Nat → Nat} {r : jR} {i : jI} {j : jL} {Ts ws : List Cond} {own C : String} {T : u_T} {N ci index k f : Nat} {y : MethodName} {ret : Option FieldType} {rm : Room}
theorem jret_i {Qj : Int32 → jI → jL → Prop} {v : Int32} (hx : p.tables.exec = Jvm.exec) (hb : c.code = cc) (hr : meth.sig.returnType = some .int) (hlk : meth.locks = false) (hst : jSt b cy D tU s s.heap) (w : jDy b cy D n K len r i j s H locs) (h : Qj v i j) (hdg : decode cc pc = .ok (.ireturn, 1)) : W p l e R s m args below meth c H locs cells slots (MQ below (jQi b cy D tU n K len r Qj) args s cells slots (jA b)) (F0 m pc ls [.int v]) :=
  W.iret (v := v) hx hb hr (fun t ht hW => ⟨⟨v, (i, j), rfl, h, jPre.of hst w ht hW⟩, w.2.2.F ht⟩) w.2.2.2.2 hdg hlk
theorem jret_l {Qj : Int64 → jI → jL → Prop} {v : Int64} (hx : p.tables.exec = Jvm.exec) (hb : c.code = cc) (hr : meth.sig.returnType = some .long) (hlk : meth.locks = false) (hst : jSt b cy D tU s s.heap) (w : jDy b cy D n K len r i j s H locs) (h : Qj v i j) (hdg : decode cc pc = .ok (.lreturn, 1)) : W p l e R s m args below meth c H locs cells slots (MQ below (jQl b cy D tU n K len r Qj) args s cells slots (jA b)) (F0 m pc ls [.long v]) :=
  W.lret (v := v) hx hb hr (fun t ht hW => ⟨⟨v, (i, j), rfl, h, jPre.of hst w ht hW⟩, w.2.2.F ht⟩) w.2.2.2.2 hdg hlk
theorem jret_z {Qj : Int32 → jI → jL → Prop} {v : Int32} (hx : p.tables.exec = Jvm.exec) (hb : c.code = cc) (hr : meth.sig.returnType = some .boolean) (hlk : meth.locks = false) (hst : jSt b cy D tU s s.heap) (w : jDy b cy D n K len r i j s H locs) (hv : v = 0 ∨ v = 1) (h : Qj v i j) (hdg : decode cc pc = .ok (.ireturn, 1)) : W p l e R s m args below meth c H locs cells slots (MQ below (jQi b cy D tU n K len r Qj) args s cells slots (jA b)) (F0 m pc ls [.int v]) :=
  W.zret (v := v) hx hb hr (jbool hv).1 (fun t ht hW => ⟨⟨v, (i, j), rfl, h, jPre.of hst w ht hW⟩, w.2.2.F ht⟩) w.2.2.2.2 hdg hlk
theorem jret_v {Qj : jI → jL → Prop} (hx : p.tables.exec = Jvm.exec) (hb : c.code = cc) (hr : meth.sig.returnType = none) (hlk : meth.locks = false) (hst : jSt b cy D tU s s.heap) (w : jDy b cy D n K len r i j s H locs) (h : Qj i j) (hdg : decode cc pc = .ok (.return_, 1)) : W p l e R s m args below meth c H locs cells slots (MQ below (jQv b cy D tU n K len r Qj) args s cells slots (jA b)) (F0 m pc ls []) :=
  W.vret hx hb hr (fun t ht hW => ⟨⟨(i, j), rfl, h, jPre.of hst w ht hW⟩, w.2.2.F ht⟩) w.2.2.2.2 hdg hlk
theorem jcS_i {Qj : Int32 → jI → jL → Prop} (C0 : jCx p s m args c cc nL Ts own b cy D tU n K r) (w : jDy b cy D n K len r i j s H locs) (hM : Met l y ws rm (va_Pc As (jPre b cy D tU n K len r i j)) (jQi b cy D tU n K len r Qj) 0 0 (jA b)) (cw : CallB R s args own index y bytes maxL ret ws rm 0 0 na ∧ (Cond.static y).before args s = true) (hn : As.length = na) (hsz : ls.size = nL) (hstk : st0 = As.reverse ++ rest) (hroom : (rest.map fun v => v.category).sum ≤ 8) (hdg : decode cc pc = .ok (.invokestatic index, 3))
    (kk : ∀ (q : Int32) (i1 : jI) (j1 : jL) (H1 : Heap) (locs1 : List Loc), Qj q i1 j1 → jDy b cy D n K len r i1 j1 s H1 locs1 → W p l e R s m args below meth c H1 locs1 cells slots Q (F0 m (pc + 3) ls (.int q :: rest))) (hf : cells ≤ R.cells ∧ slots ≤ R.slots) : W p l e R s m args below meth c H locs cells slots Q (F0 m pc ls st0) := by
  subst hstk
  obtain ⟨hx, hb, hml, hown, hts, hst, hG⟩ := C0
  refine va_calli (va_runS (As := As) (rest := rest) ⟨hx, hb, hml, hown, hts⟩ hM cw ⟨jBlind As, fun U hU hW => ⟨rfl, jPre.of hst w hU hW⟩⟩ rfl hn hsz rfl (lv_room hroom) hdg hf) w.2.2 (fun _ _ h => h) (fun _ h => h) (fun q u t H1 locs1 ht hvm hp hB hz hk hS => kk q u.1 u.2 H1 locs1 hp ?_)
  exact ⟨by rw [← ht]; exact hB.1, by rw [← ht]; exact hB.2.1, hS⟩
theorem jcV_i {Qj : Int32 → jI → jL → Prop} (C0 : jCx p s m args c cc nL Ts own b cy D tU n K r) (w : jDy b cy D n K len r i j s H locs) (hM : Met l y ws rm (va_Pc (.ref (b + k) :: As) (jPre b cy D tU n K len r i j)) (jQi b cy D tU n K len r Qj) 0 0 (jA b)) (cw : CallW R s args own C index y bytes maxL ret ws rm 0 0 na) (hk : k < n ∧ K k = ci) (hc : vwCl[ci]? = some (C, T, N)) (hci : ci < 12) (hn : As.length = na) (hsz : ls.size = nL) (hstk : st0 = As.reverse ++ .ref (b + k) :: rest) (hroom : (rest.map fun v => v.category).sum ≤ 8) (hdg : decode cc pc = .ok (.invokevirtual index, 3))
    (kk : ∀ (q : Int32) (i1 : jI) (j1 : jL) (H1 : Heap) (locs1 : List Loc), Qj q i1 j1 → jDy b cy D n K len r i1 j1 s H1 locs1 → W p l e R s m args below meth c H1 locs1 cells slots Q (F0 m (pc + 3) ls (.int q :: rest))) (hf : cells ≤ R.cells ∧ slots ≤ R.slots) : W p l e R s m args below meth c H locs cells slots Q (F0 m pc ls st0) := by
  subst hstk
  obtain ⟨hx, hb, hml, hown, hts, hst, hG⟩ := C0
  refine va_calli (va_runV (As := As) (rest := rest) ⟨hx, hb, hml, hown, hts⟩ hM cw ⟨jBlind _, va_recv hst.1 w.2.1 (ci := ci) (q0 := k) hc ((jW_get hk.1).trans (by rw [jC_obj hk.2 hci])), fun U hU hW => ⟨rfl, jPre.of hst w hU hW⟩⟩ rfl hn hsz rfl (lv_room hroom) hdg hf) w.2.2 (fun _ _ h => h) (fun _ h => h) (fun q u t H1 locs1 ht hvm hp hB hz hk hS => kk q u.1 u.2 H1 locs1 hp ?_)
  exact ⟨by rw [← ht]; exact hB.1, by rw [← ht]; exact hB.2.1, hS⟩
theorem jcS_l {Qj : Int64 → jI → jL → Prop} (C0 : jCx p s m args c cc nL Ts own b cy D tU n K r) (w : jDy b cy D n K len r i j s H locs) (hM : Met l y ws rm (va_Pc As (jPre b cy D tU n K len r i j)) (jQl b cy D tU n K len r Qj) 0 0 (jA b)) (cw : CallB R s args own index y bytes maxL ret ws rm 0 0 na ∧ (Cond.static y).before args s = true) (hn : As.length = na) (hsz : ls.size = nL) (hstk : st0 = As.reverse ++ rest) (hroom : (rest.map fun v => v.category).sum ≤ 8) (hdg : decode cc pc = .ok (.invokestatic index, 3))
    (kk : ∀ (q : Int64) (i1 : jI) (j1 : jL) (H1 : Heap) (locs1 : List Loc), Qj q i1 j1 → jDy b cy D n K len r i1 j1 s H1 locs1 → W p l e R s m args below meth c H1 locs1 cells slots Q (F0 m (pc + 3) ls (.long q :: rest))) (hf : cells ≤ R.cells ∧ slots ≤ R.slots) : W p l e R s m args below meth c H locs cells slots Q (F0 m pc ls st0) := by
  subst hstk
  obtain ⟨hx, hb, hml, hown, hts, hst, hG⟩ := C0
  refine va_calll (va_runS (As := As) (rest := rest) ⟨hx, hb, hml, hown, hts⟩ hM cw ⟨jBlind As, fun U hU hW => ⟨rfl, jPre.of hst w hU hW⟩⟩ rfl hn hsz rfl (lv_room hroom) hdg hf) w.2.2 (fun _ _ h => h) (fun _ h => h) (fun q u t H1 locs1 ht hvm hp hB hz hk hS => kk q u.1 u.2 H1 locs1 hp ?_)
  exact ⟨by rw [← ht]; exact hB.1, by rw [← ht]; exact hB.2.1, hS⟩
theorem jcV_l {Qj : Int64 → jI → jL → Prop} (C0 : jCx p s m args c cc nL Ts own b cy D tU n K r) (w : jDy b cy D n K len r i j s H locs) (hM : Met l y ws rm (va_Pc (.ref (b + k) :: As) (jPre b cy D tU n K len r i j)) (jQl b cy D tU n K len r Qj) 0 0 (jA b)) (cw : CallW R s args own C index y bytes maxL ret ws rm 0 0 na) (hk : k < n ∧ K k = ci) (hc : vwCl[ci]? = some (C, T, N)) (hci : ci < 12) (hn : As.length = na) (hsz : ls.size = nL) (hstk : st0 = As.reverse ++ .ref (b + k) :: rest) (hroom : (rest.map fun v => v.category).sum ≤ 8) (hdg : decode cc pc = .ok (.invokevirtual index, 3))
    (kk : ∀ (q : Int64) (i1 : jI) (j1 : jL) (H1 : Heap) (locs1 : List Loc), Qj q i1 j1 → jDy b cy D n K len r i1 j1 s H1 locs1 → W p l e R s m args below meth c H1 locs1 cells slots Q (F0 m (pc + 3) ls (.long q :: rest))) (hf : cells ≤ R.cells ∧ slots ≤ R.slots) : W p l e R s m args below meth c H locs cells slots Q (F0 m pc ls st0) := by
  subst hstk
  obtain ⟨hx, hb, hml, hown, hts, hst, hG⟩ := C0
  refine va_calll (va_runV (As := As) (rest := rest) ⟨hx, hb, hml, hown, hts⟩ hM cw ⟨jBlind _, va_recv hst.1 w.2.1 (ci := ci) (q0 := k) hc ((jW_get hk.1).trans (by rw [jC_obj hk.2 hci])), fun U hU hW => ⟨rfl, jPre.of hst w hU hW⟩⟩ rfl hn hsz rfl (lv_room hroom) hdg hf) w.2.2 (fun _ _ h => h) (fun _ h => h) (fun q u t H1 locs1 ht hvm hp hB hz hk hS => kk q u.1 u.2 H1 locs1 hp ?_)
  exact ⟨by rw [← ht]; exact hB.1, by rw [← ht]; exact hB.2.1, hS⟩
theorem jcS_v {Qj : jI → jL → Prop} (C0 : jCx p s m args c cc nL Ts own b cy D tU n K r) (w : jDy b cy D n K len r i j s H locs) (hM : Met l y ws rm (va_Pc As (jPre b cy D tU n K len r i j)) (jQv b cy D tU n K len r Qj) 0 0 (jA b)) (cw : CallB R s args own index y bytes maxL ret ws rm 0 0 na ∧ (Cond.static y).before args s = true) (hn : As.length = na) (hsz : ls.size = nL) (hstk : st0 = As.reverse ++ rest) (hroom : (rest.map fun v => v.category).sum ≤ 8) (hdg : decode cc pc = .ok (.invokestatic index, 3))
    (kk : ∀ (i1 : jI) (j1 : jL) (H1 : Heap) (locs1 : List Loc), Qj i1 j1 → jDy b cy D n K len r i1 j1 s H1 locs1 → W p l e R s m args below meth c H1 locs1 cells slots Q (F0 m (pc + 3) ls (rest))) (hf : cells ≤ R.cells ∧ slots ≤ R.slots) : W p l e R s m args below meth c H locs cells slots Q (F0 m pc ls st0) := by
  subst hstk
  obtain ⟨hx, hb, hml, hown, hts, hst, hG⟩ := C0
  refine va_callv (va_runS (As := As) (rest := rest) ⟨hx, hb, hml, hown, hts⟩ hM cw ⟨jBlind As, fun U hU hW => ⟨rfl, jPre.of hst w hU hW⟩⟩ rfl hn hsz rfl (lv_room hroom) hdg hf) w.2.2 (fun _ _ h => h) (fun _ h => h) (fun u t H1 locs1 ht hvm hp hB hz hk hS => kk u.1 u.2 H1 locs1 hp ?_)
  exact ⟨by rw [← ht]; exact hB.1, by rw [← ht]; exact hB.2.1, hS⟩
theorem jcV_v {Qj : jI → jL → Prop} (C0 : jCx p s m args c cc nL Ts own b cy D tU n K r) (w : jDy b cy D n K len r i j s H locs) (hM : Met l y ws rm (va_Pc (.ref (b + k) :: As) (jPre b cy D tU n K len r i j)) (jQv b cy D tU n K len r Qj) 0 0 (jA b)) (cw : CallW R s args own C index y bytes maxL ret ws rm 0 0 na) (hk : k < n ∧ K k = ci) (hc : vwCl[ci]? = some (C, T, N)) (hci : ci < 12) (hn : As.length = na) (hsz : ls.size = nL) (hstk : st0 = As.reverse ++ .ref (b + k) :: rest) (hroom : (rest.map fun v => v.category).sum ≤ 8) (hdg : decode cc pc = .ok (.invokevirtual index, 3))
    (kk : ∀ (i1 : jI) (j1 : jL) (H1 : Heap) (locs1 : List Loc), Qj i1 j1 → jDy b cy D n K len r i1 j1 s H1 locs1 → W p l e R s m args below meth c H1 locs1 cells slots Q (F0 m (pc + 3) ls (rest))) (hf : cells ≤ R.cells ∧ slots ≤ R.slots) : W p l e R s m args below meth c H locs cells slots Q (F0 m pc ls st0) := by
  subst hstk
  obtain ⟨hx, hb, hml, hown, hts, hst, hG⟩ := C0
  refine va_callv (va_runV (As := As) (rest := rest) ⟨hx, hb, hml, hown, hts⟩ hM cw ⟨jBlind _, va_recv hst.1 w.2.1 (ci := ci) (q0 := k) hc ((jW_get hk.1).trans (by rw [jC_obj hk.2 hci])), fun U hU hW => ⟨rfl, jPre.of hst w hU hW⟩⟩ rfl hn hsz rfl (lv_room hroom) hdg hf) w.2.2 (fun _ _ h => h) (fun _ h => h) (fun u t H1 locs1 ht hvm hp hB hz hk hS => kk u.1 u.2 H1 locs1 hp ?_)
  exact ⟨by rw [← ht]; exact hB.1, by rw [← ht]; exact hB.2.1, hS⟩
end JCall
