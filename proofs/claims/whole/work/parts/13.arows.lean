/-! MY ROWS FOR WHAT MAKES CELLS: the whole world in one value -/
abbrev jS : Type := Nat × (Nat → Nat) × (Nat → Nat) × jR × jI × jL
abbrev gN (g : jS) : Nat := g.1
abbrev gK (g : jS) : Nat → Nat := g.2.1
abbrev gl (g : jS) : Nat → Nat := g.2.2.1
abbrev gr (g : jS) : jR := g.2.2.2.1
abbrev gi (g : jS) : jI := g.2.2.2.2.1
abbrev gj (g : jS) : jL := g.2.2.2.2.2
def gnew (kd ln : Nat) (g : jS) : jS := (gN g + 1, va_up (gK g) (gN g) kd, va_up (gl g) (gN g) ln, va_up (gr g) (gN g) (fun _ => none), va_up (gi g) (gN g) (fun _ => 0), va_up (gj g) (gN g) (fun _ => 0))
def gpr (g : jS) (k f q : Nat) : jS := (gN g, gK g, gl g, jur (gr g) k f (some q), gi g, gj g)
def gsi (g : jS) (i : jI) (j : jL) : jS := (gN g, gK g, gl g, gr g, i, j)
def jPA (b : Nat) (cy : Nat → ClassId) (D : va_G) (tU : Nat) (g : jS) (U : State) : Prop := jPre b cy D tU (gN g) (gK g) (gl g) (gr g) (gi g) (gj g) U ∧ jG (gN g) (gK g) (gr g)
def jDA (b : Nat) (cy : Nat → ClassId) (D : va_G) (g : jS) (s : State) (H : Heap) (locs : List Loc) : Prop := jDy b cy D (gN g) (gK g) (gl g) (gr g) (gi g) (gj g) s H locs ∧ jG (gN g) (gK g) (gr g)
def jEx (g g' : jS) : Prop := ∀ k, k < gN g → k < gN g' ∧ gK g' k = gK g k
theorem jEx.rf {g : jS} : jEx g g := fun _ h => ⟨h, rfl⟩
theorem jEx.tr {g g1 g2 : jS} (h1 : jEx g g1) (h2 : jEx g1 g2) : jEx g g2 := fun k h => ⟨(h2 k (h1 k h).1).1, ((h2 k (h1 k h).1).2).trans (h1 k h).2⟩
theorem jEx.at {g g1 : jS} {k c : Nat} (h : jEx g g1) (hk : k < gN g ∧ gK g k = c) : k < gN g1 ∧ gK g1 k = c := ⟨(h k hk.1).1, (h k hk.1).2.trans hk.2⟩
theorem jEx_new {kd ln : Nat} {g : jS} : jEx g (gnew kd ln g) := fun k h => ⟨Nat.lt_succ_of_lt h, va_up_ne _ _ (Nat.ne_of_lt h)⟩
theorem jEx_pr {g : jS} {k f q : Nat} : jEx g (gpr g k f q) := fun _ h => ⟨h, rfl⟩
theorem jEx_si {g : jS} {i : jI} {j : jL} : jEx g (gsi g i j) := fun _ h => ⟨h, rfl⟩
theorem gnew_at {kd ln : Nat} {g : jS} : gN g < gN (gnew kd ln g) ∧ gK (gnew kd ln g) (gN g) = kd := ⟨Nat.lt_succ_self _, va_up_self _ _ _⟩
theorem jG_new {n kd : Nat} {K : Nat → Nat} {r : jR} (h : jG n K r) : jG (n + 1) (va_up K n kd) (va_up r n (fun _ => none)) := by
  intro k f q hk hr
  by_cases hkn : k = n
  · subst hkn
    rw [va_up_self] at hr
    cases hr
  · rw [va_up_ne _ _ hkn] at hr
    have h1 := h k f q (by omega) hr
    rw [va_up_ne _ _ hkn, va_up_ne _ _ (Nat.ne_of_lt h1.1)]
    exact ⟨by omega, h1.2⟩
theorem jG_put {n k f q c : Nat} {K : Nat → Nat} {r : jR} (h : jG n K r) (hK : K k = c) (hq : q < n ∧ K q = jrt c f) : jG n K (jur r k f (some q)) := by
  intro a g v ha hr
  by_cases hak : a = k
  · subst hak
    rw [jur_eq] at hr
    by_cases hg : g = f
    · subst hg
      rw [va_up_self] at hr
      cases hr
      rw [hK]
      exact hq
    · rw [va_up_ne _ _ hg] at hr
      exact h a g v ha hr
  · rw [jur_ne hak] at hr
    exact h a g v ha hr
theorem jC_new_ne {cy : Nat → ClassId} {b n q kd ln : Nat} {K len : Nat → Nat} {r : jR} {i : jI} {j : jL} (h : q ≠ n) : jC cy b (va_up K n kd) (va_up len n ln) (va_up r n (fun _ => none)) (va_up i n (fun _ => 0)) (va_up j n (fun _ => 0)) q = jC cy b K len r i j q := by
  have e2 : jFv b (va_up r n (fun _ => none)) (va_up i n (fun _ => 0)) (va_up j n (fun _ => 0)) q = jFv b r i j q := by funext g t; simp only [jFv, va_up_ne _ _ h]
  simp only [jC, va_up_ne _ _ h, e2]
theorem jW_push {cy : Nat → ClassId} {b n : Nat} {K len K1 len1 : Nat → Nat} {r r1 : jR} {i i1 : jI} {j j1 : jL} {D : va_G} {H H1 : Heap} (hP : va_P D vwCl (jW cy b n K len r i j) H) (ho : ∀ q, q < H.size → H1[q]? = H[q]?) (hn : va_at D vwCl (b + n, jC cy b K1 len1 r1 i1 j1 n) H1) (hk : ∀ q, q < n → jC cy b K1 len1 r1 i1 j1 q = jC cy b K len r i j q) : va_P D vwCl (jW cy b (n + 1) K1 len1 r1 i1 j1) H1 := by
  intro k q hq
  obtain ⟨hlt, rfl⟩ := jW_got hq
  by_cases hkn : k = n
  · subst hkn
    exact hn
  · have hl : k < n := by omega
    have h0 := hP k _ (jW_get hl)
    rw [hk k hl]
    exact h0.kept (ho _ h0.lt)
section JA0
variable {p : Program} {l : Launch} {e : Env} {R : Room} {s : State} {m : MethodId} {args : Array Value} {below : List Frame} {meth : Method} {c : Code} {H : Heap} {locs : List Loc} {cells slots : Nat} {Q : State → Prop}
variable {cc : ByteArray} {pc : Nat} {ls : Array Slot} {rest : List Value} {D : va_G} {b tU : Nat} {cy : Nat → ClassId} {g : jS} {Ts : List Cond} {own C : String} {T : u_T} {N ci index k f : Nat}
theorem jnewA (hx : p.tables.exec = Jvm.exec) (hb : c.code = cc) (hts : ∀ w ∈ Ts, w.before args s = true) (hown : s.vm.findClass own = some m.cls) (hst : jSt b cy D tU s s.heap) (w : jDA b cy D g s H locs) (hin : ∀ w ∈ u_ws C T N, w ∈ Ts) (hc : vwCl[ci]? = some (C, T, N)) (ty : Nat → FieldType) (hty : ∀ k, k < N → parseFieldDescriptor (T k).2.2.1 = some (ty k)) (hcl : (Cond.classLink own index C).before args s = true) (hinst : (Cond.instantiable C N).before args s = true) (hini : (Cond.initialized C).before args s = true) (hci : ci < 12) (hfs : ∀ q, q < N → defaultValue (ty q) = vp_V (jfs (fun _ t => match t with | 0 => .int 0 | 1 => .long 0 | _ => .null) 0 (jT ci)) q) (hcells : cells + 1 ≤ R.cells) (hslots : slots + N ≤ R.slots) (hdg : decode cc pc = .ok (.new index, 3))
    (kk : ∀ (g1 : jS) (H1 : Heap), g1 = gnew ci 0 g → jDA b cy D g1 s H1 locs → W p l e R s m args below meth c H1 locs (cells + 1) (slots + N) Q (F0 m (pc + 3) ls (.ref (b + gN g) :: rest))) : W p l e R s m args below meth c H locs cells slots Q (F0 m pc ls rest) := by
  obtain ⟨⟨hsz, hP, hS⟩, hG⟩ := w
  have hKn := hst.1.1 ci _ hc
  have hsz' : H.size = b + gN g := hsz
  refine W.newcK hx hb hown hcl hinst hini rfl hdg hcells hslots hKn.2.1 hsz' fun H1 kC hkC e1 z1 o1 => ?_
  refine kk _ H1 rfl ⟨⟨z1.trans (Nat.add_assoc b _ 1), jW_push hP (fun q hq => o1 q (by omega)) ?_ (fun q hq => jC_new_ne (Nat.ne_of_lt hq)), ⟨by have := hS.1; omega, fun x h1 h2 => (o1 x (by have := hS.1; omega)).trans (hS.2.1 x h1 h2), hS.2.2⟩⟩, jG_new hG⟩
  have e2 : jC cy b (gK (gnew ci 0 g)) (gl (gnew ci 0 g)) (gr (gnew ci 0 g)) (gi (gnew ci 0 g)) (gj (gnew ci 0 g)) (gN g) = .inr (ci, jfs (fun _ t => match t with | 0 => .int 0 | 1 => .long 0 | _ => .null) 0 (jT ci)) := by
    have hKe : gK (gnew ci 0 g) (gN g) = ci := va_up_self _ _ _
    rw [jC_obj hKe hci]
    congr 2
    congr 1
    funext f t
    have hie : gi (gnew ci 0 g) (gN g) = fun _ => 0 := va_up_self _ _ _
    have hje : gj (gnew ci 0 g) (gN g) = fun _ => 0 := va_up_self _ _ _
    have hre : gr (gnew ci 0 g) (gN g) = fun _ => none := va_up_self _ _ _
    simp only [jFv, hie, hje, hre]
    match t with
    | 0 => rfl
    | 1 => rfl
    | t + 2 => rfl
  show va_at D vwCl (b + gN g, jC cy b (gK (gnew ci 0 g)) (gl (gnew ci 0 g)) (gr (gnew ci 0 g)) (gi (gnew ci 0 g)) (gj (gnew ci 0 g)) (gN g)) H1
  rw [e2]
  exact ⟨_, hc, (u_born ty hts hin hKn hkC e1 hty).to hfs⟩
theorem jnaA {atype : ArrayType} {ty : FieldType} {kd : Nat} (hx : p.tables.exec = Jvm.exec) (hb : c.code = cc) (hst : jSt b cy D tU s s.heap) (w : jDA b cy D g s H locs) (harr : (Cond.arrayClass (newarray.typeOf atype)).before args s = true) (hty : newarray.typeOf atype = ty) {q : Int32} {N : Nat} (hkd : (kd = 12 ∧ ty = .byte) ∨ (kd = 13 ∧ ty = .int) ∨ (kd = 14 ∧ ty = .long) ∨ (kd = 15 ∧ ty = .boolean)) (hn : ¬ q < 0) (hN : q.toNatClampNeg = N) (hbytes : N * componentBytes ty ≤ 536870912) (hcells : cells + 1 ≤ R.cells) (hslots : slots + N ≤ R.slots) (hdg : decode cc pc = .ok (.newarray atype, 2))
    (kk : ∀ (g1 : jS) (H1 : Heap), g1 = gnew kd N g → jDA b cy D g1 s H1 locs → W p l e R s m args below meth c H1 locs (cells + 1) (slots + N) Q (F0 m (pc + 2) ls (.ref (b + gN g) :: rest))) : W p l e R s m args below meth c H locs cells slots Q (F0 m pc ls (.int q :: rest)) := by
  obtain ⟨⟨hsz, hP, hS⟩, hG⟩ := w
  subst hty
  refine va_newaK hx hb harr rfl hdg rfl hn hN hbytes hcells hslots hsz fun H1 cA e1 z1 o1 hAr hNm => ?_
  refine kk _ H1 rfl ⟨⟨z1.trans (Nat.add_assoc b _ 1), jW_push hP (fun q hq => o1 q (by omega)) ?_ (fun q hq => jC_new_ne (Nat.ne_of_lt hq)), ⟨by have := hS.1; omega, fun x h1 h2 => (o1 x (by have := hS.1; omega)).trans (hS.2.1 x h1 h2), hS.2.2⟩⟩, jG_new hG⟩
  show va_at D vwCl (b + gN g, jC cy b (gK (gnew kd N g)) (gl (gnew kd N g)) (gr (gnew kd N g)) (gi (gnew kd N g)) (gj (gnew kd N g)) (gN g)) H1
  have hKe : gK (gnew kd N g) (gN g) = kd := va_up_self _ _ _
  have hle : gl (gnew kd N g) (gN g) = N := va_up_self _ _ _
  have hie : gi (gnew kd N g) (gN g) = fun _ => 0 := va_up_self _ _ _
  have hje : gj (gnew kd N g) (gN g) = fun _ => 0 := va_up_self _ _ _
  rcases hkd with ⟨rfl, ht⟩ | ⟨rfl, ht⟩ | ⟨rfl, ht⟩ | ⟨rfl, ht⟩
  · have hcA : cA = cy 12 := by
      have h1 := (hst.1.2 0 _ rfl).2
      rw [ht] at hNm
      exact Option.some.inj (hNm.symm.trans h1)
    rw [jC_arr hKe (by decide), hle, hie, ← hcA]
    rw [ht] at e1
    exact e1
  · have hcA : cA = cy 13 := by
      have h1 := (hst.1.2 1 _ rfl).2
      rw [ht] at hNm
      exact Option.some.inj (hNm.symm.trans h1)
    rw [jC_arr hKe (by decide), hle, hie, ← hcA]
    rw [ht] at e1
    exact e1
  · have hcA : cA = cy 14 := by
      have h1 := (hst.1.2 2 _ rfl).2
      rw [ht] at hNm
      exact Option.some.inj (hNm.symm.trans h1)
    rw [jC_arrJ hKe, hle, hje, ← hcA]
    rw [ht] at e1
    exact e1
  · have hcA : cA = cy 15 := by
      have h1 := (hst.1.2 3 _ rfl).2
      rw [ht] at hNm
      exact Option.some.inj (hNm.symm.trans h1)
    rw [jC_arr hKe (by decide), hle, hie, ← hcA]
    rw [ht] at e1
    exact e1
theorem jnqA (hx : p.tables.exec = Jvm.exec) (hb : c.code = cc) (hown : s.vm.findClass own = some m.cls) (hst : jSt b cy D tU s s.heap) (w : jDA b cy D g s H locs) (hcl : (Cond.classLink own index "FootByGate$Walker").before args s = true) {q : Int32} {N : Nat} (hn : ¬ q < 0) (hN : q.toNatClampNeg = N) (hbytes : N * 4 ≤ 536870912) (hcells : cells + 1 ≤ R.cells) (hslots : slots + N ≤ R.slots) (hdg : decode cc pc = .ok (.anewarray index, 3))
    (kk : ∀ (g1 : jS) (H1 : Heap), g1 = gnew 16 N g → jDA b cy D g1 s H1 locs → W p l e R s m args below meth c H1 locs (cells + 1) (slots + N) Q (F0 m (pc + 3) ls (.ref (b + gN g) :: rest))) : W p l e R s m args below meth c H locs cells slots Q (F0 m pc ls (.int q :: rest)) := by
  obtain ⟨⟨hsz, hP, hS⟩, hG⟩ := w
  subst hN
  refine W.anew hx hb hown hcl (va_AO.use hst.2.2.2.1) rfl hdg rfl hn hbytes hcells hslots fun cA kA comp f1 f2 f3 f4 => ?_
  rw [hsz]
  generalize hH1 : H.push ({ cls := cA, slots := Array.replicate q.toNatClampNeg .null, vm := .none } : Cell) = H1
  have z1 : H1.size = H.size + 1 := by rw [← hH1, Array.size_push]
  have e1 : H1[H.size]? = some (arrV cA q.toNatClampNeg (fun _ => .null)) := by rw [← hH1, Array.getElem?_push_size, ← arrV_new]
  have o1 : ∀ q : Nat, q < H.size → H1[q]? = H[q]? := fun q hq => by rw [← hH1, Array.getElem?_push, if_neg (Nat.ne_of_lt hq)]
  have hcA : cA = cy 16 := by
    obtain ⟨_, _, _, _, _, h1⟩ := (hst.1.2 4 _ rfl).2
    exact Option.some.inj (f1.symm.trans h1)
  refine kk _ H1 rfl ⟨⟨z1.trans (by rw [hsz]; exact Nat.add_assoc b _ 1), jW_push hP o1 ?_ (fun q hq => jC_new_ne (Nat.ne_of_lt hq)), ⟨by have := hS.1; omega, fun x h1 h2 => (o1 x (by have := hS.1; omega)).trans (hS.2.1 x h1 h2), hS.2.2⟩⟩, jG_new hG⟩
  show va_at D vwCl (b + gN g, jC cy b (gK (gnew 16 q.toNatClampNeg g)) (gl (gnew 16 q.toNatClampNeg g)) (gr (gnew 16 q.toNatClampNeg g)) (gi (gnew 16 q.toNatClampNeg g)) (gj (gnew 16 q.toNatClampNeg g)) (gN g)) H1
  have hKe : gK (gnew 16 q.toNatClampNeg g) (gN g) = 16 := va_up_self _ _ _
  have hle : gl (gnew 16 q.toNatClampNeg g) (gN g) = q.toNatClampNeg := va_up_self _ _ _
  have hre : gr (gnew 16 q.toNatClampNeg g) (gN g) = fun _ => none := va_up_self _ _ _
  rw [jC_arrR hKe, hle, hre, ← hcA]
  rw [hsz] at e1
  exact e1
theorem jprA {v ct : Nat} {fin : Bool} (hx : p.tables.exec = Jvm.exec) (hb : c.code = cc) (hts : ∀ w ∈ Ts, w.before args s = true) (hown : s.vm.findClass own = some m.cls) (hst : jSt b cy D tU s s.heap) (w : jDA b cy D g s H locs) (hk : k < gN g ∧ gK g k = ci) (hv : v < gN g ∧ gK g v = ct) (hct : jrt ci f = ct) (hin : ∀ w ∈ u_ws C T N, w ∈ Ts) (hc : vwCl[ci]? = some (C, T, N)) (hl : (Cond.fieldLink own index (T f).1 (T f).2.1 (T f).2.2.1).before args s = true) (hf : f < N ∧ ci < 12 ∧ (jT ci)[f]? = some 2) (ty0 : Nat → FieldType) (hty : ∀ k, k < N → parseFieldDescriptor (T k).2.2.1 = some (ty0 k)) (hnm : ∀ a, a < N → ∀ b, b < N → a ≠ b → (T a).2.1 ≠ (T b).2.1) (hfin : (T f).2.2.2 = fin) (hi2 : fin = true → meth.name = "<init>" ∧ (T f).1 = own) (hn : ∀ z : Nat, narrow (ty0 f) (.ref z) = .ref z ∧ fits (ty0 f) (.ref z) = true) (hdg : decode cc pc = .ok (.putfield index, 3))
    (kk : ∀ (g1 : jS) (H : Heap) (locs : List Loc), g1 = gpr g k f v → jDA b cy D g1 s H locs → W p l e R s m args below meth c H locs cells slots Q (F0 m (pc + 3) ls rest)) : W p l e R s m args below meth c H locs cells slots Q (F0 m pc ls (.ref (b + v) :: .ref (b + k) :: rest)) := by
  obtain ⟨⟨hsz, hP, hS⟩, hG⟩ := w
  have he := (jW_get (cy := cy) (b := b) (K := gK g) (len := gl g) (r := gr g) (i := gi g) (j := gj g) hk.1).trans (congrArg (fun z => some (b + k, z)) (jC_obj hk.2 hf.2.1))
  have fin2 : ∀ (H1 : Heap) (locs1 : List Loc), H1.size = H.size → va_P D vwCl ((jW cy b (gN g) (gK g) (gl g) (gr g) (gi g) (gj g)).set k (b + k, .inr (ci, (jfs (jFv b (gr g) (gi g) (gj g) k) 0 (jT ci)).set f (.ref (b + v))))) H1 → va_S (jA b) s.heap H1 locs1 → W p l e R s m args below meth c H1 locs1 cells slots Q (F0 m (pc + 3) ls rest) := by
    intro H1 locs1 hz hP1 hS1
    have e1 := jC_jur (cy := cy) (b := b) (K := gK g) (len := gl g) (r := gr g) (i := gi g) (j := gj g) (o := some v) hk.2 hf.2.1 hf.2.2
    replace e1 : (.inr (ci, (jfs (jFv b (gr g) (gi g) (gj g) k) 0 (jT ci)).set f (.ref (b + v))) : va_E) = jC cy b (gK g) (gl g) (jur (gr g) k f (some v)) (gi g) (gj g) k := e1
    rw [jW_set hk.1 e1 (fun q _ hq => jC_jur_ne hq)] at hP1
    exact kk _ H1 locs1 rfl ⟨⟨hz.trans hsz, hP1, hS1⟩, jG_put hG hk.2 (by rw [hct]; exact hv)⟩
  cases fin with
  | false => exact jput0 (D := D) (ci := ci) (v := .ref (b + v)) (C := C) (T := T) (N := N) (ty := ty0 f) hx hb hts hin ty0 hty hnm hown hst.1 hP jW_D hS k he hc f hf.1 hl (fun _ h => h) hfin (hty f hf.1) (hn _).1 (hn _).2 (by rw [jfs_len]; exact (List.getElem?_eq_some_iff.mp hf.2.2).1) hdg fin2
  | true => exact jputF0 (D := D) (ci := ci) (v := .ref (b + v)) (C := C) (T := T) (N := N) (ty := ty0 f) hx hb hts hin ty0 hty hnm hown hst.1 hP jW_D hS k he hc f hf.1 hl (fun _ h => h) hfin (hi2 rfl).1 (hi2 rfl).2 (hty f hf.1) (hn _).1 (hn _).2 (by rw [jfs_len]; exact (List.getElem?_eq_some_iff.mp hf.2.2).1) hdg fin2
end JA0
section JA1
variable {p : Program} {l : Launch} {e : Env} {R : Room} {s : State} {m : MethodId} {args : Array Value} {below : List Frame} {meth : Method} {c : Code} {H : Heap} {locs : List Loc} {cells slots : Nat} {Q : State → Prop}
variable {cc bytes : ByteArray} {pc nL maxL na mc ms : Nat} {ls : Array Slot} {rest st0 As : List Value} {D : va_G} {b tU : Nat} {cy : Nat → ClassId} {g g0 : jS} {Ts ws : List Cond} {own C : String} {T : u_T} {N ci index k f : Nat} {y : MethodName} {ret : Option FieldType} {rm : Room}
/-- a walker comes into the row of walkers -/
theorem jaaA {v : Nat} (hx : p.tables.exec = Jvm.exec) (hb : c.code = cc) (hst : jSt b cy D tU s s.heap) (w : jDA b cy D g s H locs) (hk : k < gN g ∧ gK g k = 16) (hv : v < gN g ∧ gK g v = 8) {q : Int32} (hin : vp_in q (gl g k)) (hdg : decode cc pc = .ok (.aastore, 1))
    (kk : ∀ (g1 : jS) (H : Heap) (locs : List Loc), g1 = gpr g k q.toNatClampNeg v → jDA b cy D g1 s H locs → W p l e R s m args below meth c H locs cells slots Q (F0 m (pc + 1) ls rest)) : W p l e R s m args below meth c H locs cells slots Q (F0 m pc ls (.ref (b + v) :: .int q :: .ref (b + k) :: rest)) := by
  obtain ⟨⟨hsz, hP, hS⟩, hG⟩ := w
  have ha := (jW_get (cy := cy) (b := b) (K := gK g) (len := gl g) (r := gr g) (i := gi g) (j := gj g) hk.1).trans (congrArg (fun z => some (b + k, z)) (jC_arrR hk.2))
  have hvv := (jW_get (cy := cy) (b := b) (K := gK g) (len := gl g) (r := gr g) (i := gi g) (j := gj g) hv.1).trans (congrArg (fun z => some (b + v, z)) (jC_obj hv.2 (by decide)))
  have hlt : q.toNatClampNeg < gl g k := Nat.not_le.mp fun z => hin (Or.inr z)
  have h0 : ¬ q < 0 := fun z => hin (Or.inl z)
  have hc : vwCl[8]? = some (RX9, TX9, 3) := rfl
  obtain ⟨r', hr', cellV, g1, g2, g3, -⟩ := hP v _ hvv
  have hcls := (hst.1.1 8 _ hc).2
  obtain ⟨kA, comp, k1, k2, k3, -⟩ := (hst.1.2 4 _ rfl).2
  have hcomp : comp = D.1 8 := Option.some.inj (k3.symm.trans hcls.1)
  subst hcomp
  obtain ⟨kC, hkC, -⟩ := hcls.2
  refine W.aast hx hb (hP k _ ha) (fun q h => by cases h) (fun h => by cases h) k1 k2 rfl hkC ⟨h0, by show _ < (arrV _ _ _).slots.size; rw [arrV_size]; exact hlt⟩ g1 (fun q h => by rw [g3] at h; cases h) (by rw [g2]; exact hkC) (by rw [g2]; exact va_assign hcls) rfl rfl hdg fun H1 e z oq => ?_
  have hP1 : va_P D vwCl ((jW cy b (gN g) (gK g) (gl g) (gr g) (gi g) (gj g)).set k (b + k, .inl (cy 16, gl g k, .inr (.inr (.inr (.inr (va_up (fun t => (gr g k t).map (fun q => b + q)) q.toNatClampNeg (some (b + v))))))))) H1 := by
    refine hP.set jW_D ha ?_ oq
    show H1[b + k]? = some (vp_cell _ _)
    rw [e]
    rw [vp_cell_q, vp_cell_q, arrV_store]
    congr 2
    funext z
    by_cases hq : z = q.toNatClampNeg
    · subst hq
      simp [updV, va_up, va_rf]
    · simp [updV, va_up, hq]
  rw [jW_set (K' := gK g) (len' := gl g) (r' := jur (gr g) k q.toNatClampNeg (some v)) (i' := gi g) (j' := gj g) hk.1 ?_ (fun q _ hq => jC_jur_ne hq)] at hP1
  · exact kk _ H1 _ rfl ⟨⟨z.trans hsz, hP1, hS.put z oq (Nat.le_add_right b k)⟩, jG_put hG hk.2 hv⟩
  · rw [jC_arrR hk.2, jur_eq]
    congr 7
    funext z
    by_cases hq : z = q.toNatClampNeg
    · subst hq
      simp [va_up]
    · simp [va_up, hq]
theorem jBlindA (av : List Value) : FrameBlind (va_Pc av (jPA b cy D tU g)) := by
  intro a U g mk q
  obtain ⟨q0, q1, q2⟩ := q
  exact ⟨q0, ⟨q1.1, q1.2.1, q1.2.2.calling⟩, q2⟩
def jQAv (b : Nat) (cy : Nat → ClassId) (D : va_G) (tU : Nat) (g0 : jS) (Qj : jS → Prop) : Array Value → State → Outcome → State → Prop := va_Qv (fun (u : jS) => Qj u ∧ jEx g0 u) (fun u => jPA b cy D tU u) (jA b)
def jQAi (b : Nat) (cy : Nat → ClassId) (D : va_G) (tU : Nat) (g0 : jS) (Qj : Int32 → jS → Prop) : Array Value → State → Outcome → State → Prop := va_Qi (fun q (u : jS) => Qj q u ∧ jEx g0 u) (fun u => jPA b cy D tU u) (jA b)
def jCA (p : Program) (s : State) (m : MethodId) (args : Array Value) (c : Code) (cc : ByteArray) (nL : Nat) (Ts : List Cond) (own : String) (b : Nat) (cy : Nat → ClassId) (D : va_G) (tU : Nat) : Prop := p.tables.exec = Jvm.exec ∧ c.code = cc ∧ c.maxLocals = nL ∧ s.vm.findClass own = some m.cls ∧ (∀ w ∈ Ts, w.before args s = true) ∧ jSt b cy D tU s s.heap
theorem jretA_v {Qj : jS → Prop} (hx : p.tables.exec = Jvm.exec) (hb : c.code = cc) (hr : meth.sig.returnType = none) (hlk : meth.locks = false) (hst : jSt b cy D tU s s.heap) (w : jDA b cy D g s H locs) (hE : jEx g0 g) (h : Qj g) (hdg : decode cc pc = .ok (.return_, 1)) : W p l e R s m args below meth c H locs cells slots (MQ below (jQAv b cy D tU g0 Qj) args s cells slots (jA b)) (F0 m pc ls []) :=
  W.vret hx hb hr (fun t ht hW => ⟨⟨g, rfl, ⟨h, hE⟩, jPre.of hst w.1 ht hW, w.2⟩, w.1.2.2.F ht⟩) w.1.2.2.2.2 hdg hlk
theorem jretA_i {Qj : Int32 → jS → Prop} {v : Int32} (hx : p.tables.exec = Jvm.exec) (hb : c.code = cc) (hr : meth.sig.returnType = some .int) (hlk : meth.locks = false) (hst : jSt b cy D tU s s.heap) (w : jDA b cy D g s H locs) (hE : jEx g0 g) (h : Qj v g) (hdg : decode cc pc = .ok (.ireturn, 1)) : W p l e R s m args below meth c H locs cells slots (MQ below (jQAi b cy D tU g0 Qj) args s cells slots (jA b)) (F0 m pc ls [.int v]) :=
  W.iret (v := v) hx hb hr (fun t ht hW => ⟨⟨v, g, rfl, ⟨h, hE⟩, jPre.of hst w.1 ht hW, w.2⟩, w.1.2.2.F ht⟩) w.1.2.2.2.2 hdg hlk
/-- a constructor is called -/
theorem jcIA {Qj : jS → Prop} (C0 : jCA p s m args c cc nL Ts own b cy D tU) (w : jDA b cy D g s H locs) (hM : Met l y ws rm (va_Pc (.ref (b + k) :: As) (jPA b cy D tU g)) (jQAv b cy D tU g Qj) mc ms (jA b)) (cw : CallB R s args own index y bytes maxL none ws rm mc ms na ∧ y.name = "<init>" ∧ (Cond.instanceMethod y).before args s = true) (hn : As.length = na) (hsz : ls.size = nL) (hstk : st0 = As.reverse ++ .ref (b + k) :: rest) (hroom : (rest.map fun v => v.category).sum ≤ 8) (hdg : decode cc pc = .ok (.invokespecial index, 3))
    (kk : ∀ (g1 : jS) (H1 : Heap) (locs1 : List Loc), Qj g1 → jEx g g1 → jDA b cy D g1 s H1 locs1 → W p l e R s m args below meth c H1 locs1 (cells + mc) (slots + ms) Q (F0 m (pc + 3) ls rest)) (hf : cells + mc ≤ R.cells ∧ slots + ms ≤ R.slots) : W p l e R s m args below meth c H locs cells slots Q (F0 m pc ls st0) := by
  subst hstk
  obtain ⟨hx, hb, hml, hown, hts, hst⟩ := C0
  refine va_callv (va_runI (As := As) (rest := rest) ⟨hx, hb, hml, hown, hts⟩ hM cw ⟨jBlindA _, fun U hU hW => ⟨rfl, jPre.of hst w.1 hU hW, w.2⟩⟩ rfl hn hsz rfl (lv_room hroom) hdg hf) w.1.2.2 (fun _ _ h => h) (fun _ h => h) (fun u t H1 locs1 ht hvm hp hB hz hk hS => kk u H1 locs1 hp.1 hp.2 ?_)
  exact ⟨⟨by rw [← ht]; exact hB.1.1, by rw [← ht]; exact hB.1.2.1, hS⟩, hB.2⟩
theorem jcNA {Qj : jS → Prop} {host : String} (C0 : jCA p s m args c cc nL Ts own b cy D tU) (w : jDA b cy D g s H locs) (hM : Met l y ws rm (va_Pc (.ref (b + k) :: As) (jPA b cy D tU g)) (jQAv b cy D tU g Qj) mc ms (jA b)) (cw : va_CN R s args own index y host bytes maxL none ws rm mc ms na ∧ y.name = "<init>" ∧ (Cond.instanceMethod y).before args s = true) (hn : As.length = na) (hsz : ls.size = nL) (hstk : st0 = As.reverse ++ .ref (b + k) :: rest) (hroom : (rest.map fun v => v.category).sum ≤ 8) (hdg : decode cc pc = .ok (.invokespecial index, 3))
    (kk : ∀ (g1 : jS) (H1 : Heap) (locs1 : List Loc), Qj g1 → jEx g g1 → jDA b cy D g1 s H1 locs1 → W p l e R s m args below meth c H1 locs1 (cells + mc) (slots + ms) Q (F0 m (pc + 3) ls rest)) (hf : cells + mc ≤ R.cells ∧ slots + ms ≤ R.slots) : W p l e R s m args below meth c H locs cells slots Q (F0 m pc ls st0) := by
  subst hstk
  obtain ⟨hx, hb, hml, hown, hts, hst⟩ := C0
  refine va_callv (va_runIN (As := As) (rest := rest) ⟨hx, hb, hml, hown, hts⟩ hM cw ⟨jBlindA _, fun U hU hW => ⟨rfl, jPre.of hst w.1 hU hW, w.2⟩⟩ rfl hn hsz rfl (lv_room hroom) hdg hf) w.1.2.2 (fun _ _ h => h) (fun _ h => h) (fun u t H1 locs1 ht hvm hp hB hz hk hS => kk u H1 locs1 hp.1 hp.2 ?_)
  exact ⟨⟨by rw [← ht]; exact hB.1.1, by rw [← ht]; exact hB.1.2.1, hS⟩, hB.2⟩
theorem jcSA_i {Qj : Int32 → jI → jL → Prop} (C0 : jCA p s m args c cc nL Ts own b cy D tU) (w : jDA b cy D g s H locs) (hM : Met l y ws rm (va_Pc As (jPre b cy D tU (gN g) (gK g) (gl g) (gr g) (gi g) (gj g))) (jQi b cy D tU (gN g) (gK g) (gl g) (gr g) Qj) 0 0 (jA b)) (cw : CallB R s args own index y bytes maxL ret ws rm 0 0 na ∧ (Cond.static y).before args s = true) (hn : As.length = na) (hsz : ls.size = nL) (hstk : st0 = As.reverse ++ rest) (hroom : (rest.map fun v => v.category).sum ≤ 8) (hdg : decode cc pc = .ok (.invokestatic index, 3))
    (kk : ∀ (q : Int32) (i1 : jI) (j1 : jL) (H1 : Heap) (locs1 : List Loc), Qj q i1 j1 → jDA b cy D (gsi g i1 j1) s H1 locs1 → W p l e R s m args below meth c H1 locs1 cells slots Q (F0 m (pc + 3) ls (.int q :: rest))) (hf : cells ≤ R.cells ∧ slots ≤ R.slots) : W p l e R s m args below meth c H locs cells slots Q (F0 m pc ls st0) :=
  jcS_i ⟨C0.1, C0.2.1, C0.2.2.1, C0.2.2.2.1, C0.2.2.2.2.1, C0.2.2.2.2.2, w.2⟩ w.1 hM cw hn hsz hstk hroom hdg (fun q i1 j1 H1 locs1 h w1 => kk q i1 j1 H1 locs1 h ⟨w1, w.2⟩) hf
theorem jcVA_i {Qj : Int32 → jI → jL → Prop} (C0 : jCA p s m args c cc nL Ts own b cy D tU) (w : jDA b cy D g s H locs) (hM : Met l y ws rm (va_Pc (.ref (b + k) :: As) (jPre b cy D tU (gN g) (gK g) (gl g) (gr g) (gi g) (gj g))) (jQi b cy D tU (gN g) (gK g) (gl g) (gr g) Qj) 0 0 (jA b)) (cw : CallW R s args own C index y bytes maxL ret ws rm 0 0 na) (hk : k < gN g ∧ gK g k = ci) (hc : vwCl[ci]? = some (C, T, N)) (hci : ci < 12) (hn : As.length = na) (hsz : ls.size = nL) (hstk : st0 = As.reverse ++ .ref (b + k) :: rest) (hroom : (rest.map fun v => v.category).sum ≤ 8) (hdg : decode cc pc = .ok (.invokevirtual index, 3))
    (kk : ∀ (q : Int32) (i1 : jI) (j1 : jL) (H1 : Heap) (locs1 : List Loc), Qj q i1 j1 → jDA b cy D (gsi g i1 j1) s H1 locs1 → W p l e R s m args below meth c H1 locs1 cells slots Q (F0 m (pc + 3) ls (.int q :: rest))) (hf : cells ≤ R.cells ∧ slots ≤ R.slots) : W p l e R s m args below meth c H locs cells slots Q (F0 m pc ls st0) :=
  jcV_i ⟨C0.1, C0.2.1, C0.2.2.1, C0.2.2.2.1, C0.2.2.2.2.1, C0.2.2.2.2.2, w.2⟩ w.1 hM cw hk hc hci hn hsz hstk hroom hdg (fun q i1 j1 H1 locs1 h w1 => kk q i1 j1 H1 locs1 h ⟨w1, w.2⟩) hf
theorem jcSA_v {Qj : jI → jL → Prop} (C0 : jCA p s m args c cc nL Ts own b cy D tU) (w : jDA b cy D g s H locs) (hM : Met l y ws rm (va_Pc As (jPre b cy D tU (gN g) (gK g) (gl g) (gr g) (gi g) (gj g))) (jQv b cy D tU (gN g) (gK g) (gl g) (gr g) Qj) 0 0 (jA b)) (cw : CallB R s args own index y bytes maxL ret ws rm 0 0 na ∧ (Cond.static y).before args s = true) (hn : As.length = na) (hsz : ls.size = nL) (hstk : st0 = As.reverse ++ rest) (hroom : (rest.map fun v => v.category).sum ≤ 8) (hdg : decode cc pc = .ok (.invokestatic index, 3))
    (kk : ∀ (i1 : jI) (j1 : jL) (H1 : Heap) (locs1 : List Loc), Qj i1 j1 → jDA b cy D (gsi g i1 j1) s H1 locs1 → W p l e R s m args below meth c H1 locs1 cells slots Q (F0 m (pc + 3) ls (rest))) (hf : cells ≤ R.cells ∧ slots ≤ R.slots) : W p l e R s m args below meth c H locs cells slots Q (F0 m pc ls st0) :=
  jcS_v ⟨C0.1, C0.2.1, C0.2.2.1, C0.2.2.2.1, C0.2.2.2.2.1, C0.2.2.2.2.2, w.2⟩ w.1 hM cw hn hsz hstk hroom hdg (fun i1 j1 H1 locs1 h w1 => kk i1 j1 H1 locs1 h ⟨w1, w.2⟩) hf
theorem jcVA_v {Qj : jI → jL → Prop} (C0 : jCA p s m args c cc nL Ts own b cy D tU) (w : jDA b cy D g s H locs) (hM : Met l y ws rm (va_Pc (.ref (b + k) :: As) (jPre b cy D tU (gN g) (gK g) (gl g) (gr g) (gi g) (gj g))) (jQv b cy D tU (gN g) (gK g) (gl g) (gr g) Qj) 0 0 (jA b)) (cw : CallW R s args own C index y bytes maxL ret ws rm 0 0 na) (hk : k < gN g ∧ gK g k = ci) (hc : vwCl[ci]? = some (C, T, N)) (hci : ci < 12) (hn : As.length = na) (hsz : ls.size = nL) (hstk : st0 = As.reverse ++ .ref (b + k) :: rest) (hroom : (rest.map fun v => v.category).sum ≤ 8) (hdg : decode cc pc = .ok (.invokevirtual index, 3))
    (kk : ∀ (i1 : jI) (j1 : jL) (H1 : Heap) (locs1 : List Loc), Qj i1 j1 → jDA b cy D (gsi g i1 j1) s H1 locs1 → W p l e R s m args below meth c H1 locs1 cells slots Q (F0 m (pc + 3) ls (rest))) (hf : cells ≤ R.cells ∧ slots ≤ R.slots) : W p l e R s m args below meth c H locs cells slots Q (F0 m pc ls st0) :=
  jcV_v ⟨C0.1, C0.2.1, C0.2.2.1, C0.2.2.2.1, C0.2.2.2.2.1, C0.2.2.2.2.2, w.2⟩ w.1 hM cw hk hc hci hn hsz hstk hroom hdg (fun i1 j1 H1 locs1 h w1 => kk i1 j1 H1 locs1 h ⟨w1, w.2⟩) hf
end JA1
