/-! the numbers of the cells: 0 the class, 37 the reference, 65 the arms; by program, from the constructors -/
def RR (k f : Nat) : Option Nat := match k with
  | 0 => match f with | 0 => some 1 | 1 => some 3 | 2 => some 9 | 4 => some 10 | 6 => some 11 | 9 => some 16 | 10 => some 19 | 11 => some 22 | 12 => some 27 | 13 => some 30 | _ => none
  | 1 => match f with | 0 => some 2 | _ => none
  | 3 => match f with | 3 => some 4 | 4 => some 5 | 5 => some 6 | 6 => some 7 | 7 => some 8 | _ => none
  | 9 => match f with | 0 => some 32 | 1 => some 33 | 2 => some 34 | 3 => some 35 | 4 => some 36 | _ => none
  | 11 => match f with | 2 => some 12 | 3 => some 13 | 5 => some 14 | 6 => some 15 | _ => none
  | 16 => match f with | 0 => some 17 | 1 => some 18 | _ => none
  | 19 => match f with | 0 => some 20 | 1 => some 21 | _ => none
  | 22 => match f with | 0 => some 23 | _ => none
  | 23 => match f with | 0 => some 24 | 1 => some 25 | 2 => some 26 | _ => none
  | 27 => match f with | 0 => some 28 | 1 => some 29 | _ => none
  | 30 => match f with | 0 => some 31 | _ => none
  | 37 => match f with | 1 => some 38 | 2 => some 39 | 3 => some 40 | 4 => some 41 | 9 => some 42 | 10 => some 43 | 11 => some 44 | 13 => some 45 | 16 => some 46 | 22 => some 47 | 23 => some 48 | 24 => some 49 | 25 => some 50 | 26 => some 51 | 27 => some 52 | 28 => some 53 | 31 => some 54 | 32 => some 55 | 33 => some 56 | 34 => some 57 | 35 => some 58 | 39 => some 59 | 40 => some 60 | 46 => some 61 | 47 => some 62 | 48 => some 63 | 49 => some 64 | _ => none
  | _ => none
def LL (k : Nat) : Nat := match k with
  | 2 => 50
  | 4 => 10
  | 5 => 10
  | 6 => 10
  | 7 => 10
  | 8 => 3
  | 9 => 5
  | 10 => 6
  | 12 => 5
  | 13 => 5
  | 14 => 6
  | 15 => 10
  | 17 => 10
  | 18 => 10
  | 20 => 10
  | 21 => 10
  | 24 => 896
  | 25 => 896
  | 26 => 896
  | 28 => 14
  | 29 => 10
  | 31 => 1024
  | 38 => 10
  | 39 => 10
  | 40 => 10
  | 41 => 10
  | 42 => 5
  | 43 => 5
  | 44 => 5
  | 45 => 6
  | 46 => 50
  | 47 => 10
  | 48 => 10
  | 49 => 10
  | 50 => 10
  | 51 => 378
  | 52 => 378
  | 53 => 378
  | 54 => 11
  | 55 => 11
  | 56 => 20412
  | 57 => 20412
  | 58 => 20412
  | 59 => 2646
  | 60 => 2646
  | 61 => 5
  | 62 => 5
  | 63 => 10
  | 64 => 6
  | _ => 0
def KK (k : Nat) : Nat := match k with
  | 0 => 10
  | 1 => 5
  | 2 => 13
  | 3 => 7
  | 4 => 13
  | 5 => 13
  | 6 => 13
  | 7 => 13
  | 8 => 13
  | 9 => 16
  | 10 => 13
  | 11 => 4
  | 12 => 13
  | 13 => 13
  | 14 => 13
  | 15 => 13
  | 16 => 2
  | 17 => 13
  | 18 => 13
  | 19 => 2
  | 20 => 13
  | 21 => 13
  | 22 => 9
  | 23 => 3
  | 24 => 13
  | 25 => 13
  | 26 => 13
  | 27 => 6
  | 28 => 14
  | 29 => 13
  | 30 => 1
  | 31 => 13
  | 32 => 8
  | 33 => 8
  | 34 => 8
  | 35 => 8
  | 36 => 8
  | 37 => 11
  | 38 => 13
  | 39 => 13
  | 40 => 13
  | 41 => 13
  | 42 => 13
  | 43 => 13
  | 44 => 13
  | 45 => 13
  | 46 => 12
  | 47 => 13
  | 48 => 13
  | 49 => 13
  | 50 => 13
  | 51 => 13
  | 52 => 13
  | 53 => 15
  | 54 => 13
  | 55 => 13
  | 56 => 13
  | 57 => 13
  | 58 => 15
  | 59 => 15
  | 60 => 13
  | 61 => 13
  | 62 => 13
  | 63 => 13
  | 64 => 13
  | _ => 0

def Gr (r : jR) (len : Nat → Nat) : Prop := (∀ k, k < 65 → ∀ f, f < 60 → ∀ c, RR k f = some c → r k f = some c) ∧ ∀ k, k < 65 → len k = LL k
theorem gz_new {kd ln : Nat} {g g1 : jS} (h : (∀ a f, gi g a f = 0) ∧ ∀ a f, gj g a f = 0) (e : g1 = gnew kd ln g) : (∀ a f, gi g1 a f = 0) ∧ ∀ a f, gj g1 a f = 0 := by
  subst e
  refine ⟨fun a f => ?_, fun a f => ?_⟩
  · show va_up (gi g) (gN g) (fun _ => 0) a f = 0
    by_cases ha : a = gN g
    · subst ha; rw [va_up_self]
    · rw [va_up_ne _ _ ha]; exact h.1 a f
  · show va_up (gj g) (gN g) (fun _ => 0) a f = 0
    by_cases ha : a = gN g
    · subst ha; rw [va_up_self]
    · rw [va_up_ne _ _ ha]; exact h.2 a f
theorem gz_pr {k q v : Nat} {g g1 : jS} (h : (∀ a f, gi g a f = 0) ∧ ∀ a f, gj g a f = 0) (e : g1 = gpr g k q v) : (∀ a f, gi g1 a f = 0) ∧ ∀ a f, gj g1 a f = 0 := by subst e; exact h
/-- the world behind the two constructors -/
def Gst : jS := (gpr (gnew 13 6 (gpr (gnew 13 10 (gpr (gnew 13 5 (gpr (gnew 13 5 (gpr (gnew 13 2646 (gpr (gnew 15 2646 (gpr (gnew 15 20412 (gpr (gnew 13 20412 (gpr (gnew 13 20412 (gpr (gnew 13 11 (gpr (gnew 13 11 (gpr (gnew 15 378 (gpr (gnew 13 378 (gpr (gnew 13 378 (gpr (gnew 13 10 (gpr (gnew 13 10 (gpr (gnew 13 10 (gpr (gnew 13 10 (gpr (gnew 12 50 (gpr (gnew 13 6 (gpr (gnew 13 5 (gpr (gnew 13 5 (gpr (gnew 13 5 (gpr (gnew 13 10 (gpr (gnew 13 10 (gpr (gnew 13 10 (gpr (gnew 13 10 (gnew 11 0 (gpr (gnew 8 0 (gpr (gnew 8 0 (gpr (gnew 8 0 (gpr (gnew 8 0 (gpr (gnew 8 0 (gpr (gpr (gnew 13 1024 (gnew 1 0 (gpr (gpr (gnew 13 10 (gpr (gnew 14 14 (gnew 6 0 (gpr (gpr (gpr (gnew 13 896 (gpr (gnew 13 896 (gpr (gnew 13 896 (gnew 3 0 (gnew 9 0 (gpr (gpr (gnew 13 10 (gpr (gnew 13 10 (gnew 2 0 (gpr (gpr (gnew 13 10 (gpr (gnew 13 10 (gnew 2 0 (gpr (gpr (gnew 13 10 (gpr (gnew 13 6 (gpr (gnew 13 5 (gpr (gnew 13 5 (gnew 4 0 (gpr (gnew 13 6 (gpr (gnew 16 5 (gpr (gpr (gnew 13 3 (gpr (gnew 13 10 (gpr (gnew 13 10 (gpr (gnew 13 10 (gpr (gnew 13 10 (gnew 7 0 (gpr (gpr (gnew 13 50 (gnew 5 0 (gnew 10 0 g00))) 1 0 2) 0 0 1))) 3 3 4)) 3 4 5)) 3 5 6)) 3 6 7)) 3 7 8) 0 1 3)) 0 2 9)) 0 4 10))) 11 2 12)) 11 3 13)) 11 5 14)) 11 6 15) 0 6 11))) 16 0 17)) 16 1 18) 0 9 16))) 19 0 20)) 19 1 21) 0 10 19)))) 23 0 24)) 23 1 25)) 23 2 26) 22 0 23) 0 11 22))) 27 0 28)) 27 1 29) 0 12 27))) 30 0 31) 0 13 30)) 9 0 32)) 9 1 33)) 9 2 34)) 9 3 35)) 9 4 36))) 37 1 38)) 37 2 39)) 37 3 40)) 37 4 41)) 37 9 42)) 37 10 43)) 37 11 44)) 37 13 45)) 37 16 46)) 37 22 47)) 37 23 48)) 37 24 49)) 37 25 50)) 37 26 51)) 37 27 52)) 37 28 53)) 37 31 54)) 37 32 55)) 37 33 56)) 37 34 57)) 37 35 58)) 37 39 59)) 37 40 60)) 37 46 61)) 37 47 62)) 37 48 63)) 37 49 64)
theorem Gst_n : gN Gst = 65 := by decide +kernel
theorem Gst_arms : gr Gst 0 14 = none := by decide +kernel
theorem Gst_K : ∀ k, k < 65 → gK Gst k = KK k := by decide +kernel
theorem Gst_r0 : ∀ k, k < 65 → ∀ f, f < 60 → (RR k f = none ∨ gr Gst k f = RR k f) := by decide +kernel
theorem Gst_len : ∀ k, k < 65 → gl Gst k = LL k := by decide +kernel
theorem Gst_ok : Gr (gr Gst) (gl Gst) := ⟨fun k hk f hf c hc => by
  rcases Gst_r0 k hk f hf with h | h
  · rw [h] at hc; cases hc
  · rw [h, hc], Gst_len⟩
set_option maxHeartbeats 8000000 in
set_option maxRecDepth 100000 in
theorem start_world {Inv : jS → Prop} (hI : ∀ g, g = Gst → ((∀ a f, gi g a f = 0) ∧ ∀ a f, gj g a f = 0) → Inv g) : LawStart Inv := by
  unfold LawStart
  obtain ⟨g1, eg⟩ : ∃ z, z = gnew 10 0 g00 := ⟨_, rfl⟩
  rw [← eg]
  have n_g1 : gN g1 = 1 := by rw [eg]; rfl
  have z_g1 : (∀ a f, gi g1 a f = 0) ∧ ∀ a f, gj g1 a f = 0 := by rw [eg]; exact gz_new (g := g00) ⟨fun _ _ => rfl, fun _ _ => rfl⟩ rfl
  rw [J_X11_init]
  intro h1 e1
  have n_h1 : gN h1 = 2 := by rw [e1]; show gN g1 + 1 = 2; rw [n_g1]
  have z_h1 := gz_new z_g1 e1
  try rw [n_g1]
  rw [J_X5_init]
  intro h2 e2
  have n_h2 : gN h2 = 3 := by rw [e2]; show gN h1 + 1 = 3; rw [n_h1]
  have z_h2 := gz_new z_h1 e2
  try rw [n_h1]
  intro h3 e3
  have n_h3 : gN h3 = 3 := by rw [e3]; exact n_h2
  have z_h3 := gz_pr z_h2 e3
  intro h4 e4
  have n_h4 : gN h4 = 3 := by rw [e4]; exact n_h3
  have z_h4 := gz_pr z_h3 e4
  intro h5 e5
  have n_h5 : gN h5 = 4 := by rw [e5]; show gN h4 + 1 = 4; rw [n_h4]
  have z_h5 := gz_new z_h4 e5
  try rw [n_h4]
  rw [J_X8_init]
  intro h6 e6
  have n_h6 : gN h6 = 5 := by rw [e6]; show gN h5 + 1 = 5; rw [n_h5]
  have z_h6 := gz_new z_h5 e6
  try rw [n_h5]
  intro h7 e7
  have n_h7 : gN h7 = 5 := by rw [e7]; exact n_h6
  have z_h7 := gz_pr z_h6 e7
  intro h8 e8
  have n_h8 : gN h8 = 6 := by rw [e8]; show gN h7 + 1 = 6; rw [n_h7]
  have z_h8 := gz_new z_h7 e8
  try rw [n_h7]
  intro h9 e9
  have n_h9 : gN h9 = 6 := by rw [e9]; exact n_h8
  have z_h9 := gz_pr z_h8 e9
  intro h10 e10
  have n_h10 : gN h10 = 7 := by rw [e10]; show gN h9 + 1 = 7; rw [n_h9]
  have z_h10 := gz_new z_h9 e10
  try rw [n_h9]
  intro h11 e11
  have n_h11 : gN h11 = 7 := by rw [e11]; exact n_h10
  have z_h11 := gz_pr z_h10 e11
  intro h12 e12
  have n_h12 : gN h12 = 8 := by rw [e12]; show gN h11 + 1 = 8; rw [n_h11]
  have z_h12 := gz_new z_h11 e12
  try rw [n_h11]
  intro h13 e13
  have n_h13 : gN h13 = 8 := by rw [e13]; exact n_h12
  have z_h13 := gz_pr z_h12 e13
  intro h14 e14
  have n_h14 : gN h14 = 9 := by rw [e14]; show gN h13 + 1 = 9; rw [n_h13]
  have z_h14 := gz_new z_h13 e14
  try rw [n_h13]
  intro h15 e15
  have n_h15 : gN h15 = 9 := by rw [e15]; exact n_h14
  have z_h15 := gz_pr z_h14 e15
  intro h16 e16
  have n_h16 : gN h16 = 9 := by rw [e16]; exact n_h15
  have z_h16 := gz_pr z_h15 e16
  intro h17 e17
  have n_h17 : gN h17 = 10 := by rw [e17]; show gN h16 + 1 = 10; rw [n_h16]
  have z_h17 := gz_new z_h16 e17
  try rw [n_h16]
  intro h18 e18
  have n_h18 : gN h18 = 10 := by rw [e18]; exact n_h17
  have z_h18 := gz_pr z_h17 e18
  intro h19 e19
  have n_h19 : gN h19 = 11 := by rw [e19]; show gN h18 + 1 = 11; rw [n_h18]
  have z_h19 := gz_new z_h18 e19
  try rw [n_h18]
  intro h20 e20
  have n_h20 : gN h20 = 11 := by rw [e20]; exact n_h19
  have z_h20 := gz_pr z_h19 e20
  intro h21 e21
  have n_h21 : gN h21 = 12 := by rw [e21]; show gN h20 + 1 = 12; rw [n_h20]
  have z_h21 := gz_new z_h20 e21
  try rw [n_h20]
  rw [J_X4_init]
  intro h22 e22
  have n_h22 : gN h22 = 13 := by rw [e22]; show gN h21 + 1 = 13; rw [n_h21]
  have z_h22 := gz_new z_h21 e22
  try rw [n_h21]
  intro h23 e23
  have n_h23 : gN h23 = 13 := by rw [e23]; exact n_h22
  have z_h23 := gz_pr z_h22 e23
  intro h24 e24
  have n_h24 : gN h24 = 14 := by rw [e24]; show gN h23 + 1 = 14; rw [n_h23]
  have z_h24 := gz_new z_h23 e24
  try rw [n_h23]
  intro h25 e25
  have n_h25 : gN h25 = 14 := by rw [e25]; exact n_h24
  have z_h25 := gz_pr z_h24 e25
  intro h26 e26
  have n_h26 : gN h26 = 15 := by rw [e26]; show gN h25 + 1 = 15; rw [n_h25]
  have z_h26 := gz_new z_h25 e26
  try rw [n_h25]
  intro h27 e27
  have n_h27 : gN h27 = 15 := by rw [e27]; exact n_h26
  have z_h27 := gz_pr z_h26 e27
  intro h28 e28
  have n_h28 : gN h28 = 16 := by rw [e28]; show gN h27 + 1 = 16; rw [n_h27]
  have z_h28 := gz_new z_h27 e28
  try rw [n_h27]
  intro h29 e29
  have n_h29 : gN h29 = 16 := by rw [e29]; exact n_h28
  have z_h29 := gz_pr z_h28 e29
  intro h30 e30
  have n_h30 : gN h30 = 16 := by rw [e30]; exact n_h29
  have z_h30 := gz_pr z_h29 e30
  intro h31 e31
  have n_h31 : gN h31 = 17 := by rw [e31]; show gN h30 + 1 = 17; rw [n_h30]
  have z_h31 := gz_new z_h30 e31
  try rw [n_h30]
  rw [J_X2_init]
  intro h32 e32
  have n_h32 : gN h32 = 18 := by rw [e32]; show gN h31 + 1 = 18; rw [n_h31]
  have z_h32 := gz_new z_h31 e32
  try rw [n_h31]
  intro h33 e33
  have n_h33 : gN h33 = 18 := by rw [e33]; exact n_h32
  have z_h33 := gz_pr z_h32 e33
  intro h34 e34
  have n_h34 : gN h34 = 19 := by rw [e34]; show gN h33 + 1 = 19; rw [n_h33]
  have z_h34 := gz_new z_h33 e34
  try rw [n_h33]
  intro h35 e35
  have n_h35 : gN h35 = 19 := by rw [e35]; exact n_h34
  have z_h35 := gz_pr z_h34 e35
  intro h36 e36
  have n_h36 : gN h36 = 19 := by rw [e36]; exact n_h35
  have z_h36 := gz_pr z_h35 e36
  intro h37 e37
  have n_h37 : gN h37 = 20 := by rw [e37]; show gN h36 + 1 = 20; rw [n_h36]
  have z_h37 := gz_new z_h36 e37
  try rw [n_h36]
  rw [J_X2_init]
  intro h38 e38
  have n_h38 : gN h38 = 21 := by rw [e38]; show gN h37 + 1 = 21; rw [n_h37]
  have z_h38 := gz_new z_h37 e38
  try rw [n_h37]
  intro h39 e39
  have n_h39 : gN h39 = 21 := by rw [e39]; exact n_h38
  have z_h39 := gz_pr z_h38 e39
  intro h40 e40
  have n_h40 : gN h40 = 22 := by rw [e40]; show gN h39 + 1 = 22; rw [n_h39]
  have z_h40 := gz_new z_h39 e40
  try rw [n_h39]
  intro h41 e41
  have n_h41 : gN h41 = 22 := by rw [e41]; exact n_h40
  have z_h41 := gz_pr z_h40 e41
  intro h42 e42
  have n_h42 : gN h42 = 22 := by rw [e42]; exact n_h41
  have z_h42 := gz_pr z_h41 e42
  intro h43 e43
  have n_h43 : gN h43 = 23 := by rw [e43]; show gN h42 + 1 = 23; rw [n_h42]
  have z_h43 := gz_new z_h42 e43
  try rw [n_h42]
  rw [J_X10_init]
  intro h44 e44
  have n_h44 : gN h44 = 24 := by rw [e44]; show gN h43 + 1 = 24; rw [n_h43]
  have z_h44 := gz_new z_h43 e44
  try rw [n_h43]
  rw [J_X3_init]
  intro h45 e45
  have n_h45 : gN h45 = 25 := by rw [e45]; show gN h44 + 1 = 25; rw [n_h44]
  have z_h45 := gz_new z_h44 e45
  try rw [n_h44]
  intro h46 e46
  have n_h46 : gN h46 = 25 := by rw [e46]; exact n_h45
  have z_h46 := gz_pr z_h45 e46
  intro h47 e47
  have n_h47 : gN h47 = 26 := by rw [e47]; show gN h46 + 1 = 26; rw [n_h46]
  have z_h47 := gz_new z_h46 e47
  try rw [n_h46]
  intro h48 e48
  have n_h48 : gN h48 = 26 := by rw [e48]; exact n_h47
  have z_h48 := gz_pr z_h47 e48
  intro h49 e49
  have n_h49 : gN h49 = 27 := by rw [e49]; show gN h48 + 1 = 27; rw [n_h48]
  have z_h49 := gz_new z_h48 e49
  try rw [n_h48]
  intro h50 e50
  have n_h50 : gN h50 = 27 := by rw [e50]; exact n_h49
  have z_h50 := gz_pr z_h49 e50
  intro h51 e51
  have n_h51 : gN h51 = 27 := by rw [e51]; exact n_h50
  have z_h51 := gz_pr z_h50 e51
  intro h52 e52
  have n_h52 : gN h52 = 27 := by rw [e52]; exact n_h51
  have z_h52 := gz_pr z_h51 e52
  intro h53 e53
  have n_h53 : gN h53 = 28 := by rw [e53]; show gN h52 + 1 = 28; rw [n_h52]
  have z_h53 := gz_new z_h52 e53
  try rw [n_h52]
  rw [J_X6_init]
  intro h54 e54
  have n_h54 : gN h54 = 29 := by rw [e54]; show gN h53 + 1 = 29; rw [n_h53]
  have z_h54 := gz_new z_h53 e54
  try rw [n_h53]
  intro h55 e55
  have n_h55 : gN h55 = 29 := by rw [e55]; exact n_h54
  have z_h55 := gz_pr z_h54 e55
  intro h56 e56
  have n_h56 : gN h56 = 30 := by rw [e56]; show gN h55 + 1 = 30; rw [n_h55]
  have z_h56 := gz_new z_h55 e56
  try rw [n_h55]
  intro h57 e57
  have n_h57 : gN h57 = 30 := by rw [e57]; exact n_h56
  have z_h57 := gz_pr z_h56 e57
  intro h58 e58
  have n_h58 : gN h58 = 30 := by rw [e58]; exact n_h57
  have z_h58 := gz_pr z_h57 e58
  intro h59 e59
  have n_h59 : gN h59 = 31 := by rw [e59]; show gN h58 + 1 = 31; rw [n_h58]
  have z_h59 := gz_new z_h58 e59
  try rw [n_h58]
  rw [J_X1_init]
  intro h60 e60
  have n_h60 : gN h60 = 32 := by rw [e60]; show gN h59 + 1 = 32; rw [n_h59]
  have z_h60 := gz_new z_h59 e60
  try rw [n_h59]
  intro h61 e61
  have n_h61 : gN h61 = 32 := by rw [e61]; exact n_h60
  have z_h61 := gz_pr z_h60 e61
  intro h62 e62
  have n_h62 : gN h62 = 32 := by rw [e62]; exact n_h61
  have z_h62 := gz_pr z_h61 e62
  refine ⟨9, by rw [e62, e61, e60, e59, e58, e57, e56, e55, e54, e53, e52, e51, e50, e49, e48, e47, e46, e45, e44, e43, e42, e41, e40, e39, e38, e37, e36, e35, e34, e33, e32, e31, e30, e29, e28, e27, e26, e25, e24, e23, e22, e21, e20, e19, e18, e17, e16, e15, e14, e13, e12, e11, e10, e9, e8, e7, e6, e5, e4, e3, e2, e1, eg]; rfl, ?_⟩
  intro h63 e63
  have n_h63 : gN h63 = 33 := by rw [e63]; show gN h62 + 1 = 33; rw [n_h62]
  have z_h63 := gz_new z_h62 e63
  try rw [n_h62]
  rw [J_X9_init]
  refine ⟨by rw [show gl h63 9 = 5 from by rw [e63, e62, e61, e60, e59, e58, e57, e56, e55, e54, e53, e52, e51, e50, e49, e48, e47, e46, e45, e44, e43, e42, e41, e40, e39, e38, e37, e36, e35, e34, e33, e32, e31, e30, e29, e28, e27, e26, e25, e24, e23, e22, e21, e20, e19, e18, e17, e16, e15, e14, e13, e12, e11, e10, e9, e8, e7, e6, e5, e4, e3, e2, e1, eg]; rfl]; unfold vp_in; decide, ?_⟩
  intro h64 e64
  have n_h64 : gN h64 = 33 := by rw [e64]; exact n_h63
  have z_h64 := gz_pr z_h63 e64
  refine ⟨9, by rw [e64, e63, e62, e61, e60, e59, e58, e57, e56, e55, e54, e53, e52, e51, e50, e49, e48, e47, e46, e45, e44, e43, e42, e41, e40, e39, e38, e37, e36, e35, e34, e33, e32, e31, e30, e29, e28, e27, e26, e25, e24, e23, e22, e21, e20, e19, e18, e17, e16, e15, e14, e13, e12, e11, e10, e9, e8, e7, e6, e5, e4, e3, e2, e1, eg]; rfl, ?_⟩
  intro h65 e65
  have n_h65 : gN h65 = 34 := by rw [e65]; show gN h64 + 1 = 34; rw [n_h64]
  have z_h65 := gz_new z_h64 e65
  try rw [n_h64]
  rw [J_X9_init]
  refine ⟨by rw [show gl h65 9 = 5 from by rw [e65, e64, e63, e62, e61, e60, e59, e58, e57, e56, e55, e54, e53, e52, e51, e50, e49, e48, e47, e46, e45, e44, e43, e42, e41, e40, e39, e38, e37, e36, e35, e34, e33, e32, e31, e30, e29, e28, e27, e26, e25, e24, e23, e22, e21, e20, e19, e18, e17, e16, e15, e14, e13, e12, e11, e10, e9, e8, e7, e6, e5, e4, e3, e2, e1, eg]; rfl]; unfold vp_in; decide, ?_⟩
  intro h66 e66
  have n_h66 : gN h66 = 34 := by rw [e66]; exact n_h65
  have z_h66 := gz_pr z_h65 e66
  refine ⟨9, by rw [e66, e65, e64, e63, e62, e61, e60, e59, e58, e57, e56, e55, e54, e53, e52, e51, e50, e49, e48, e47, e46, e45, e44, e43, e42, e41, e40, e39, e38, e37, e36, e35, e34, e33, e32, e31, e30, e29, e28, e27, e26, e25, e24, e23, e22, e21, e20, e19, e18, e17, e16, e15, e14, e13, e12, e11, e10, e9, e8, e7, e6, e5, e4, e3, e2, e1, eg]; rfl, ?_⟩
  intro h67 e67
  have n_h67 : gN h67 = 35 := by rw [e67]; show gN h66 + 1 = 35; rw [n_h66]
  have z_h67 := gz_new z_h66 e67
  try rw [n_h66]
  rw [J_X9_init]
  refine ⟨by rw [show gl h67 9 = 5 from by rw [e67, e66, e65, e64, e63, e62, e61, e60, e59, e58, e57, e56, e55, e54, e53, e52, e51, e50, e49, e48, e47, e46, e45, e44, e43, e42, e41, e40, e39, e38, e37, e36, e35, e34, e33, e32, e31, e30, e29, e28, e27, e26, e25, e24, e23, e22, e21, e20, e19, e18, e17, e16, e15, e14, e13, e12, e11, e10, e9, e8, e7, e6, e5, e4, e3, e2, e1, eg]; rfl]; unfold vp_in; decide, ?_⟩
  intro h68 e68
  have n_h68 : gN h68 = 35 := by rw [e68]; exact n_h67
  have z_h68 := gz_pr z_h67 e68
  refine ⟨9, by rw [e68, e67, e66, e65, e64, e63, e62, e61, e60, e59, e58, e57, e56, e55, e54, e53, e52, e51, e50, e49, e48, e47, e46, e45, e44, e43, e42, e41, e40, e39, e38, e37, e36, e35, e34, e33, e32, e31, e30, e29, e28, e27, e26, e25, e24, e23, e22, e21, e20, e19, e18, e17, e16, e15, e14, e13, e12, e11, e10, e9, e8, e7, e6, e5, e4, e3, e2, e1, eg]; rfl, ?_⟩
  intro h69 e69
  have n_h69 : gN h69 = 36 := by rw [e69]; show gN h68 + 1 = 36; rw [n_h68]
  have z_h69 := gz_new z_h68 e69
  try rw [n_h68]
  rw [J_X9_init]
  refine ⟨by rw [show gl h69 9 = 5 from by rw [e69, e68, e67, e66, e65, e64, e63, e62, e61, e60, e59, e58, e57, e56, e55, e54, e53, e52, e51, e50, e49, e48, e47, e46, e45, e44, e43, e42, e41, e40, e39, e38, e37, e36, e35, e34, e33, e32, e31, e30, e29, e28, e27, e26, e25, e24, e23, e22, e21, e20, e19, e18, e17, e16, e15, e14, e13, e12, e11, e10, e9, e8, e7, e6, e5, e4, e3, e2, e1, eg]; rfl]; unfold vp_in; decide, ?_⟩
  intro h70 e70
  have n_h70 : gN h70 = 36 := by rw [e70]; exact n_h69
  have z_h70 := gz_pr z_h69 e70
  refine ⟨9, by rw [e70, e69, e68, e67, e66, e65, e64, e63, e62, e61, e60, e59, e58, e57, e56, e55, e54, e53, e52, e51, e50, e49, e48, e47, e46, e45, e44, e43, e42, e41, e40, e39, e38, e37, e36, e35, e34, e33, e32, e31, e30, e29, e28, e27, e26, e25, e24, e23, e22, e21, e20, e19, e18, e17, e16, e15, e14, e13, e12, e11, e10, e9, e8, e7, e6, e5, e4, e3, e2, e1, eg]; rfl, ?_⟩
  intro h71 e71
  have n_h71 : gN h71 = 37 := by rw [e71]; show gN h70 + 1 = 37; rw [n_h70]
  have z_h71 := gz_new z_h70 e71
  try rw [n_h70]
  rw [J_X9_init]
  refine ⟨by rw [show gl h71 9 = 5 from by rw [e71, e70, e69, e68, e67, e66, e65, e64, e63, e62, e61, e60, e59, e58, e57, e56, e55, e54, e53, e52, e51, e50, e49, e48, e47, e46, e45, e44, e43, e42, e41, e40, e39, e38, e37, e36, e35, e34, e33, e32, e31, e30, e29, e28, e27, e26, e25, e24, e23, e22, e21, e20, e19, e18, e17, e16, e15, e14, e13, e12, e11, e10, e9, e8, e7, e6, e5, e4, e3, e2, e1, eg]; rfl]; unfold vp_in; decide, ?_⟩
  intro h72 e72
  have n_h72 : gN h72 = 37 := by rw [e72]; exact n_h71
  have z_h72 := gz_pr z_h71 e72
  refine ⟨n_h72, ?_⟩
  obtain ⟨h73, e73⟩ : ∃ z, z = gnew 11 0 h72 := ⟨_, rfl⟩
  rw [← e73]
  have n_h73 : gN h73 = 38 := by rw [e73]; show gN h72 + 1 = 38; rw [n_h72]
  have z_h73 := gz_new z_h72 e73
  rw [J_X12_init]
  intro h74 e74
  have n_h74 : gN h74 = 39 := by rw [e74]; show gN h73 + 1 = 39; rw [n_h73]
  have z_h74 := gz_new z_h73 e74
  try rw [n_h73]
  intro h75 e75
  have n_h75 : gN h75 = 39 := by rw [e75]; exact n_h74
  have z_h75 := gz_pr z_h74 e75
  intro h76 e76
  have n_h76 : gN h76 = 40 := by rw [e76]; show gN h75 + 1 = 40; rw [n_h75]
  have z_h76 := gz_new z_h75 e76
  try rw [n_h75]
  intro h77 e77
  have n_h77 : gN h77 = 40 := by rw [e77]; exact n_h76
  have z_h77 := gz_pr z_h76 e77
  intro h78 e78
  have n_h78 : gN h78 = 41 := by rw [e78]; show gN h77 + 1 = 41; rw [n_h77]
  have z_h78 := gz_new z_h77 e78
  try rw [n_h77]
  intro h79 e79
  have n_h79 : gN h79 = 41 := by rw [e79]; exact n_h78
  have z_h79 := gz_pr z_h78 e79
  intro h80 e80
  have n_h80 : gN h80 = 42 := by rw [e80]; show gN h79 + 1 = 42; rw [n_h79]
  have z_h80 := gz_new z_h79 e80
  try rw [n_h79]
  intro h81 e81
  have n_h81 : gN h81 = 42 := by rw [e81]; exact n_h80
  have z_h81 := gz_pr z_h80 e81
  intro h82 e82
  have n_h82 : gN h82 = 43 := by rw [e82]; show gN h81 + 1 = 43; rw [n_h81]
  have z_h82 := gz_new z_h81 e82
  try rw [n_h81]
  intro h83 e83
  have n_h83 : gN h83 = 43 := by rw [e83]; exact n_h82
  have z_h83 := gz_pr z_h82 e83
  intro h84 e84
  have n_h84 : gN h84 = 44 := by rw [e84]; show gN h83 + 1 = 44; rw [n_h83]
  have z_h84 := gz_new z_h83 e84
  try rw [n_h83]
  intro h85 e85
  have n_h85 : gN h85 = 44 := by rw [e85]; exact n_h84
  have z_h85 := gz_pr z_h84 e85
  intro h86 e86
  have n_h86 : gN h86 = 45 := by rw [e86]; show gN h85 + 1 = 45; rw [n_h85]
  have z_h86 := gz_new z_h85 e86
  try rw [n_h85]
  intro h87 e87
  have n_h87 : gN h87 = 45 := by rw [e87]; exact n_h86
  have z_h87 := gz_pr z_h86 e87
  intro h88 e88
  have n_h88 : gN h88 = 46 := by rw [e88]; show gN h87 + 1 = 46; rw [n_h87]
  have z_h88 := gz_new z_h87 e88
  try rw [n_h87]
  intro h89 e89
  have n_h89 : gN h89 = 46 := by rw [e89]; exact n_h88
  have z_h89 := gz_pr z_h88 e89
  intro h90 e90
  have n_h90 : gN h90 = 47 := by rw [e90]; show gN h89 + 1 = 47; rw [n_h89]
  have z_h90 := gz_new z_h89 e90
  try rw [n_h89]
  intro h91 e91
  have n_h91 : gN h91 = 47 := by rw [e91]; exact n_h90
  have z_h91 := gz_pr z_h90 e91
  intro h92 e92
  have n_h92 : gN h92 = 48 := by rw [e92]; show gN h91 + 1 = 48; rw [n_h91]
  have z_h92 := gz_new z_h91 e92
  try rw [n_h91]
  intro h93 e93
  have n_h93 : gN h93 = 48 := by rw [e93]; exact n_h92
  have z_h93 := gz_pr z_h92 e93
  intro h94 e94
  have n_h94 : gN h94 = 49 := by rw [e94]; show gN h93 + 1 = 49; rw [n_h93]
  have z_h94 := gz_new z_h93 e94
  try rw [n_h93]
  intro h95 e95
  have n_h95 : gN h95 = 49 := by rw [e95]; exact n_h94
  have z_h95 := gz_pr z_h94 e95
  intro h96 e96
  have n_h96 : gN h96 = 50 := by rw [e96]; show gN h95 + 1 = 50; rw [n_h95]
  have z_h96 := gz_new z_h95 e96
  try rw [n_h95]
  intro h97 e97
  have n_h97 : gN h97 = 50 := by rw [e97]; exact n_h96
  have z_h97 := gz_pr z_h96 e97
  intro h98 e98
  have n_h98 : gN h98 = 51 := by rw [e98]; show gN h97 + 1 = 51; rw [n_h97]
  have z_h98 := gz_new z_h97 e98
  try rw [n_h97]
  intro h99 e99
  have n_h99 : gN h99 = 51 := by rw [e99]; exact n_h98
  have z_h99 := gz_pr z_h98 e99
  intro h100 e100
  have n_h100 : gN h100 = 52 := by rw [e100]; show gN h99 + 1 = 52; rw [n_h99]
  have z_h100 := gz_new z_h99 e100
  try rw [n_h99]
  intro h101 e101
  have n_h101 : gN h101 = 52 := by rw [e101]; exact n_h100
  have z_h101 := gz_pr z_h100 e101
  intro h102 e102
  have n_h102 : gN h102 = 53 := by rw [e102]; show gN h101 + 1 = 53; rw [n_h101]
  have z_h102 := gz_new z_h101 e102
  try rw [n_h101]
  intro h103 e103
  have n_h103 : gN h103 = 53 := by rw [e103]; exact n_h102
  have z_h103 := gz_pr z_h102 e103
  intro h104 e104
  have n_h104 : gN h104 = 54 := by rw [e104]; show gN h103 + 1 = 54; rw [n_h103]
  have z_h104 := gz_new z_h103 e104
  try rw [n_h103]
  intro h105 e105
  have n_h105 : gN h105 = 54 := by rw [e105]; exact n_h104
  have z_h105 := gz_pr z_h104 e105
  intro h106 e106
  have n_h106 : gN h106 = 55 := by rw [e106]; show gN h105 + 1 = 55; rw [n_h105]
  have z_h106 := gz_new z_h105 e106
  try rw [n_h105]
  intro h107 e107
  have n_h107 : gN h107 = 55 := by rw [e107]; exact n_h106
  have z_h107 := gz_pr z_h106 e107
  intro h108 e108
  have n_h108 : gN h108 = 56 := by rw [e108]; show gN h107 + 1 = 56; rw [n_h107]
  have z_h108 := gz_new z_h107 e108
  try rw [n_h107]
  intro h109 e109
  have n_h109 : gN h109 = 56 := by rw [e109]; exact n_h108
  have z_h109 := gz_pr z_h108 e109
  intro h110 e110
  have n_h110 : gN h110 = 57 := by rw [e110]; show gN h109 + 1 = 57; rw [n_h109]
  have z_h110 := gz_new z_h109 e110
  try rw [n_h109]
  intro h111 e111
  have n_h111 : gN h111 = 57 := by rw [e111]; exact n_h110
  have z_h111 := gz_pr z_h110 e111
  intro h112 e112
  have n_h112 : gN h112 = 58 := by rw [e112]; show gN h111 + 1 = 58; rw [n_h111]
  have z_h112 := gz_new z_h111 e112
  try rw [n_h111]
  intro h113 e113
  have n_h113 : gN h113 = 58 := by rw [e113]; exact n_h112
  have z_h113 := gz_pr z_h112 e113
  intro h114 e114
  have n_h114 : gN h114 = 59 := by rw [e114]; show gN h113 + 1 = 59; rw [n_h113]
  have z_h114 := gz_new z_h113 e114
  try rw [n_h113]
  intro h115 e115
  have n_h115 : gN h115 = 59 := by rw [e115]; exact n_h114
  have z_h115 := gz_pr z_h114 e115
  intro h116 e116
  have n_h116 : gN h116 = 60 := by rw [e116]; show gN h115 + 1 = 60; rw [n_h115]
  have z_h116 := gz_new z_h115 e116
  try rw [n_h115]
  intro h117 e117
  have n_h117 : gN h117 = 60 := by rw [e117]; exact n_h116
  have z_h117 := gz_pr z_h116 e117
  intro h118 e118
  have n_h118 : gN h118 = 61 := by rw [e118]; show gN h117 + 1 = 61; rw [n_h117]
  have z_h118 := gz_new z_h117 e118
  try rw [n_h117]
  intro h119 e119
  have n_h119 : gN h119 = 61 := by rw [e119]; exact n_h118
  have z_h119 := gz_pr z_h118 e119
  intro h120 e120
  have n_h120 : gN h120 = 62 := by rw [e120]; show gN h119 + 1 = 62; rw [n_h119]
  have z_h120 := gz_new z_h119 e120
  try rw [n_h119]
  intro h121 e121
  have n_h121 : gN h121 = 62 := by rw [e121]; exact n_h120
  have z_h121 := gz_pr z_h120 e121
  intro h122 e122
  have n_h122 : gN h122 = 63 := by rw [e122]; show gN h121 + 1 = 63; rw [n_h121]
  have z_h122 := gz_new z_h121 e122
  try rw [n_h121]
  intro h123 e123
  have n_h123 : gN h123 = 63 := by rw [e123]; exact n_h122
  have z_h123 := gz_pr z_h122 e123
  intro h124 e124
  have n_h124 : gN h124 = 64 := by rw [e124]; show gN h123 + 1 = 64; rw [n_h123]
  have z_h124 := gz_new z_h123 e124
  try rw [n_h123]
  intro h125 e125
  have n_h125 : gN h125 = 64 := by rw [e125]; exact n_h124
  have z_h125 := gz_pr z_h124 e125
  intro h126 e126
  have n_h126 : gN h126 = 65 := by rw [e126]; show gN h125 + 1 = 65; rw [n_h125]
  have z_h126 := gz_new z_h125 e126
  try rw [n_h125]
  intro h127 e127
  have n_h127 : gN h127 = 65 := by rw [e127]; exact n_h126
  have z_h127 := gz_pr z_h126 e127
  have hf : h127 = Gst := by rw [e127, e126, e125, e124, e123, e122, e121, e120, e119, e118, e117, e116, e115, e114, e113, e112, e111, e110, e109, e108, e107, e106, e105, e104, e103, e102, e101, e100, e99, e98, e97, e96, e95, e94, e93, e92, e91, e90, e89, e88, e87, e86, e85, e84, e83, e82, e81, e80, e79, e78, e77, e76, e75, e74, e73, e72, e71, e70, e69, e68, e67, e66, e65, e64, e63, e62, e61, e60, e59, e58, e57, e56, e55, e54, e53, e52, e51, e50, e49, e48, e47, e46, e45, e44, e43, e42, e41, e40, e39, e38, e37, e36, e35, e34, e33, e32, e31, e30, e29, e28, e27, e26, e25, e24, e23, e22, e21, e20, e19, e18, e17, e16, e15, e14, e13, e12, e11, e10, e9, e8, e7, e6, e5, e4, e3, e2, e1, eg]; rfl
  exact ⟨hI _ hf z_h127, by rw [hf]; exact Gst_arms⟩
