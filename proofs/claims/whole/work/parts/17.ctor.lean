/-! The constructors: a second small machine, over a world that grows. -/
def qb : Nat → ByteArray
  | 0 => cX0_init
  | 1 => cX1_init
  | 2 => cX2_init
  | 3 => cX3_init
  | 4 => cX4_init
  | 5 => cX5_init
  | 6 => cX6_init
  | 7 => cX7_init
  | 8 => cX8_init
  | _ => cL_law
def qy : Nat → MethodName
  | 0 => yX0_init
  | 1 => yX1_init
  | 2 => yX2_init
  | 3 => yX3_init
  | 4 => yX4_init
  | 5 => yX5_init
  | 6 => yX6_init
  | 7 => yX7_init
  | 8 => yX8_init
  | _ => yL_law
def qn : Nat → Nat
  | 0 => 2
  | 1 => 1
  | 2 => 3
  | 3 => 2
  | 4 => 1
  | 5 => 1
  | 6 => 1
  | 7 => 2
  | 8 => 2
  | _ => 4
def qstop : Nat → Nat
  | 0 => 25
  | 1 => 20
  | 2 => 112
  | 3 => 19
  | 4 => 12
  | 5 => 73
  | 6 => 12
  | 7 => 126
  | 8 => 145
  | _ => 16
def qna : Nat → Nat
  | 0 => 1
  | 1 => 0
  | 2 => 2
  | 3 => 1
  | 4 => 0
  | 5 => 0
  | 6 => 0
  | 7 => 0
  | 8 => 0
  | _ => 0
def qdf : Nat → List (Option zA)
  | 0 => [none, some (zI 0), some (zI 0), none]
  | 1 => [none, some (zI 0), none, some (zI 0), some (zI 0), some (zI 0)]
  | 2 => [none, none, none, none, none, none, none, none, none, some (zI 0), some (zI 0), some (zI 0), some (zI 0), none, some (zI 0)]
  | 3 => [none, some (zI 0)]
  | 4 => [none, some (zI 0), some (zI 0)]
  | 5 => [none, none, none, none, none]
  | 6 => [none, some (zI 0), some (zI 0), some (zI 0), some (zI 0), some (zI 0)]
  | 7 => [none, none, none, none, none, none, none, none, some (zI 0)]
  | 8 => [none, none, none, none, some (zI 0), none, some (zI 0), some (zI 0), some (zI 0), some (zI 0), none, none, none, some (zI 0), some (zI 0), none, some (zI 0), some (zI 0), none, none, none, none]
  | _ => []
def qnT : List (Nat × Nat × Nat × Nat) := [(9, 7, 7, 100), (7, 7, 5, 108), (5, 9, 0, 114), (5, 23, 2, 137), (5, 32, 3, 200), (7, 19, 1, 238), (7, 26, 6, 265), (7, 33, 4, 293), (7, 48, 2, 295), (9, 10, 8, 813)]
def qkT : List (Nat × Nat × Nat × Nat) := [(9, 9, 7, 102), (5, 11, 0, 116), (5, 25, 2, 139), (5, 34, 3, 202), (7, 57, 2, 296), (9, 12, 8, 815)]
def qmT : List (Nat × Nat × Nat × Nat) := [(7, 9, 5, 110), (7, 21, 1, 240), (7, 28, 6, 267), (7, 63, 4, 298)]
def qoT : List (Nat × Nat × Nat) := [(7, 1, 105), (5, 3, 113), (0, 3, 119), (2, 3, 142), (3, 1, 205), (1, 3, 243), (6, 3, 270), (4, 3, 301), (8, 1, 818)]
def qnf (o x : Nat) : Option Nat := (qnT.find? (fun q => q.1 == o && q.2.1 == x)).map (fun q => q.2.2.1)
def qkf (o x : Nat) : Option Nat := (qkT.find? (fun q => q.1 == o && q.2.1 == x)).map (fun q => q.2.2.1)
def qmf (o x : Nat) : Option Nat := (qmT.find? (fun q => q.1 == o && q.2.1 == x)).map (fun q => q.2.2.1)
def qof (o x : Nat) : Bool := (qoT.find? (fun q => q.1 == o && q.2.1 == x)).isSome
theorem qnT_ok : ∀ q ∈ qnT, q.2.2.1 < 9 ∧ lw_tbl[q.2.2.2]? = some (.classLink (zC q.1) q.2.1 (zC q.2.2.1)) ∧ goodWord (.classLink (zC q.1) q.2.1 (zC q.2.2.1)) = true := by decide +kernel
theorem qkT_ok : ∀ q ∈ qkT, q.2.2.1 < 9 ∧ lw_tbl[q.2.2.2]? = some (.methodLink (zC q.1) q.2.1 (qy q.2.2.1)) ∧ goodWord (.methodLink (zC q.1) q.2.1 (qy q.2.2.1)) = true := by decide +kernel
theorem qmT_ok : ∀ q ∈ qmT, q.2.2.1 < 9 ∧ lw_tbl[q.2.2.2]? = some (.methodLinkNest (zC q.1) q.2.1 (qy q.2.2.1) "ApronStrings") := by decide +kernel
theorem qoT_ok : ∀ q ∈ qoT, lw_tbl[q.2.2]? = some (.methodLink (zC q.1) q.2.1 objectInit) ∧ goodWord (.methodLink (zC q.1) q.2.1 objectInit) = true := by decide +kernel
set_option maxRecDepth 100000 in
theorem q_obj : Cond.instanceMethod objectInit ∈ zTb ∧ Cond.code objectInit ⟨#[0xb1]⟩ 1 none ∈ zTb := ⟨zTb_of (i := 106) (by decide +kernel) (by decide +kernel), zTb_of (i := 107) rfl rfl⟩
set_option maxRecDepth 100000 in
theorem qw0 : (Cond.code (qy 0) (qb 0) (qn 0) none ∈ zTb ∧ Cond.instantiable (zC 0) (znf 0) ∈ zTb) ∧ Cond.initialized (zC 0) ∈ zTb ∧ Cond.instanceMethod (qy 0) ∈ zTb := ⟨⟨zTb_of (i := 118) rfl rfl, zTb_of (i := 115) (by decide +kernel) (by decide +kernel)⟩, zTb_of (i := 90) (by decide +kernel) (by decide +kernel), zTb_of (i := 117) (by decide +kernel) (by decide +kernel)⟩
set_option maxRecDepth 100000 in
theorem qw1 : (Cond.code (qy 1) (qb 1) (qn 1) none ∈ zTb ∧ Cond.instantiable (zC 1) (znf 1) ∈ zTb) ∧ Cond.initialized (zC 1) ∈ zTb ∧ Cond.instanceMethod (qy 1) ∈ zTb := ⟨⟨zTb_of (i := 242) rfl rfl, zTb_of (i := 239) (by decide +kernel) (by decide +kernel)⟩, zTb_of (i := 93) (by decide +kernel) (by decide +kernel), zTb_of (i := 241) (by decide +kernel) (by decide +kernel)⟩
set_option maxRecDepth 100000 in
theorem qw2 : (Cond.code (qy 2) (qb 2) (qn 2) none ∈ zTb ∧ Cond.instantiable (zC 2) (znf 2) ∈ zTb) ∧ Cond.initialized (zC 2) ∈ zTb ∧ Cond.instanceMethod (qy 2) ∈ zTb := ⟨⟨zTb_of (i := 141) rfl rfl, zTb_of (i := 138) (by decide +kernel) (by decide +kernel)⟩, zTb_of (i := 91) (by decide +kernel) (by decide +kernel), zTb_of (i := 140) (by decide +kernel) (by decide +kernel)⟩
set_option maxRecDepth 100000 in
theorem qw3 : (Cond.code (qy 3) (qb 3) (qn 3) none ∈ zTb ∧ Cond.instantiable (zC 3) (znf 3) ∈ zTb) ∧ Cond.initialized (zC 3) ∈ zTb ∧ Cond.instanceMethod (qy 3) ∈ zTb := ⟨⟨zTb_of (i := 204) rfl rfl, zTb_of (i := 201) (by decide +kernel) (by decide +kernel)⟩, zTb_of (i := 92) (by decide +kernel) (by decide +kernel), zTb_of (i := 203) (by decide +kernel) (by decide +kernel)⟩
set_option maxRecDepth 100000 in
theorem qw4 : (Cond.code (qy 4) (qb 4) (qn 4) none ∈ zTb ∧ Cond.instantiable (zC 4) (znf 4) ∈ zTb) ∧ Cond.initialized (zC 4) ∈ zTb ∧ Cond.instanceMethod (qy 4) ∈ zTb := ⟨⟨zTb_of (i := 300) rfl rfl, zTb_of (i := 297) (by decide +kernel) (by decide +kernel)⟩, zTb_of (i := 95) (by decide +kernel) (by decide +kernel), zTb_of (i := 299) (by decide +kernel) (by decide +kernel)⟩
set_option maxRecDepth 100000 in
theorem qw5 : (Cond.code (qy 5) (qb 5) (qn 5) none ∈ zTb ∧ Cond.instantiable (zC 5) (znf 5) ∈ zTb) ∧ Cond.initialized (zC 5) ∈ zTb ∧ Cond.instanceMethod (qy 5) ∈ zTb := ⟨⟨zTb_of (i := 112) rfl rfl, zTb_of (i := 109) (by decide +kernel) (by decide +kernel)⟩, zTb_of (i := 89) (by decide +kernel) (by decide +kernel), zTb_of (i := 111) (by decide +kernel) (by decide +kernel)⟩
set_option maxRecDepth 100000 in
theorem qw6 : (Cond.code (qy 6) (qb 6) (qn 6) none ∈ zTb ∧ Cond.instantiable (zC 6) (znf 6) ∈ zTb) ∧ Cond.initialized (zC 6) ∈ zTb ∧ Cond.instanceMethod (qy 6) ∈ zTb := ⟨⟨zTb_of (i := 269) rfl rfl, zTb_of (i := 266) (by decide +kernel) (by decide +kernel)⟩, zTb_of (i := 94) (by decide +kernel) (by decide +kernel), zTb_of (i := 268) (by decide +kernel) (by decide +kernel)⟩
set_option maxRecDepth 100000 in
theorem qw7 : (Cond.code (qy 7) (qb 7) (qn 7) none ∈ zTb ∧ Cond.instantiable (zC 7) (znf 7) ∈ zTb) ∧ Cond.initialized (zC 7) ∈ zTb ∧ Cond.instanceMethod (qy 7) ∈ zTb := ⟨⟨zTb_of (i := 104) rfl rfl, zTb_of (i := 101) (by decide +kernel) (by decide +kernel)⟩, zTb_of (i := 88) (by decide +kernel) (by decide +kernel), zTb_of (i := 103) (by decide +kernel) (by decide +kernel)⟩
set_option maxRecDepth 100000 in
theorem qw8 : (Cond.code (qy 8) (qb 8) (qn 8) none ∈ zTb ∧ Cond.instantiable (zC 8) (znf 8) ∈ zTb) ∧ Cond.initialized (zC 8) ∈ zTb ∧ Cond.instanceMethod (qy 8) ∈ zTb := ⟨⟨zTb_of (i := 817) rfl rfl, zTb_of (i := 814) (by decide +kernel) (by decide +kernel)⟩, zTb_of (i := 96) (by decide +kernel) (by decide +kernel), zTb_of (i := 816) (by decide +kernel) (by decide +kernel)⟩
theorem qw {j : Nat} (h : j < 9) : (Cond.code (qy j) (qb j) (qn j) none ∈ zTb ∧ Cond.instantiable (zC j) (znf j) ∈ zTb) ∧ Cond.initialized (zC j) ∈ zTb ∧ Cond.instanceMethod (qy j) ∈ zTb := z9 (P := fun j => (Cond.code (qy j) (qb j) (qn j) none ∈ zTb ∧ Cond.instantiable (zC j) (znf j) ∈ zTb) ∧ Cond.initialized (zC j) ∈ zTb ∧ Cond.instanceMethod (qy j) ∈ zTb) h qw0 qw1 qw2 qw3 qw4 qw5 qw6 qw7 qw8
theorem qy_ok : ∀ j, j < 9 → ((qy j).cls = zC j ∧ (qy j).name = "<init>" ∧ (qy j).cls ≠ "java/lang/invoke/MethodHandle" ∧ (qy j).cls ≠ "java/lang/invoke/VarHandle" ∧ (parseMethodDescriptor (qy j).desc).map (fun d => d.parameters.length) = some (qna j)) ∧ plainName (qy j).cls = true ∧ qn j ≤ 41 := by decide +kernel
theorem qdf_ok : ∀ j, j < 9 → (qdf j).length = znf j := by decide +kernel
theorem q_arr : Cond.arrayClass .int ∈ zTb := zTb_of (i := 136) (by decide +kernel) (by decide +kernel)
theorem q_over : Cond.arrayOver (.object "ApronStrings$Sheet") ∈ lw_tbl := List.mem_of_getElem? (i := 294) (by decide +kernel)
