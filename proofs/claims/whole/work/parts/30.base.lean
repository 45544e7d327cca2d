/-! Pure mathematics: numbers. -/
theorem zlt_eq {α β : Type} (a : α) (f : α → Option β) : zlt a f = f a := rfl
theorem zgd_t {β : Type} {p : Prop} [Decidable p] {f : Option β} (h : p) : zgd p f = f := if_pos h
theorem zb2_s {α β γ : Type} (a : α) (s : γ) (f : α → γ → Option β) : zb2 (some (a, s)) f = f a s := rfl
theorem zbd_s {α β : Type} (a : α) (f : α → Option β) : (some a).bind f = f a := rfl
theorem zin_n {i n : Nat} (h : i < n) (hn : n < 2147483648) : zin (nI i) n := nI_in h hn
theorem n_lt {a b : Nat} (ha : a < 2147483648) (hb : b < 2147483648) : (nI a < nI b) = (a < b) := propext (nI_ltI ha hb)
theorem n_le {a b : Nat} (ha : a < 2147483648) (hb : b < 2147483648) : (nI a ≤ nI b) = (a ≤ b) := propext (nI_leI ha hb)
theorem n_eq {a b : Nat} (ha : a < 2147483648) (hb : b < 2147483648) : (nI a = nI b) = (a = b) := propext (nI_eq ha hb)
theorem n_cl {a : Nat} (ha : a < 2147483648) : (nI a).toNatClampNeg = a := nI_clamp ha
theorem n_add (a b : Nat) : nI a + nI b = nI (a + b) := nI_add a b
theorem n_mul (a b : Nat) : nI a * nI b = nI (a * b) := pk_mul a b
theorem n_sub {a b : Nat} (h : b ≤ a) : nI a - nI b = nI (a - b) := pk_sub h
theorem n_div {a d : Nat} (ha : a < 2147483648) (h0 : 0 < d) (hd : d < 2147483648) : nI a / nI d = nI (a / d) := pk_div ha h0 hd
theorem n_rem {a d : Nat} (ha : a < 2147483648) (h0 : 0 < d) (hd : d < 2147483648) : nI a - nI a / nI d * nI d = nI (a % d) := pk_rem ha h0 hd
theorem n_toInt {a : Nat} (ha : a < 2147483648) : (nI a).toInt = (a : Int) := nI_toInt ha
theorem l0 : (0 : Int32) = nI 0 := rfl
theorem l1 : (1 : Int32) = nI 1 := rfl
theorem l2 : (2 : Int32) = nI 2 := rfl
theorem l3 : (3 : Int32) = nI 3 := rfl
theorem l4 : (4 : Int32) = nI 4 := rfl
theorem l5 : (5 : Int32) = nI 5 := rfl
theorem l6 : (6 : Int32) = nI 6 := rfl
theorem l7 : (7 : Int32) = nI 7 := rfl
theorem l8 : (8 : Int32) = nI 8 := rfl
theorem l9 : (9 : Int32) = nI 9 := rfl
theorem l10 : (10 : Int32) = nI 10 := rfl
theorem l12 : (12 : Int32) = nI 12 := rfl
theorem l24 : (24 : Int32) = nI 24 := rfl
theorem l30 : (30 : Int32) = nI 30 := rfl
theorem l32 : (32 : Int32) = nI 32 := rfl
theorem l40 : (40 : Int32) = nI 40 := rfl
theorem l60 : (60 : Int32) = nI 60 := rfl
theorem l63 : (63 : Int32) = nI 63 := rfl
theorem l64 : (64 : Int32) = nI 64 := rfl
theorem l69 : (69 : Int32) = nI 69 := rfl
theorem l99 : (99 : Int32) = nI 99 := rfl
theorem l125 : (125 : Int32) = nI 125 := rfl
theorem l310 : (310 : Int32) = nI 310 := rfl
theorem l370 : (370 : Int32) = nI 370 := rfl
theorem l9999 : (9999 : Int32) = nI 9999 := rfl
theorem l10000 : (10000 : Int32) = nI 10000 := rfl
theorem l20000 : (20000 : Int32) = nI 20000 := rfl
theorem l20033 : (20033 : Int32) = nI 20033 := rfl
theorem l100 : (100 : Int32) = nI 100 := rfl
theorem l115 : (115 : Int32) = nI 115 := rfl
theorem l111 : (111 : Int32) = nI 111 := rfl
theorem l121 : (121 : Int32) = nI 121 := rfl
/-- a number that may be wanting: 0 for none -/
def nO (x : Nat) : Int32 := if x = 0 then -1 else nI (x - 1)
theorem nO_s (x : Nat) : nO (x + 1) = nI x := by simp [nO]
theorem nO_pos {x : Nat} (h : x ≠ 0) : nO x = nI (x - 1) := by simp [nO, h]
theorem nO_0 : nO 0 = -1 := rfl
theorem nO_lt {x : Nat} (hx : x < 2147483648) : (nO x < nI 0) = (x = 0) := by
  apply propext
  by_cases h : x = 0
  · subst h
    exact ⟨fun _ => rfl, fun _ => by decide⟩
  · rw [nO_pos h, nI_ltI (by omega) (by omega)]
    omega
theorem nO_le {x : Nat} (hx : x < 2147483648) : (nI 0 ≤ nO x) = (x ≠ 0) := by
  apply propext
  by_cases h : x = 0
  · subst h
    exact ⟨fun q => absurd q (by decide), fun q => absurd rfl q⟩
  · rw [nO_pos h, nI_leI (by omega) (by omega)]
    omega
theorem nO_eqn {x j : Nat} (hx : x < 2147483648) (hj : j < 2147483648) : (nO x = nI j) = (x = j + 1) := by
  apply propext
  by_cases h : x = 0
  · subst h
    refine ⟨fun q => ?_, fun q => by omega⟩
    have h1 : (nI j).toInt = (-1 : Int32).toInt := by rw [← q]; rfl
    rw [nI_toInt hj] at h1
    have : ((-1 : Int32)).toInt = -1 := by decide
    omega
  · rw [nO_pos h, nI_eq (by omega) hj]
    omega
/-- how far two numbers are apart -/
def nD (a b : Nat) : Nat := if a ≤ b then b - a else a - b
theorem i32_lt {a b : Int32} : a < b ↔ a.toInt < b.toInt := Int32.lt_iff_toInt_lt
theorem i32_le {a b : Int32} : a ≤ b ↔ a.toInt ≤ b.toInt := Int32.le_iff_toInt_le
theorem i32_eq {a b : Int32} : a = b ↔ a.toInt = b.toInt := Int32.toInt_inj.symm
theorem n_neg {a b : Nat} (h : a ≤ b) : -(nI a - nI b) = nI (b - a) := by
  have h1 : nI b = nI a + nI (b - a) := by rw [n_add]; congr 1; omega
  rw [h1]
  generalize nI a = x
  generalize nI (b - a) = y
  apply Int32.toBitVec_inj.mp
  simp
  bv_omega
theorem fJ_abs_n {a b : Nat} (ha : a < 1073741824) (hb : b < 1073741824) : fJ_abs (nI a - nI b) = some (nI (nD a b)) := by
  unfold fJ_abs nD
  by_cases h : b ≤ a
  · rw [n_sub h, if_pos (by rw [l0, n_le (by omega) (by omega)]; omega)]
    by_cases h2 : a ≤ b
    · rw [if_pos h2]
      congr 2
      omega
    · rw [if_neg h2]
  · have hneg := pk_sneg (a := a) (b := b) hb (by omega)
    rw [if_neg (by rw [i32_le]; rw [i32_lt] at hneg; omega), if_pos (by omega), n_neg (by omega)]
theorem fM_off_n {a b : Nat} (ha : a < 1073741824) (hb : b < 1073741824) : fM_off (nI a) (nI b) = some (nI (nD a b)) := by
  unfold fM_off nD
  by_cases h : b ≤ a
  · rw [if_pos ((nI_leI (by omega) (by omega)).mpr h), n_sub h]
    by_cases h2 : a ≤ b
    · rw [if_pos h2]
      congr 2
      omega
    · rw [if_neg h2]
  · rw [if_neg (fun q => h ((nI_leI (by omega) (by omega)).mp q)), if_pos (by omega), n_sub (by omega)]
