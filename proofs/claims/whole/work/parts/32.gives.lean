/-! Pure mathematics: what a text gives, on both sides. -/
theorem i32_nn {x : Int32} : 0 ≤ x ↔ x.toBitVec.msb = false := by
  rw [i32_le]
  show (0 : Int) ≤ x.toBitVec.toInt ↔ _
  rw [BitVec.msb_eq_toInt]
  simp
theorem i32_xor4 (x : Int32) : (0 ≤ x ^^^ 4) ↔ 0 ≤ x := by
  rw [i32_nn, i32_nn]
  show (x.toBitVec ^^^ 4#32).msb = false ↔ _
  rw [BitVec.msb_xor]
  have : (4#32 : BitVec 32).msb = false := by decide
  rw [this, Bool.xor_false]
theorem tmod_np {a : Int} (h : a ≤ 0) : a.tmod 4 ≤ 0 := by
  have := Int.tmod_nonneg (a := -a) 4 (by omega)
  rw [Int.neg_tmod] at this
  omega
theorem i32_r4 (x : Int32) : (x - x / 4 * 4).toInt = x.toInt.tmod 4 := by
  have h1 := x.toInt_lt
  have h2 := x.le_toInt
  have hq : (x / 4).toInt = x.toInt.tdiv 4 := Int32.toInt_div_of_ne_right x 4 (by decide)
  have he := Int.tmod_add_tdiv_mul x.toInt 4
  have hu := Int.tmod_lt_of_pos x.toInt (b := 4) (by omega)
  have hl := Int.lt_tmod_of_pos x.toInt (b := 4) (by omega)
  have h4 : (4 : Int32).toInt = 4 := by decide
  have hs : (0 ≤ x.toInt → 0 ≤ x.toInt.tmod 4) := fun q => Int.tmod_nonneg 4 q
  have ht : (x.toInt ≤ 0 → x.toInt.tmod 4 ≤ 0) := fun q => tmod_np q
  rw [Int32.toInt_sub, Int32.toInt_mul, hq, h4]
  rw [Int.bmod_eq_of_le (n := x.toInt.tdiv 4 * 4) (by omega) (by omega)]
  rw [Int.bmod_eq_of_le (by omega) (by omega)]
  omega
theorem fM_restOf_eq (x : Int32) : fM_restOf x = fJ_floorMod x 4 := by
  unfold fM_restOf fJ_floorMod zlt
  dsimp only
  rw [zgd_t (by decide)]
  have hr := i32_r4 x
  have he := Int.tmod_add_tdiv_mul x.toInt 4
  by_cases h : 0 ≤ x
  · rw [if_pos ((i32_xor4 x).mpr h)]
    have : (0 : Int32) ≤ x - x / 4 * 4 := by
      rw [i32_le, hr]
      exact Int.tmod_nonneg 4 (i32_le.mp h)
    rw [if_pos this]
  · rw [if_neg (fun q => h ((i32_xor4 x).mp q))]
    have hx : x.toInt < 0 := by
      rw [i32_le] at h
      have : (0 : Int32).toInt = 0 := by decide
      omega
    have hn : x.toInt.tmod 4 ≤ 0 := tmod_np (by omega)
    by_cases h0 : x - x / 4 * 4 = 0
    · rw [if_pos h0, h0, if_pos (by decide)]
    · rw [if_neg h0, if_neg]
      intro q
      apply h0
      rw [i32_le, hr] at q
      rw [i32_eq, hr]
      have : (0 : Int32).toInt = 0 := by decide
      omega
/-- what a text gives to its use -/
def fE (u : Nat) (v : Int32) : Nat := if u = 0 then (v.toInt % 4).toNat else (max 0 (min 9 v.toInt)).toNat
theorem fE_le (u : Nat) (v : Int32) : fE u v ≤ 9 := by
  unfold fE
  split <;> omega
theorem fE_0 (v : Int32) : fE 0 v ≤ 3 := by
  unfold fE
  rw [if_pos rfl]
  omega
theorem fJ_floorMod_4 (x : Int32) : fJ_floorMod x 4 = some (nI (fE 0 x)) := by
  rw [← fM_restOf_eq]
  unfold fM_restOf zlt fE
  dsimp only
  rw [if_pos rfl]
  have hr := i32_r4 x
  have he := Int.tmod_add_tdiv_mul x.toInt 4
  have hu := Int.tmod_lt_of_pos x.toInt (b := 4) (by omega)
  have hl := Int.lt_tmod_of_pos x.toInt (b := 4) (by omega)
  have h0 : (0 : Int32).toInt = 0 := by decide
  have h4 : (4 : Int32).toInt = 4 := by decide
  by_cases h : (0 : Int32) ≤ x - x / 4 * 4
  · rw [if_pos h]
    rw [i32_le, hr] at h
    congr 1
    rw [i32_eq, hr, n_toInt (by omega)]
    omega
  · rw [if_neg h]
    rw [i32_le, hr] at h
    congr 1
    rw [i32_eq, Int32.toInt_add, hr, n_toInt (by omega), Int.bmod_eq_of_le (by omega) (by omega)]
    omega
theorem fJ_mm (x : Int32) : ((fJ_min 9 x).bind fun r => (fJ_max 0 r)) = some (nI (fE 1 x)) := by
  unfold fJ_min fJ_max fE
  have h0 : (0 : Int32).toInt = 0 := by decide
  have h9 : (9 : Int32).toInt = 9 := by decide
  rw [if_neg (show ¬ (1 = 0) by omega)]
  by_cases h : x < 9
  · rw [if_pos h, zbd_s]
    rw [i32_lt] at h
    by_cases h2 : 0 < x
    · rw [if_pos h2]
      rw [i32_lt] at h2
      congr 1
      rw [i32_eq, n_toInt (by omega)]
      omega
    · rw [if_neg h2]
      rw [i32_lt] at h2
      congr 1
      rw [i32_eq, n_toInt (by omega)]
      omega
  · rw [if_neg h, zbd_s]
    rw [i32_lt] at h
    rw [if_pos (by decide)]
    congr 1
    rw [i32_eq, n_toInt (by omega)]
    omega
theorem fM_held_9 (x : Int32) : fM_held x 0 9 = some (nI (fE 1 x)) := by
  unfold fM_held fE
  have h0 : (0 : Int32).toInt = 0 := by decide
  have h9 : (9 : Int32).toInt = 9 := by decide
  rw [if_neg (show ¬ (1 = 0) by omega)]
  by_cases h : 0 ≤ x
  · rw [if_pos h]
    rw [i32_le] at h
    by_cases h2 : x ≤ 9
    · rw [if_pos h2]
      rw [i32_le] at h2
      congr 1
      rw [i32_eq, n_toInt (by omega)]
      omega
    · rw [if_neg h2]
      rw [i32_le] at h2
      congr 1
      rw [i32_eq, n_toInt (by omega)]
      omega
  · rw [if_neg h]
    rw [i32_le] at h
    congr 1
    rw [i32_eq, n_toInt (by omega)]
    omega
theorem fM_held_n {x a b : Nat} (hx : x < 2147483648) (ha : a < 2147483648) (hb : b < 2147483648) (hab : a ≤ b) : fM_held (nI x) (nI a) (nI b) = some (nI (max a (min x b))) := by
  unfold fM_held
  by_cases h : a ≤ x
  · by_cases h2 : x ≤ b
    · rw [if_pos ((nI_leI ha hx).mpr h), if_pos ((nI_leI hx hb).mpr h2)]
      congr 2
      omega
    · rw [if_pos ((nI_leI ha hx).mpr h), if_neg (fun q => h2 ((nI_leI hx hb).mp q))]
      congr 2
      omega
  · rw [if_neg (fun q => h ((nI_leI ha hx).mp q))]
    congr 2
    omega
