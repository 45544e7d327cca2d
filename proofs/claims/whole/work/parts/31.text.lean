/-! Pure mathematics: the two texts. -/
theorem zgd_T {β : Type} {f : Option β} : zgd True f = f := rfl
theorem zin_T {i n : Nat} (h : i < n) (hn : n < 2147483648) : zin (nI i) n = True := eq_true (zin_n h hn)
theorem l61 : (61 : Int32) = nI 61 := rfl
theorem l128 : (128 : Int32) = nI 128 := rfl
theorem l394 : (394 : Int32) = nI 394 := rfl
theorem lm1 : -(nI 1) = nO 0 := rfl
theorem n_m1 : nI 0 + nO 0 = nO 0 := rfl
theorem n_pred {a : Nat} (h : 1 ≤ a) : nI a + nO 0 = nI (a - 1) := by
  have h1 : nI a = nI (a - 1) + nI 1 := by rw [n_add]; congr 1; omega
  rw [h1]
  generalize nI (a - 1) = x
  apply Int32.toBitVec_inj.mp
  show x.toBitVec + 1#32 + (-1#32) = x.toBitVec
  bv_omega
/-- two numbers joined by a sign -/
def jn (c x y : Int32) : Int32 := (fL_joined c x y).getD 0
theorem L_joined (c x y : Int32) : fL_joined c x y = some (jn c x y) := by
  have h : (fL_joined c x y).isSome = true := by
    unfold fL_joined
    repeat' split
    all_goals first | rfl | skip
    all_goals (unfold zgd; rw [if_pos (by assumption)]; rfl)
  unfold jn
  cases hq : fL_joined c x y with
  | none => rw [hq] at h; cases h
  | some v => rfl
theorem i32_div_m1 (x : Int32) : x / (-1) = -x := by
  apply Int32.toBitVec_inj.mp
  show x.toBitVec.sdiv (-(1#32)) = -x.toBitVec
  rw [BitVec.sdiv_neg (by decide), BitVec.sdiv_one]
def ten (c : Int32) : Prop := c = 37 ∨ c = 38 ∨ c = 42 ∨ c = 43 ∨ c = 45 ∨ c = 47 ∨ c = 60 ∨ c = 61 ∨ c = 62 ∨ c = 124
theorem M_joined {c x y : Int32} (h : ten c) : fM_joined c x y = some (jn c x y) := by
  unfold jn
  rcases h with h | h | h | h | h | h | h | h | h | h <;> subst h <;> unfold fM_joined fL_joined
  · simp only [show ((37 : Int32) = 38) = False from by decide, show ((37 : Int32) = 42) = False from by decide, show ((37 : Int32) = 43) = False from by decide, show ((37 : Int32) = 45) = False from by decide, show ((37 : Int32) = 47) = False from by decide, show ((37 : Int32) = 60) = False from by decide, show ((37 : Int32) = 61) = False from by decide, show ((37 : Int32) = 62) = False from by decide, show ((37 : Int32) = 124) = False from by decide, if_false, if_true]
    by_cases h0 : y = 0
    · rw [if_pos h0, if_pos h0]; rfl
    · rw [if_neg h0, if_neg h0]
      by_cases h1 : y = -1
      · rw [if_pos h1]
        subst h1
        unfold zgd
        rw [if_pos (by decide), i32_div_m1]
        show some 0 = some (x - -x * -1)
        congr 1
        apply Int32.toBitVec_inj.mp
        show 0#32 = x.toBitVec - (-x.toBitVec) * (-1#32)
        rw [BitVec.mul_comm, ← BitVec.neg_eq_neg_one_mul, BitVec.neg_neg, BitVec.sub_self]
      · rw [if_neg h1]
        unfold zgd
        rw [if_pos h0]
        rfl
  all_goals simp (decide := true) only [if_false, if_true]
  all_goals first | done | skip
  · split
    · rfl
    · split <;> rfl
  · rfl
  · rfl
  · rfl
  · by_cases h0 : y = 0
    · rw [if_pos h0, if_pos h0]; rfl
    · rw [if_neg h0, if_neg h0]
      by_cases h1 : y = -1
      · rw [if_pos h1]
        subst h1
        unfold zgd
        rw [if_pos (by decide), i32_div_m1]
        rfl
      · rw [if_neg h1]
        unfold zgd
        rw [if_pos h0]
        rfl
  · split <;> rfl
  · split <;> rfl
  · split <;> rfl
  · split
    · split <;> rfl
    · rfl
/-- the value of a text -/
def su (S : Nat → Int32) (k : Nat) (v : Int32) : Nat → Int32 := fun j => if j = k then v else S j
def eT (T : Nat → Int32) (a b c : Int32) : Nat → Nat → Nat → (Nat → Int32) → Int32
  | 0, _, _, S => S 0
  | n + 1, p, d, S => if 10000 ≤ T p then (if 20000 ≤ T p then (if T p = 20033 then eT T a b c n (p + 1) d (su S (d - 1) (if S (d - 1) = 0 then 1 else 0)) else eT T a b c n (p + 1) (d - 1) (su S (d - 2) (jn (T p - 20000) (S (d - 2)) (S (d - 1))))) else eT T a b c n (p + 1) (d + 1) (su S d (if T p = 10000 then a else if T p = 10001 then b else c))) else eT T a b c n (p + 1) (d + 1) (su S d (T p))
/-- a text that can be worked out -/
def wT (T : Nat → Int32) : Nat → Nat → Nat → Prop
  | 0, _, d => 1 ≤ d
  | n + 1, p, d => if 10000 ≤ T p then (if 20000 ≤ T p then (if T p = 20033 then 1 ≤ d ∧ wT T n (p + 1) d else (2 ≤ d ∧ ten (T p - 20000) ∧ wT T n (p + 1) (d - 1))) else ((T p = 10000 ∨ T p = 10001 ∨ T p = 10002) ∧ wT T n (p + 1) (d + 1))) else wT T n (p + 1) (d + 1)
theorem zup_o {σ : zS} {c i k : Nat} {v : Int32} {c' i' k' : Nat} (h : c' ≠ c) : zup σ c i k v c' i' k' = σ c' i' k' := by
  unfold zup
  rw [if_neg (fun q => h q.1)]
theorem zup_s {σ : zS} {c i k : Nat} {v : Int32} : zup σ c i k v c i k = v := by
  unfold zup
  rw [if_pos ⟨rfl, rfl, rfl⟩]
theorem zup_k {σ : zS} {c i k k' : Nat} {v : Int32} (h : k' ≠ k) : zup σ c i k v c i k' = σ c i k' := by
  unfold zup
  rw [if_neg (fun q => h q.2.2)]
