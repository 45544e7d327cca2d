/-! What the tables say of the Statement's words. -/
theorem zTb_of {i : Nat} {w : Cond} (h : lw_tbl[i]? = some w) (hg : goodWord w = true) : w ∈ zTb := List.mem_filter.mpr ⟨List.mem_of_getElem? h, hg⟩
theorem zTb_good : GoodIn zTb zTb := fun w hw => ⟨hw, good_of_word (List.mem_filter.mp hw).2⟩
theorem z9 {c : Nat} {P : Nat → Prop} (hc : c < 9) (h0 : P 0) (h1 : P 1) (h2 : P 2) (h3 : P 3) (h4 : P 4) (h5 : P 5) (h6 : P 6) (h7 : P 7) (h8 : P 8) : P c := by
  have : c = 0 ∨ c = 1 ∨ c = 2 ∨ c = 3 ∨ c = 4 ∨ c = 5 ∨ c = 6 ∨ c = 7 ∨ c = 8 := by omega
  rcases this with rfl | rfl | rfl | rfl | rfl | rfl | rfl | rfl | rfl <;> assumption
theorem zcl_at {c : Nat} (hc : c < 9) : vwCl[c]? = some (zC c, zT c, znf c) := z9 (P := fun c => vwCl[c]? = some (zC c, zT c, znf c)) hc rfl rfl rfl rfl rfl rfl rfl rfl rfl
theorem zlay0 (f : Nat → Bool) : True := trivial
theorem zlay {c : Nat} (hc : c < 9) : ∀ w ∈ u_ws (zC c) (zT c) (znf c), w ∈ zTb := z9 (P := fun c => ∀ w ∈ u_ws (zC c) (zT c) (znf c), w ∈ zTb) hc (by decide +kernel) (by decide +kernel) (by decide +kernel) (by decide +kernel) (by decide +kernel) (by decide +kernel) (by decide +kernel) (by decide +kernel) (by decide +kernel)
theorem zty_ok {c : Nat} (hc : c < 9) : ∀ k, k < znf c → parseFieldDescriptor (zT c k).2.2.1 = some (zty c k) := z9 (P := fun c => ∀ k, k < znf c → parseFieldDescriptor (zT c k).2.2.1 = some (zty c k)) hc tyX0_ok tyX1_ok tyX2_ok tyX3_ok tyX4_ok tyX5_ok tyX6_ok tyX7_ok tyX8_ok
theorem znm_ok {c : Nat} (hc : c < 9) : ∀ a, a < znf c → ∀ b, b < znf c → a ≠ b → (zT c a).2.1 ≠ (zT c b).2.1 := z9 (P := fun c => ∀ a, a < znf c → ∀ b, b < znf c → a ≠ b → (zT c a).2.1 ≠ (zT c b).2.1) hc nmX0 nmX1 nmX2 nmX3 nmX4 nmX5 nmX6 nmX7 nmX8
/-- what the type of a field of numbers is -/
theorem zty_i {c : Nat} (hc : c < 9) : ∀ k, k < znf c → ∀ i, i < 4 → zfr c k i = none → zty c k = if zfb c k then .boolean else .int := z9 (P := fun c => ∀ k, k < znf c → ∀ i, i < 4 → zfr c k i = none → zty c k = if zfb c k then .boolean else .int) hc (by decide +kernel) (by decide +kernel) (by decide +kernel) (by decide +kernel) (by decide +kernel) (by decide +kernel) (by decide +kernel) (by decide +kernel) (by decide +kernel)
theorem zfr_ok {c : Nat} (hc : c < 9) : ∀ k, k < znf c → ∀ i, i < zcnt c → ∀ q ∈ zfr c k i, q.2 < zcnt q.1 := z9 (P := fun c => ∀ k, k < znf c → ∀ i, i < zcnt c → ∀ q ∈ zfr c k i, q.2 < zcnt q.1) hc (by decide +kernel) (by decide +kernel) (by decide +kernel) (by decide +kernel) (by decide +kernel) (by decide +kernel) (by decide +kernel) (by decide +kernel) (by decide +kernel)
theorem zfT_ok : ∀ q ∈ zfT, (q.2.2.1 < 9 ∧ q.2.2.2.1 < znf q.2.2.1 ∧ (zT q.2.2.1 q.2.2.2.1).1 = zC q.2.2.1) ∧ lw_tbl[q.2.2.2.2]? = some (.fieldLink (zC q.1) q.2.1 (zC q.2.2.1) (zT q.2.2.1 q.2.2.2.1).2.1 (zT q.2.2.1 q.2.2.2.1).2.2.1) ∧ goodWord (.fieldLink (zC q.1) q.2.1 (zC q.2.2.1) (zT q.2.2.1 q.2.2.2.1).2.1 (zT q.2.2.1 q.2.2.2.1).2.2.1) = true := by decide +kernel
theorem zf_ok {o x c k : Nat} (h : zf o x = some (c, k)) : (c < 9 ∧ k < znf c ∧ (zT c k).1 = zC c) ∧ .fieldLink (zC o) x (zC c) (zT c k).2.1 (zT c k).2.2.1 ∈ zTb := by
  unfold zf at h
  obtain ⟨q, hq, he⟩ := Option.map_eq_some_iff.mp h
  have h1 := List.find?_some hq
  have h2 := zfT_ok q (List.mem_of_find?_eq_some hq)
  obtain ⟨a, b, c', k', w⟩ := q
  simp only [Bool.and_eq_true, beq_iff_eq] at h1
  obtain ⟨rfl, rfl⟩ := h1
  simp only [Prod.mk.injEq] at he
  obtain ⟨rfl, rfl⟩ := he
  exact ⟨h2.1, zTb_of h2.2.1 h2.2.2⟩
def zsC : Nat → String × String × String
  | 51 => ("ApronStrings$Reader", "NAMES", "[C")
  | 52 => ("ApronStrings$Voices", "ABOVE", "[I")
  | _ => ("ApronStrings$Voices", "BODIES", "[I")
theorem zgT_ok : ∀ q ∈ zgT, (51 ≤ q.2.2.1 ∧ q.2.2.1 < 54) ∧ lw_tbl[q.2.2.2]? = some (.fieldLink (zC q.1) q.2.1 (zsC q.2.2.1).1 (zsC q.2.2.1).2.1 (zsC q.2.2.1).2.2) ∧ goodWord (.fieldLink (zC q.1) q.2.1 (zsC q.2.2.1).1 (zsC q.2.2.1).2.1 (zsC q.2.2.1).2.2) = true := by decide +kernel
theorem zg_ok {o x t : Nat} (h : zg o x = some t) : (51 ≤ t ∧ t < 54) ∧ .fieldLink (zC o) x (zsC t).1 (zsC t).2.1 (zsC t).2.2 ∈ zTb := by
  unfold zg at h
  obtain ⟨q, hq, he⟩ := Option.map_eq_some_iff.mp h
  have h1 := List.find?_some hq
  have h2 := zgT_ok q (List.mem_of_find?_eq_some hq)
  obtain ⟨a, b, c', w⟩ := q
  simp only [Bool.and_eq_true, beq_iff_eq] at h1
  obtain ⟨rfl, rfl⟩ := h1
  simp only at he
  subst he
  exact ⟨h2.1, zTb_of h2.2.1 h2.2.2⟩
theorem zkT_ok : ∀ q ∈ zkT, lw_tbl[q.2.2.2]? = some (.constant (zC q.1) q.2.1 q.2.2.1) ∧ goodWord (.constant (zC q.1) q.2.1 q.2.2.1) = true := by decide +kernel
theorem zk_ok {o x : Nat} {v : Int32} (h : zk o x = some v) : .constant (zC o) x v ∈ zTb := by
  unfold zk at h
  obtain ⟨q, hq, he⟩ := Option.map_eq_some_iff.mp h
  have h1 := List.find?_some hq
  have h2 := zkT_ok q (List.mem_of_find?_eq_some hq)
  obtain ⟨a, b, c', w⟩ := q
  simp only [Bool.and_eq_true, beq_iff_eq] at h1
  obtain ⟨rfl, rfl⟩ := h1
  simp only at he
  subst he
  exact zTb_of h2.1 h2.2
theorem zkLT_ok : ∀ q ∈ zkLT, lw_tbl[q.2.2.2]? = some (.constantLong (zC q.1) q.2.1 q.2.2.1) ∧ goodWord (.constantLong (zC q.1) q.2.1 q.2.2.1) = true := by decide +kernel
theorem zkL_ok {o x : Nat} {v : Int64} (h : zkL o x = some v) : .constantLong (zC o) x v ∈ zTb := by
  unfold zkL at h
  obtain ⟨q, hq, he⟩ := Option.map_eq_some_iff.mp h
  have h1 := List.find?_some hq
  have h2 := zkLT_ok q (List.mem_of_find?_eq_some hq)
  obtain ⟨a, b, c', w⟩ := q
  simp only [Bool.and_eq_true, beq_iff_eq] at h1
  obtain ⟨rfl, rfl⟩ := h1
  simp only at he
  subst he
  exact zTb_of h2.1 h2.2
theorem zaT_ok : ∀ q ∈ zaT, lw_tbl[q.2.2]? = some (.methodLink (zC q.1) q.2.1 arraycopyName) ∧ goodWord (.methodLink (zC q.1) q.2.1 arraycopyName) = true := by decide +kernel
theorem za_ok {o x : Nat} (h : za o x = true) : .methodLink (zC o) x arraycopyName ∈ zTb := by
  unfold za at h
  obtain ⟨q, hq⟩ := Option.isSome_iff_exists.mp h
  have h1 := List.find?_some hq
  have h2 := zaT_ok q (List.mem_of_find?_eq_some hq)
  obtain ⟨a, b, w⟩ := q
  simp only [Bool.and_eq_true, beq_iff_eq] at h1
  obtain ⟨rfl, rfl⟩ := h1
  exact zTb_of h2.1 h2.2
theorem zcopy_words : Cond.native arraycopyName ∈ zTb ∧ Cond.static arraycopyName ∈ zTb ∧ Cond.initialized "java/lang/System" ∈ zTb := ⟨zTb_of (i := 553) (by decide +kernel) (by decide +kernel), zTb_of (i := 552) (by decide +kernel) (by decide +kernel), zTb_of (i := 98) (by decide +kernel) (by decide +kernel)⟩
theorem zcT_ok : ∀ q ∈ zcT, q.2.2.1 < zMN ∧ zo q.2.2.1 ≠ 9 ∧ lw_tbl[q.2.2.2]? = some (.methodLink (zC q.1) q.2.1 (zy q.2.2.1)) ∧ goodWord (.methodLink (zC q.1) q.2.1 (zy q.2.2.1)) = true := by decide +kernel
theorem zc_ok {o x mj : Nat} (h : zc o x = some mj) : mj < zMN ∧ zo mj ≠ 9 ∧ .methodLink (zC o) x (zy mj) ∈ zTb := by
  unfold zc at h
  obtain ⟨q, hq, he⟩ := Option.map_eq_some_iff.mp h
  have h1 := List.find?_some hq
  have h2 := zcT_ok q (List.mem_of_find?_eq_some hq)
  obtain ⟨a, b, c', w⟩ := q
  simp only [Bool.and_eq_true, beq_iff_eq] at h1
  obtain ⟨rfl, rfl⟩ := h1
  simp only at he
  subst he
  exact ⟨h2.1, h2.2.1, zTb_of h2.2.2.1 h2.2.2.2⟩
