/-! Pure mathematics: the public answers, third lot: seeds, loose days. -/
def FZ (b : Nat) (σ σ' : zS) : Prop := ∀ c i k, c ≠ 11 → ¬ (c = 2 ∧ i = b) → ¬ (14 ≤ c ∧ c ≤ 21 ∧ i = b) → σ' c i k = σ c i k
def FMZ (σ σ' : zS) : Prop := ∀ c i k, c ≠ 33 → c ≠ 36 → c ≠ 37 → ¬ (c = 8 ∧ k = 13) → ¬ (c = 30 ∧ (k = 0 ∨ k = 1 ∨ (4 ≤ k ∧ k < 60))) → σ' c i k = σ c i k
theorem FZ_C {b : Nat} {σ σ' : zS} (h : FC b σ σ') : FZ b σ σ' := fun c i k a1 a2 a3 => h c i k a1 (by omega) a3
theorem FZ_t {b : Nat} {σ σ' σ'' : zS} (h : FZ b σ σ') (h' : FZ b σ' σ'') : FZ b σ σ'' := fun c i k a1 a2 a3 => (h' c i k a1 a2 a3).trans (h c i k a1 a2 a3)
theorem FZ_u {b k : Nat} {v : Int32} {σ : zS} : FZ b σ (zup σ 2 b k v) := by
  intro c i k' a1 a2 a3
  unfold zup
  rw [if_neg (by omega)]
theorem FMZ_M {σ σ' : zS} (h : FM σ σ') : FMZ σ σ' := fun c i k a1 a2 a3 a4 a5 => h c i k a1 a2 a3 a4 (by omega)
theorem FMZ_t {σ σ' σ'' : zS} (h : FMZ σ σ') (h' : FMZ σ' σ'') : FMZ σ σ'' := fun c i k a1 a2 a3 a4 a5 => (h' c i k a1 a2 a3 a4 a5).trans (h c i k a1 a2 a3 a4 a5)
theorem FMZ_u {k : Nat} {v : Int32} {σ : zS} (h : k = 0 ∨ k = 1 ∨ (4 ≤ k ∧ k < 60)) : FMZ σ (zup σ 30 0 k v) := by
  intro c i k' a1 a2 a3 a4 a5
  unfold zup
  rw [if_neg (by omega)]
theorem VM_Z {b : Nat} {σ s : zS} {P : zP} (h : VM σ P) (hC : FZ b σ s) : VM s P := VM_e h (fun k _ => hC 30 0 k (by omega) (by omega) (by omega))
theorem TM_Z {b : Nat} {σ s : zS} {T : Nat → Nat → Int32} {M : Nat → Nat} (h : TM σ T M) (hC : FZ b σ s) : TM s T M := by
  intro u hu
  obtain ⟨h1, h3⟩ := h u hu
  have e : ∀ k, s 30 0 k = σ 30 0 k := fun k => hC 30 0 k (by omega) (by omega) (by omega)
  refine ⟨by rw [e]; exact h1, fun k hk => ?_⟩
  rw [e, e]
  exact h3 k hk
theorem TM_MZ {σ s : zS} {T : Nat → Nat → Int32} {M : Nat → Nat} (h : TM σ T M) (hM : FMZ σ s) : TM s T M := by
  intro u hu
  obtain ⟨h1, h3⟩ := h u hu
  have e : ∀ k, 60 ≤ k → s 30 0 k = σ 30 0 k := fun k hk => hM 30 0 k (by omega) (by omega) (by omega) (by omega) (by omega)
  refine ⟨by rw [e _ (by omega)]; exact h1, fun k hk => ?_⟩
  rw [e _ (by omega), e _ (by omega)]
  exact h3 k hk
theorem TC_Z {b b' : Nat} {σ σ' : zS} {T : Nat → Nat → Int32} {M : Nat → Nat} (h : TC b σ T M) (hf : FZ b' σ σ') : TC b σ' T M := by
  intro u hu
  obtain ⟨h1, h2, h3⟩ := h u hu
  have e : ∀ c i k, (c = 0 ∨ c = 10) → σ' c i k = σ c i k := fun c i k hc => hf c i k (by omega) (by omega) (by omega)
  exact ⟨by rw [e _ _ _ (by omega)]; exact h1, by rw [e _ _ _ (by omega)]; exact h2, fun k hk => by rw [e _ _ _ (by omega)]; exact h3 k hk⟩
theorem VC_MZ {σ s : zS} {P : zP} (h : VC 0 σ P) (hM : FMZ σ s) : VC 0 s P := by
  obtain ⟨h1, h2, h3, h4, h5⟩ := h
  have e : ∀ c k, (c = 2 ∨ (14 ≤ c ∧ c ≤ 20)) → s c 0 k = σ c 0 k := fun c k hc => hM c 0 k (by omega) (by omega) (by omega) (by omega) (by omega)
  exact ⟨fun w i hw hi => by rw [e _ _ (by omega)]; exact h1 w i hw hi, fun j hj => by rw [e _ _ (by omega)]; exact h2 j hj, by rw [e _ _ (by omega)]; exact h3, by rw [e _ _ (by omega)]; exact h4, by rw [e _ _ (by omega)]; exact h5⟩
theorem TC_MZ {b : Nat} {σ σ' : zS} {T : Nat → Nat → Int32} {M : Nat → Nat} (h : TC b σ T M) (hf : FMZ σ σ') : TC b σ' T M := by
  intro u hu
  obtain ⟨h1, h2, h3⟩ := h u hu
  have e : ∀ c i k, (c = 0 ∨ c = 10) → σ' c i k = σ c i k := fun c i k hc => hf c i k (by omega) (by omega) (by omega) (by omega) (by omega)
  exact ⟨by rw [e _ _ _ (by omega)]; exact h1, by rw [e _ _ _ (by omega)]; exact h2, fun k hk => by rw [e _ _ _ (by omega)]; exact h3 k hk⟩
theorem CX_movez {σ s τ : zS} {P P' : zP} {T : Nat → Nat → Int32} {M : Nat → Nat} (h : CX σ P T M) (hC : FZ 0 σ s) (hM : FMZ s τ) (v1 : VC 0 s P') (v2 : VM τ P') (hP : PI P') (hd : P' 7 1 ≤ 9999 ∧ PJ P') (hz : τ 2 0 12 = τ 30 0 1) : CX τ P' T M ∧ FR σ τ := by
  obtain ⟨c1, c2, c3, c3', c4, c5, c6, c7, c8, c9, c10⟩ := h
  have e : ∀ c i k, (c = 26 ∨ c = 34 ∨ c = 3 ∨ c = 22 ∨ (c = 30 ∧ (60 ≤ k ∨ k = 2 ∨ k = 3))) → τ c i k = σ c i k := fun c i k hc => (hM c i k (by omega) (by omega) (by omega) (by omega) (by omega)).trans (hC c i k (by omega) (by omega) (by omega))
  refine ⟨⟨VC_MZ v1 hM, v2, hP, hd, TC_MZ (TC_Z c4 hC) hM, TM_MZ (TM_Z c5 hC) hM, c6, hz, fun k hk => by rw [e _ _ _ (by omega), e _ _ _ (by omega)]; exact c8 k hk, RW_e c9 (fun k => e _ _ _ (by omega)) (fun k => e _ _ _ (by omega)) (e _ _ _ (by omega)) (fun k _ _ => e _ _ _ (by omega)), RW_e c10 (fun k => e _ _ _ (by omega)) (fun k => e _ _ _ (by omega)) (e _ _ _ (by omega)) (fun k _ _ => e _ _ _ (by omega))⟩, ?_⟩
  intro c i k a1 a2 a3 a4 a5 a6 a7 a8 a9 a10 a11
  exact (hM c i k (by omega) (by omega) (by omega) (by omega) (by omega)).trans (hC c i k (by omega) (by omega) (by omega))
theorem Pr_movez {σ s τ : zS} {P P' : zP} {T : Nat → Nat → Int32} {M : Nat → Nat} (h : CX σ P T M) {fa fm : zS → Option (Int32 × zS)} {r : Int32} (ha : fa σ = some (r, s)) (hm : fm s = some (r, τ)) (hC : FZ 0 σ s) (hM : FMZ s τ) (v1 : VC 0 s P') (v2 : VM τ P') (hP : PI P') (hd : P' 7 1 ≤ 9999 ∧ PJ P') (hz : s 2 0 12 = τ 30 0 1) : Pr σ fa fm := by
  obtain ⟨a, b⟩ := CX_movez h hC hM v1 v2 hP hd ((hM 2 0 12 (by omega) (by omega) (by omega) (by omega) (by omega)).trans hz)
  exact ⟨r, s, τ, ha, hm, ⟨P', T, M, a⟩, b, fun i k => hC _ _ _ (by omega) (by omega) (by omega)⟩
theorem P_seed {σ : zS} (h : Core σ) (x1 : Int32) : Pr σ (fA_seed x1) (fM_seed x1) := by
  obtain ⟨P, T, M, c⟩ := h
  obtain ⟨c1, c2, c3, c3', c4, c5, c6, c7, c8, c9, c10⟩ := c
  have c : CX σ P T M := ⟨c1, c2, c3, c3', c4, c5, c6, c7, c8, c9, c10⟩
  have hn := c3.1
  have f1 : FZ 0 σ (zup σ 2 0 12 x1) := FZ_u
  have v0 := VM_Z c2 f1
  refine Pr_movez c (r := σ 2 0 12) (s := zup σ 2 0 12 x1) (τ := zup (zup σ 2 0 12 x1) 30 0 1 x1) ?_ ?_ f1 (FMZ_u (by omega)) (VC_x c1 (by omega)) (VM_x v0 (by omega)) c3 c3' ?_
  · unfold fA_seed
    rw [zlt_eq, zlt_eq]
  · unfold fM_seed fM_change1
    have hc : (1 : Int32).toNatClampNeg = 1 := rfl
    rw [zgd_t (by decide), zlt_eq, zgd_t (by decide), zlt_eq, zb2_s, hc, zup_o (by omega), c7]
  · rw [zup_s, zup_s]
/-- one draw -/
def lcg (z : Int32) : Int32 := z * 1103515245 + 12345
def dn (z : Int32) : Nat := z.toUInt32.toNat / 256
theorem dn_eq (z : Int32) : (z.toUInt32 >>> ((8 : Int32).toUInt32 &&& Int32.toUInt32 31)).toInt32 = nI (dn z) ∧ dn z < 16777216 := by
  have h8 : (8 : Int32).toUInt32 &&& Int32.toUInt32 31 = 8 := by decide
  have hlt : z.toUInt32.toNat < 4294967296 := z.toUInt32.toNat_lt
  have hd : dn z < 16777216 := by unfold dn; omega
  refine ⟨?_, hd⟩
  rw [h8]
  have hn : (z.toUInt32 >>> 8).toNat = dn z := by
    rw [UInt32.toNat_shiftRight]
    show z.toUInt32.toNat >>> 8 = dn z
    rw [Nat.shiftRight_eq_div_pow]
    rfl
  rw [i32_eq, n_toInt (by omega)]
  show (z.toUInt32 >>> 8).toInt32.toBitVec.toInt = _
  have hb : (z.toUInt32 >>> 8).toInt32.toBitVec.toNat = dn z := hn
  rw [BitVec.toInt_eq_toNat_of_lt (by omega), hb]
theorem R_draw {b : Nat} {σ : zS} : fR_draw b σ = some (nI (dn (lcg (σ 2 b 12))), zup σ 2 b 12 (lcg (σ 2 b 12))) := by
  unfold fR_draw
  rw [zlt_eq, zup_s]
  exact congrArg (fun v => some (v, zup σ 2 b 12 (lcg (σ 2 b 12)))) (dn_eq _).1
theorem M_draw {σ : zS} : fM_draw σ = some (nI (dn (lcg (σ 30 0 1))), zup σ 30 0 1 (lcg (σ 30 0 1))) := by
  unfold fM_draw
  rw [zlt_eq, zup_s]
  exact congrArg (fun v => some (v, zup σ 30 0 1 (lcg (σ 30 0 1)))) (dn_eq _).1
/-- the place that two draws write -/
def sPl (P : zP) (z : Int32) : zP := pu P 6 (P 7 1 % 6) (10 * (dn (lcg z) % 8) + dn (lcg (lcg z)) % 2)
def sLo (T : Nat → Nat → Int32) (M : Nat → Nat) : Nat → zP → Int32 → zP × Int32
  | 0, P, z => (P, z)
  | k + 1, P, z => sLo T M k (sDay T M (sPl P z)) (lcg (lcg z))
theorem sPl_ok {P : zP} (hP : PI P) (z : Int32) : PI (sPl P z) ∧ (sPl P z) 7 1 = P 7 1 := ⟨PI_6 hP (by omega) (by omega), pu_w (by omega)⟩
theorem sLo_ok {T : Nat → Nat → Int32} {M : Nat → Nat} : ∀ k P z, PI P → P 7 1 + k ≤ 20000 → PI (sLo T M k P z).1 ∧ (sLo T M k P z).1 7 1 = P 7 1 + k
  | 0, P, z, hP, hk => ⟨hP, rfl⟩
  | k + 1, P, z, hP, hk => by
    obtain ⟨p1, p2⟩ := sPl_ok hP z
    obtain ⟨a1, a2, a3, a4⟩ := sDay_ok (T := T) (M := M) p1 (by omega)
    obtain ⟨b1, b2⟩ := sLo_ok (T := T) (M := M) k (sDay T M (sPl P z)) (lcg (lcg z)) a1 (by omega)
    unfold sLo
    exact ⟨b1, by rw [b2, a2, p2]; omega⟩
theorem R_drawPlace {b : Nat} {σ : zS} {P : zP} (h : VC b σ P) (hP : PI P) : ∃ σ', fR_drawPlace b σ = some σ' ∧ VC b σ' (sPl P (σ 2 b 12)) ∧ FZ b σ σ' ∧ σ' 2 b 12 = lcg (lcg (σ 2 b 12)) := by
  have hd := hP.2.1
  have d1 := (dn_eq (lcg (σ 2 b 12))).2
  have d2 := (dn_eq (lcg (lcg (σ 2 b 12)))).2
  have hm : nI (P 7 1) - nI (P 7 1) / 6 * 6 = nI (P 7 1 % 6) := n_mod rfl (by omega) (by omega) (by omega)
  have h8 : nI (dn (lcg (σ 2 b 12))) - nI (dn (lcg (σ 2 b 12))) / 8 * 8 = nI (dn (lcg (σ 2 b 12)) % 8) := n_mod rfl (by omega) (by omega) (by omega)
  have h2 : nI (dn (lcg (lcg (σ 2 b 12)))) - nI (dn (lcg (lcg (σ 2 b 12)))) / 2 * 2 = nI (dn (lcg (lcg (σ 2 b 12))) % 2) := n_mod rfl (by omega) (by omega) (by omega)
  have hv : 10 * nI (dn (lcg (σ 2 b 12)) % 8) + nI (dn (lcg (lcg (σ 2 b 12))) % 2) = nI (10 * (dn (lcg (σ 2 b 12)) % 8) + dn (lcg (lcg (σ 2 b 12))) % 2) := by rw [l10, n_mul, n_add]
  have g0 : VC b (zup (zup σ 2 b 12 (lcg (σ 2 b 12))) 2 b 12 (lcg (lcg (σ 2 b 12)))) P := VC_x (VC_x h (by omega)) (by omega)
  have g1 := VC_6 (j := P 7 1 % 6) (x := 10 * (dn (lcg (σ 2 b 12)) % 8) + dn (lcg (lcg (σ 2 b 12))) % 2) g0
  refine ⟨_, ?_, g1, ?_, ?_⟩
  · unfold fR_drawPlace
    rw [R_draw, zb2_s, zlt_eq, R_draw, zb2_s, zup_s, zlt_eq, h8, h2, hv, g0.2.2.2.1, hm]
    simp (disch := omega) only [zlt_eq, zgd_T, zin_T, zb2_s, zbd_s, n_cl, n_sub1, n_predm, n_sc, if_nle, if_nle0, if_nle1, if_le, if_true, if_false]
  · refine FZ_t (FZ_t FZ_u FZ_u) (FZ_C (FC_u (by omega)))
  · rw [zup_o (by omega), zup_s]
theorem R_loose_L {N : Nat} {T : Nat → Nat → Int32} {M : Nat → Nat} (hW : WT T M) (hN : 901 ≤ N) {n : Nat} (hn : n < 10000) : ∀ k j f P σ, j + k = n → k < f → VC 0 σ P → PI P → P 7 1 + k ≤ 20000 → TC 0 σ T M → ∃ σ', fA_loose_L40 N f (nI n) (nI j) σ = some (nI ((sLo T M k P (σ 2 0 12)).1 7 2), σ') ∧ VC 0 σ' (sLo T M k P (σ 2 0 12)).1 ∧ FZ 0 σ σ' ∧ σ' 2 0 12 = (sLo T M k P (σ 2 0 12)).2
  | 0, j, 0, P, σ, h1, h2, h, hP, hd, hT => absurd h2 (by omega)
  | k + 1, j, 0, P, σ, h1, h2, h, hP, hd, hT => absurd h2 (by omega)
  | 0, j, f + 1, P, σ, h1, h2, h, hP, hd, hT => by
    rw [fA_loose_L40, if_le (by omega) (by omega), h.2.2.2.2]
    exact ⟨σ, rfl, h, FZ_C FC_r, rfl⟩
  | k + 1, j, f + 1, P, σ, h1, h2, h, hP, hd, hT => by
    obtain ⟨s, r1, r2, r3, r4⟩ := R_drawPlace h hP
    obtain ⟨p1, p2⟩ := sPl_ok hP (σ 2 0 12)
    obtain ⟨s', t1, t2, t3⟩ := R_passDay (N := N) r2 p1 (TC_Z hT r3) hW (by omega)
    obtain ⟨a1, a2, a3, a4⟩ := sDay_ok (T := T) (M := M) p1 (by omega)
    have hz : s' 2 0 12 = lcg (lcg (σ 2 0 12)) := (t3 2 0 12 (by omega) (by omega) (by omega)).trans r4
    have hf : FZ 0 σ s' := FZ_t r3 (FZ_C t3)
    rw [fA_loose_L40, if_nle (by omega) (by omega), r1, zbd_s, t1, zbd_s, n_sc]
    obtain ⟨σ', u1, u2, u3, u4⟩ := R_loose_L hW hN hn k (j + 1) f _ s' (by omega) (by omega) t2 a1 (by omega) (TC_Z hT hf)
    rw [hz] at u1 u2 u4
    unfold sLo
    exact ⟨σ', u1, u2, FZ_t hf u3, u4⟩
theorem M_loose_L {N : Nat} {T : Nat → Nat → Int32} {M : Nat → Nat} (hW : WT T M) (hN : 901 ≤ N) {n : Nat} (hn : n < 10000) : ∀ k j f P σ, j + k = n → k < f → VM σ P → PI P → P 7 1 + k ≤ 20000 → TM σ T M → ∃ σ', fM_loose_L38 N f (nI n) (nI j) σ = some (nI ((sLo T M k P (σ 30 0 1)).1 7 2), σ') ∧ VM σ' (sLo T M k P (σ 30 0 1)).1 ∧ FMZ σ σ' ∧ σ' 30 0 1 = (sLo T M k P (σ 30 0 1)).2
  | 0, j, 0, P, σ, h1, h2, h, hP, hd, hT => absurd h2 (by omega)
  | k + 1, j, 0, P, σ, h1, h2, h, hP, hd, hT => absurd h2 (by omega)
  | 0, j, f + 1, P, σ, h1, h2, h, hP, hd, hT => by
    rw [fM_loose_L38, if_le (by omega) (by omega), h.2.2.2.2]
    exact ⟨σ, rfl, h, FMZ_M FM_r, rfl⟩
  | k + 1, j, f + 1, P, σ, h1, h2, h, hP, hd, hT => by
    have hd' := hP.2.1
    have d1 := (dn_eq (lcg (σ 30 0 1))).2
    have d2 := (dn_eq (lcg (lcg (σ 30 0 1)))).2
    have hm : nI (P 7 1) - nI (P 7 1) / 6 * 6 = nI (P 7 1 % 6) := n_mod rfl (by omega) (by omega) (by omega)
    have h6 : 6 + nI (P 7 1 % 6) = nI (6 + P 7 1 % 6) := n_add 6 _
    have h8 : nI (dn (lcg (σ 30 0 1))) - nI (dn (lcg (σ 30 0 1))) / 8 * 8 = nI (dn (lcg (σ 30 0 1)) % 8) := n_mod rfl (by omega) (by omega) (by omega)
    have h2' : nI (dn (lcg (lcg (σ 30 0 1)))) - nI (dn (lcg (lcg (σ 30 0 1)))) / 2 * 2 = nI (dn (lcg (lcg (σ 30 0 1))) % 2) := n_mod rfl (by omega) (by omega) (by omega)
    have hv : 10 * nI (dn (lcg (σ 30 0 1)) % 8) + nI (dn (lcg (lcg (σ 30 0 1))) % 2) = nI (10 * (dn (lcg (σ 30 0 1)) % 8) + dn (lcg (lcg (σ 30 0 1))) % 2) := by rw [l10, n_mul, n_add]
    have g00 : VM (zup σ 30 0 1 (lcg (σ 30 0 1))) P := VM_x h (by omega)
    have g0 : VM (zup (zup σ 30 0 1 (lcg (σ 30 0 1))) 30 0 1 (lcg (lcg (σ 30 0 1)))) P := VM_x g00 (by omega)
    have g1 : VM (zup (zup (zup σ 30 0 1 (lcg (σ 30 0 1))) 30 0 1 (lcg (lcg (σ 30 0 1)))) 30 0 (6 + P 7 1 % 6) (nI (10 * (dn (lcg (σ 30 0 1)) % 8) + dn (lcg (lcg (σ 30 0 1))) % 2))) (sPl P (σ 30 0 1)) := VM_6 g0 (by omega)
    have f1 : FMZ σ (zup (zup (zup σ 30 0 1 (lcg (σ 30 0 1))) 30 0 1 (lcg (lcg (σ 30 0 1)))) 30 0 (6 + P 7 1 % 6) (nI (10 * (dn (lcg (σ 30 0 1)) % 8) + dn (lcg (lcg (σ 30 0 1))) % 2))) := FMZ_t (FMZ_t (FMZ_u (by omega)) (FMZ_u (by omega))) (FMZ_u (by omega))
    have z1 : (zup (zup (zup σ 30 0 1 (lcg (σ 30 0 1))) 30 0 1 (lcg (lcg (σ 30 0 1)))) 30 0 (6 + P 7 1 % 6) (nI (10 * (dn (lcg (σ 30 0 1)) % 8) + dn (lcg (lcg (σ 30 0 1))) % 2))) 30 0 1 = lcg (lcg (σ 30 0 1)) := by rw [zup_k (by omega), zup_s]
    rw [fM_loose_L38, if_nle (by omega) (by omega), M_draw, zb2_s, zlt_eq, M_draw, zb2_s, zup_s, h8, h2', hv, g00.2.2.2.1, hm, h6]
    simp (disch := omega) only [zlt_eq, zgd_T, zin_T, zb2_s, zbd_s, n_cl, n_sub1, n_predm, n_sc, if_nle, if_nle0, if_nle1, if_le, if_true, if_false]
    generalize (zup (zup (zup σ 30 0 1 (lcg (σ 30 0 1))) 30 0 1 (lcg (lcg (σ 30 0 1)))) 30 0 (6 + P 7 1 % 6) (nI (10 * (dn (lcg (σ 30 0 1)) % 8) + dn (lcg (lcg (σ 30 0 1))) % 2))) = s at g1 f1 z1 ⊢
    obtain ⟨p1, p2⟩ := sPl_ok hP (σ 30 0 1)
    obtain ⟨s', t1, t2, t3⟩ := M_day1 (N := N) g1 p1 (TM_MZ hT f1) hW hN
    obtain ⟨a1, a2, a3, a4⟩ := sDay_ok (T := T) (M := M) p1 (by omega)
    have hz : s' 30 0 1 = lcg (lcg (σ 30 0 1)) := (t3 30 0 1 (by omega) (by omega) (by omega) (by omega) (by omega)).trans z1
    have hf : FMZ σ s' := FMZ_t f1 (FMZ_M t3)
    rw [t1, zbd_s]
    obtain ⟨σ', u1, u2, u3, u4⟩ := M_loose_L hW hN hn k (j + 1) f _ s' (by omega) (by omega) t2 a1 (by omega) (TM_MZ hT hf)
    rw [hz] at u1 u2 u4
    unfold sLo
    exact ⟨σ', u1, u2, FMZ_t hf u3, u4⟩
theorem Q_lo {T : Nat → Nat → Int32} {M : Nat → Nat} : ∀ k P z, Q P (sLo T M k P z).1
  | 0, P, z => Q_r
  | k + 1, P, z => by
    unfold sLo
    exact Q_t (Q_t (Q_w Q_r (by omega)) Q_day) (Q_lo k _ _)
theorem P_loose {N : Nat} (hN : 901 ≤ N) {σ : zS} (h : Core σ) (x1 : Int32) : Pr σ (fA_loose N x1) (fM_loose N x1) := by
  obtain ⟨P, T, M, c⟩ := h
  obtain ⟨c1, c2, c3, c3', c4, c5, c6, c7, c8, c9, c10⟩ := c
  have c : CX σ P T M := ⟨c1, c2, c3, c3', c4, c5, c6, c7, c8, c9, c10⟩
  have hn := c3.1
  have m1 := M_inr (x := x1) (a := 1) (b := 30) (by omega) (by omega)
  by_cases q1 : rng x1 1 30
  · have m1 : fM_in x1 1 30 = some 1 := m1.1 q1
    obtain ⟨k, hk1, hk, rfl⟩ := q1
    have n1 : ¬ (nI k < 1) := by rw [l1, n_lt (by omega) (by omega)]; omega
    have n2 : nI k ≤ 30 := (nI_leI (b := 30) (by omega) (by omega)).mpr hk
    by_cases qd : P 7 1 + k ≤ 9999
    · obtain ⟨s, r1, r2, r3, r4⟩ := R_loose_L (N := N) c6 hN (n := k) (by omega) k 0 N P σ (by omega) (by omega) c1 c3 (by omega) c4
      have hz : s 30 0 1 = σ 2 0 12 := (r3 30 0 1 (by omega) (by omega) (by omega)).trans c7.symm
      obtain ⟨τ, t1, t2, t3, t4⟩ := M_loose_L (N := N) c6 hN (n := k) (by omega) k 0 N P s (by omega) (by omega) (VM_Z c2 r3) c3 (by omega) (TM_Z c5 r3)
      rw [hz] at t1 t2 t4
      obtain ⟨d1, d2⟩ := sLo_ok (T := T) (M := M) k P (σ 2 0 12) c3 (by omega)
      have hle : nI (P 7 1) + nI k ≤ 9999 := by rw [n_add]; exact (nI_leI (b := 9999) (by omega) (by omega)).mpr qd
      refine Pr_movez c (r := nI ((sLo T M k P (σ 2 0 12)).1 7 2)) (s := s) (τ := τ) ?_ ?_ r3 t3 r2 t2 d1 ⟨by omega, (Q_lo k P _).2 c3'.2⟩ (r4.trans t4.symm)
      · unfold fA_loose
        rw [if_neg n1, if_pos n2, c1.2.2.2.1, if_pos hle]
        exact r1
      · unfold fM_loose
        rw [m1, zbd_s, if_neg (by decide), (VM_Z c2 r3).2.2.2.1, if_pos hle]
        exact t1
    · have hle : ¬ (nI (P 7 1) + nI k ≤ 9999) := by rw [n_add]; exact fun r => qd ((nI_leI (b := 9999) (by omega) (by omega)).mp r)
      refine Pr_err c (e := 3) (by omega) (by omega) ?_ ?_
      · unfold fA_loose
        rw [if_neg n1, if_pos n2, c1.2.2.2.1, if_neg hle, zb2_id]
        rfl
      · unfold fM_loose
        rw [m1, zbd_s, if_neg (by decide), (VM_26 c2).2.2.2.1, if_neg hle, zb2_id]
        rfl
  · have m1 : fM_in x1 1 30 = some 0 := m1.2 q1
    refine Pr_err c (e := 1) (by omega) (by omega) ?_ ?_
    · unfold fA_loose
      refine (rng_if (b := 30) (by omega) q1 _ _).trans ?_
      unfold fA_loose_J11
      rw [zb2_id]
      rfl
    · unfold fM_loose
      rw [m1, zbd_s, if_pos rfl, zb2_id]
      rfl
