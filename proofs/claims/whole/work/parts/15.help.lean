theorem zgd_some {β : Type} {p : Prop} [Decidable p] {f : Option β} {w : β} (h : zgd p f = some w) : p ∧ f = some w := by
  unfold zgd at h
  split at h
  · rename_i hp
    exact ⟨hp, h⟩
  · cases h
theorem ev_sel {P : Prop} {α : Type} {x k : Int32} {F G : Option α} {w : α} (h : (if x = k then F else G) = some w) (A : x = k → F = some w → P) (B : ¬ x = k → G = some w → P) : P := by
  by_cases c : x = k
  · rw [if_pos c] at h; exact A c h
  · rw [if_neg c] at h; exact B c h
theorem zsw_st {x v : Int32} {lo o d : Int} {r : List Int} (h : ¬ x = v) (hv : v.toInt = lo) : zsw x lo (o :: r) d = zsw x (lo + 1) r d := by
  show (if x.toInt = lo then o else zsw x (lo + 1) r d) = _
  rw [if_neg (fun q => h (Int32.toInt_inj.mp (q.trans hv.symm)))]
theorem zlk_st {x v : Int32} {a o d : Int} {r : List (Int × Int)} (h : ¬ x = v) (hv : v.toInt = a) : zlk x ((a, o) :: r) d = zlk x r d := by
  show (if x.toInt = a then o else zlk x r d) = _
  rw [if_neg (fun q => h (Int32.toInt_inj.mp (q.trans hv.symm)))]
/-- a local that is no first half of a long -/
def znl : Option zA → Bool
  | some (.inr (.inl _)) => false
  | _ => true
