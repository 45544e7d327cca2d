/-! A small machine over tables of numbers: what one method does with the cells, as a function. -/
def zup (σ : zS) (c i k : Nat) (v : Int32) : zS := fun c' i' k' => if c' = c ∧ i' = i ∧ k' = k then v else σ c' i' k'
def zcp (σ : zS) (c i c2 i2 sp dp n : Nat) : zS := fun c' i' k => if c' = c2 ∧ i' = i2 then va_cpy (σ c i) (σ c2 i2) sp dp n k else σ c' i' k
def zget (ls : zO) (k : Nat) : Option zA := match ls[k]? with
  | some (some v) => some v
  | _ => none
def zlong : zA → Bool
  | .inr (.inl _) => true
  | _ => false
def zset (ls : zO) (k : Nat) (v : zA) : Option zO :=
  if k < ls.length then
    (match k with
    | 0 => some (ls.set 0 (some v))
    | j + 1 => match ls[j]? with
      | some (some w) => if zlong w then none else some (ls.set (j + 1) (some v))
      | _ => some (ls.set (j + 1) (some v)))
  else none
/-- how many numbers a cell of numbers has; that of the script (50) stands beside it -/
def zln (σ : zS) (c i : Nat) : Nat := match c with
  | 50 => (σ 50 1 0).toNatClampNeg
  | 51 => 6
  | 52 => 7
  | 53 => 28
  | c => zlen c i
/-- cells of ints that may be written -/
def zia (c : Nat) : Bool := 10 ≤ c && c < 43 && c != 25
def zfv (σ : zS) (c i k : Nat) : zA := match zfr c k i with
  | some q => zR q.1 q.2
  | none => zI (σ c i k)
def zsw (x : Int32) : Int → List Int → Int → Int
  | _, [], d => d
  | lo, o :: r, d => if x.toInt = lo then o else zsw x (lo + 1) r d
def zlk (x : Int32) : List (Int × Int) → Int → Int
  | [], d => d
  | q :: r, d => if x.toInt = q.1 then q.2 else zlk x r d
def ztg (pc : Nat) (off : Int) : Option Nat := if 0 ≤ (pc : Int) + off then some ((pc : Int) + off).toNat else none
def zcat : zA → Nat
  | .inr (.inl _) => 2
  | _ => 1
def zbin (f : Int32 → Int32 → Int32) (pc : Nat) (ls : zO) (st : List zA) (σ : zS) : Option (Nat × zO × List zA × zS) := match st with
  | .inl y :: .inl x :: r => some (pc + 1, ls, zI (f x y) :: r, σ)
  | _ => none
def zbr1 (c : Int32 → Bool) (off : Int) (pc : Nat) (ls : zO) (st : List zA) (σ : zS) : Option (Nat × zO × List zA × zS) := match st with
  | .inl x :: r => (match ztg pc off with
    | some t => some (if c x then t else pc + 3, ls, r, σ)
    | none => none)
  | _ => none
def zbr2 (c : Int32 → Int32 → Bool) (off : Int) (pc : Nat) (ls : zO) (st : List zA) (σ : zS) : Option (Nat × zO × List zA × zS) := match st with
  | .inl y :: .inl x :: r => (match ztg pc off with
    | some t => some (if c x y then t else pc + 3, ls, r, σ)
    | none => none)
  | _ => none
def zpush (v : zA) (ln pc : Nat) (ls : zO) (st : List zA) (σ : zS) : Option (Nat × zO × List zA × zS) := some (pc + ln, ls, v :: st, σ)
def zldi (k ln pc : Nat) (ls : zO) (st : List zA) (σ : zS) : Option (Nat × zO × List zA × zS) := match zget ls k with
  | some (.inl x) => some (pc + ln, ls, zI x :: st, σ)
  | _ => none
def zlda (k ln pc : Nat) (ls : zO) (st : List zA) (σ : zS) : Option (Nat × zO × List zA × zS) := match zget ls k with
  | some (.inr (.inr q)) => some (pc + ln, ls, zR q.1 q.2 :: st, σ)
  | _ => none
def zsti (k ln pc : Nat) (ls : zO) (st : List zA) (σ : zS) : Option (Nat × zO × List zA × zS) := match st with
  | .inl x :: r => (match zset ls k (zI x) with
    | some ls' => some (pc + ln, ls', r, σ)
    | none => none)
  | _ => none
def zsta (k ln pc : Nat) (ls : zO) (st : List zA) (σ : zS) : Option (Nat × zO × List zA × zS) := match st with
  | .inr (.inr q) :: r => (match zset ls k (zR q.1 q.2) with
    | some ls' => some (pc + ln, ls', r, σ)
    | none => none)
  | _ => none
abbrev zin (i : Int32) (n : Nat) : Prop := ¬ (i < 0 ∨ n ≤ i.toNatClampNeg)
def zstep (o : Nat) (i : Instr) (ln pc : Nat) (ls : zO) (st : List zA) (σ : zS) : Option (Nat × zO × List zA × zS) := match i with
  | .iconst n => zpush (zI (Int32.ofInt n)) 1 pc ls st σ
  | .bipush n => zpush (zI (Int8.ofInt n).toInt32) 2 pc ls st σ
  | .sipush n => zpush (zI (Int16.ofInt n).toInt32) 3 pc ls st σ
  | .ldc x => (match zk o x with
    | some v => zpush (zI v) 2 pc ls st σ
    | none => none)
  | .ldc_w x => (match zk o x with
    | some v => zpush (zI v) 3 pc ls st σ
    | none => none)
  | .ldc2_w x => (match zkL o x with
    | some v => zpush (zL v) 3 pc ls st σ
    | none => none)
  | .iload k => zldi k 2 pc ls st σ
  | .iload_n k => zldi k 1 pc ls st σ
  | .lload_n k => (match zget ls k with
    | some (.inr (.inl x)) => some (pc + 1, ls, zL x :: st, σ)
    | _ => none)
  | .aload k => zlda k 2 pc ls st σ
  | .aload_n k => zlda k 1 pc ls st σ
  | .istore k => zsti k 2 pc ls st σ
  | .istore_n k => zsti k 1 pc ls st σ
  | .astore k => zsta k 2 pc ls st σ
  | .astore_n k => zsta k 1 pc ls st σ
  | .iinc k n => if ln = 3 then (match zget ls k with
    | some (.inl x) => (match zset ls k (zI (x + Int32.ofInt n)) with
      | some ls' => some (pc + 3, ls', st, σ)
      | none => none)
    | _ => none) else none
  | .iadd => zbin (fun x y => x + y) pc ls st σ
  | .isub => zbin (fun x y => x - y) pc ls st σ
  | .imul => zbin (fun x y => x * y) pc ls st σ
  | .iand => zbin (fun x y => x &&& y) pc ls st σ
  | .ior => zbin (fun x y => x ||| y) pc ls st σ
  | .ixor => zbin (fun x y => x ^^^ y) pc ls st σ
  | .ishl => zbin (fun x y => x <<< (y &&& 31)) pc ls st σ
  | .ishr => zbin (fun x y => x >>> (y &&& 31)) pc ls st σ
  | .iushr => zbin (fun x y => (x.toUInt32 >>> (y.toUInt32 &&& Int32.toUInt32 31)).toInt32) pc ls st σ
  | .idiv => (match st with
    | .inl y :: .inl x :: r => if y = 0 then none else some (pc + 1, ls, zI (x / y) :: r, σ)
    | _ => none)
  | .irem => (match st with
    | .inl y :: .inl x :: r => if y = 0 then none else some (pc + 1, ls, zI (x - x / y * y) :: r, σ)
    | _ => none)
  | .ineg => (match st with
    | .inl x :: r => some (pc + 1, ls, zI (-x) :: r, σ)
    | _ => none)
  | .i2l => (match st with
    | .inl x :: r => some (pc + 1, ls, zL x.toInt64 :: r, σ)
    | _ => none)
  | .l2i => (match st with
    | .inr (.inl x) :: r => some (pc + 1, ls, zI x.toInt32 :: r, σ)
    | _ => none)
  | .land => (match st with
    | .inr (.inl y) :: .inr (.inl x) :: r => some (pc + 1, ls, zL (x &&& y) :: r, σ)
    | _ => none)
  | .lor => (match st with
    | .inr (.inl y) :: .inr (.inl x) :: r => some (pc + 1, ls, zL (x ||| y) :: r, σ)
    | _ => none)
  | .lshl => (match st with
    | .inl y :: .inr (.inl x) :: r => some (pc + 1, ls, zL (x <<< (y.toInt64 &&& 63)) :: r, σ)
    | _ => none)
  | .lshr => (match st with
    | .inl y :: .inr (.inl x) :: r => some (pc + 1, ls, zL (x >>> (y.toInt64 &&& 63)) :: r, σ)
    | _ => none)
  | .lushr => (match st with
    | .inl y :: .inr (.inl x) :: r => some (pc + 1, ls, zL ((x.toUInt64 >>> (y.toInt64.toUInt64 &&& Int64.toUInt64 63)).toInt64) :: r, σ)
    | _ => none)
  | .dup => (match st with
    | v :: r => if zlong v then none else some (pc + 1, ls, v :: v :: r, σ)
    | _ => none)
  | .dup2 => (match st with
    | v :: w :: r => if zlong v || zlong w then none else some (pc + 1, ls, v :: w :: v :: w :: r, σ)
    | _ => none)
  | .getfield x => (match st with
    | .inr (.inr q) :: r => (match zf o x with
      | some (c, k) => if q.1 = c then some (pc + 3, ls, zfv σ c q.2 k :: r, σ) else none
      | none => none)
    | _ => none)
  | .putfield x => (match st with
    | .inl v :: .inr (.inr q) :: r => (match zf o x with
      | some (c, k) => if q.1 = c ∧ zfr c k q.2 = none ∧ (zT c k).2.2.2 = false ∧ (zfb c k = true → v = 0 ∨ v = 1) then some (pc + 3, ls, r, zup σ c q.2 k v) else none
      | none => none)
    | _ => none)
  | .getstatic x => (match zg o x with
    | some t => some (pc + 3, ls, zR t 0 :: st, σ)
    | none => none)
  | .iaload => (match st with
    | .inl j :: .inr (.inr q) :: r => if (zia q.1 = true ∨ q.1 = 50 ∨ q.1 = 52 ∨ q.1 = 53) ∧ zin j (zln σ q.1 q.2) then some (pc + 1, ls, zI (σ q.1 q.2 j.toNatClampNeg) :: r, σ) else none
    | _ => none)
  | .caload => (match st with
    | .inl j :: .inr (.inr q) :: r => if q.1 = 51 ∧ zin j (zln σ q.1 q.2) then some (pc + 1, ls, zI (σ q.1 q.2 j.toNatClampNeg) :: r, σ) else none
    | _ => none)
  | .aaload => (match st with
    | .inl j :: .inr (.inr q) :: r => if q.1 = 25 ∧ zin j 4 then some (pc + 1, ls, zR 4 j.toNatClampNeg :: r, σ) else none
    | _ => none)
  | .iastore => (match st with
    | .inl v :: .inl j :: .inr (.inr q) :: r => if zia q.1 = true ∧ zin j (zln σ q.1 q.2) then some (pc + 1, ls, r, zup σ q.1 q.2 j.toNatClampNeg v) else none
    | _ => none)
  | .arraylength => (match st with
    | .inr (.inr q) :: r => if zia q.1 = true ∨ q.1 = 50 ∨ q.1 = 52 ∨ q.1 = 53 ∨ q.1 = 51 then some (pc + 1, ls, zI (Int32.ofNat (zln σ q.1 q.2)) :: r, σ) else none
    | _ => none)
  | .ifCond .eq off => zbr1 (fun x => decide (x = 0)) off pc ls st σ
  | .ifCond .ne off => zbr1 (fun x => decide (¬ x = 0)) off pc ls st σ
  | .ifCond .lt off => zbr1 (fun x => decide (x < 0)) off pc ls st σ
  | .ifCond .ge off => zbr1 (fun x => decide (0 ≤ x)) off pc ls st σ
  | .ifCond .gt off => zbr1 (fun x => decide (0 < x)) off pc ls st σ
  | .ifCond .le off => zbr1 (fun x => decide (x ≤ 0)) off pc ls st σ
  | .if_icmp .eq off => zbr2 (fun x y => decide (x = y)) off pc ls st σ
  | .if_icmp .ne off => zbr2 (fun x y => decide (¬ x = y)) off pc ls st σ
  | .if_icmp .lt off => zbr2 (fun x y => decide (x < y)) off pc ls st σ
  | .if_icmp .ge off => zbr2 (fun x y => decide (y ≤ x)) off pc ls st σ
  | .if_icmp .gt off => zbr2 (fun x y => decide (y < x)) off pc ls st σ
  | .if_icmp .le off => zbr2 (fun x y => decide (x ≤ y)) off pc ls st σ
  | .goto off => (match ztg pc off with
    | some t => some (t, ls, st, σ)
    | none => none)
  | .tableswitch d lo hi offs => (match st with
    | .inl x :: r => if hi + 1 = lo + offs.size then (match ztg pc (zsw x lo offs.toList d) with
      | some t => some (t, ls, r, σ)
      | none => none) else none
    | _ => none)
  | .lookupswitch d ps => (match st with
    | .inl x :: r => if (ps.toList.zip (ps.toList.drop 1)).all (fun (a, next) => a.1 < next.1) = true then (match ztg pc (zlk x ps.toList d) with
      | some t => some (t, ls, r, σ)
      | none => none) else none
    | _ => none)
  | .invokestatic x => if za o x = true then (match st with
    | .inl n :: .inl dp :: .inr (.inr q2) :: .inl sp :: .inr (.inr q1) :: r =>
      if zia q1.1 = true ∧ zia q2.1 = true ∧ ¬ sp < 0 ∧ ¬ dp < 0 ∧ ¬ n < 0 ∧ sp.toNatClampNeg + n.toNatClampNeg ≤ zln σ q1.1 q1.2 ∧ dp.toNatClampNeg + n.toNatClampNeg ≤ zln σ q2.1 q2.2 ∧ (r.map zcat).sum ≤ 8 then
        some (pc + 3, ls, r, zcp σ q1.1 q1.2 q2.1 q2.2 sp.toNatClampNeg dp.toNatClampNeg n.toNatClampNeg) else none
    | _ => none) else none
  | _ => none
def zret (mi : Nat) (i : Instr) (st : List zA) : Option (Option zA) := match i with
  | .ireturn => (match st with
    | [.inl x] => (match zr mi with
      | some .int => some (some (zI x))
      | some .boolean => if x = 0 ∨ x = 1 then some (some (zI x)) else none
      | _ => none)
    | _ => none)
  | .areturn => (match st with
    | [.inr (.inr q)] => (match zr mi with
      | some (.object _) => some (some (zR q.1 q.2))
      | _ => none)
    | _ => none)
  | .return_ => (match st with
    | [] => (match zr mi with
      | none => some none
      | _ => none)
    | _ => none)
  | _ => none
def zel (as : List zA) : zO := as.flatMap (fun a => if zlong a then [some a, none] else [some a])
def zent (as : List zA) (nL : Nat) : zO := zel as ++ List.replicate (nL - (zel as).length) none
def zrcv (mj : Nat) (as : List zA) : Bool := match as with
  | .inr (.inr q) :: _ => q.1 == zo mj
  | _ => false
/-- a call: the method, what goes in, what stays below -/
def zcall (o : Nat) (i : Instr) (st : List zA) : Option (Nat × List zA × List zA) := match i with
  | .invokestatic x => (match zc o x with
    | some mj => if zst mj = true ∧ zna mj ≤ st.length ∧ ((st.drop (zna mj)).map zcat).sum ≤ 8 ∧ (zel (st.take (zna mj)).reverse).length ≤ zn mj then some (mj, (st.take (zna mj)).reverse, st.drop (zna mj)) else none
    | none => none)
  | .invokevirtual x => (match zc o x with
    | some mj => if zst mj = false ∧ zna mj ≤ st.length ∧ ((st.drop (zna mj)).map zcat).sum ≤ 8 ∧ (zel (st.take (zna mj)).reverse).length ≤ zn mj ∧ zrcv mj (st.take (zna mj)).reverse = true then some (mj, (st.take (zna mj)).reverse, st.drop (zna mj)) else none
    | none => none)
  | _ => none
/-- how long an instruction must be here -/
def zlo (i : Instr) (ln : Nat) : Bool := match i with
  | .bipush _ | .ldc _ | .iload _ | .aload _ | .istore _ | .astore _ => ln == 2
  | .sipush _ | .ldc_w _ | .ldc2_w _ | .iinc _ _ | .getfield _ | .putfield _ | .getstatic _ | .ifCond _ _ | .if_icmp _ _ | .goto _ | .invokestatic _ | .invokevirtual _ => ln == 3
  | .tableswitch _ _ _ _ | .lookupswitch _ _ => true
  | _ => ln == 1
def zrun : Nat → Nat → Nat → Nat → zO → List zA → zS → Option (Option zA × zS)
  | 0, _, _, _, _, _, _ => none
  | n + 1, d, mi, pc, ls, st, σ =>
    match decode (zb mi) pc with
    | .error _ => none
    | .ok (i, ln) =>
      if zlo i ln = false then none else
      match zstep (zo mi) i ln pc ls st σ with
      | some (pc', ls', st', σ') => zrun n d mi pc' ls' st' σ'
      | none =>
        match zret mi i st with
        | some r => some (r, σ)
        | none =>
          match zcall (zo mi) i st with
          | none => none
          | some (mj, as, rest) =>
            match d with
            | 0 => none
            | d' + 1 =>
              match zrun n d' mj 0 (zent as (zn mj)) [] σ with
              | none => none
              | some (r, σ') => zrun n (d' + 1) mi (pc + 3) ls (r.toList ++ rest) σ'
