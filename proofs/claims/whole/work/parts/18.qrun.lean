abbrev qE : Type := (Nat × List (Option zA)) ⊕ (List Int32 ⊕ List (Option Nat))
abbrev qW : Type := List qE
def qvok (n : Nat) : zA → Bool
  | .inr (.inr q) => (decide (q.1 < n) || decide (1000 ≤ q.1)) && decide (q.2 = 0)
  | _ => true
def qook (n : Nat) : Option zA → Bool
  | none => true
  | some v => qvok n v
def qrok (n : Nat) : Option Nat → Bool
  | none => true
  | some k => decide (k < n)
def qeok (n : Nat) : qE → Bool
  | .inl q => q.2.all (qook n)
  | .inr (.inl _) => true
  | .inr (.inr l) => l.all (qrok n)
def qok (w : qW) (ls : zO) (st : List zA) : Bool := decide (w.length < 1000) && w.all (qeok w.length) && st.all (qvok w.length) && ls.all (qook w.length)
def qfit : FieldType → zA → Bool
  | .int, .inl _ => true
  | .array _, .inr (.inr _) => true
  | .object _, .inr (.inr _) => true
  | _, _ => false
def qlo (i : Instr) (ln : Nat) : Bool := match i with
  | .newarray _ => ln == 2
  | .new _ | .anewarray _ | .invokespecial _ => ln == 3
  | i => zlo i ln
abbrev qR : Type := Nat × zO × List zA × qW
/-- a step that is no call: behind it, and how many cells and places came -/
def qstep (o : Nat) (i : Instr) (ln pc : Nat) (ls : zO) (st : List zA) (w : qW) : Option (qR × Nat × Nat) := match i with
  | .iconst n => some ((pc + 1, ls, zI (Int32.ofInt n) :: st, w), 0, 0)
  | .bipush n => some ((pc + 2, ls, zI (Int8.ofInt n).toInt32 :: st, w), 0, 0)
  | .sipush n => some ((pc + 3, ls, zI (Int16.ofInt n).toInt32 :: st, w), 0, 0)
  | .iload_n k => (match zget ls k with
    | some (.inl x) => some ((pc + 1, ls, zI x :: st, w), 0, 0)
    | _ => none)
  | .aload_n k => (match zget ls k with
    | some (.inr (.inr q)) => some ((pc + 1, ls, zR q.1 q.2 :: st, w), 0, 0)
    | _ => none)
  | .istore_n k => (match st with
    | .inl x :: r => (match zset ls k (zI x) with
      | some ls' => some ((pc + 1, ls', r, w), 0, 0)
      | none => none)
    | _ => none)
  | .astore_n k => (match st with
    | .inr (.inr q) :: r => (match zset ls k (zR q.1 q.2) with
      | some ls' => some ((pc + 1, ls', r, w), 0, 0)
      | none => none)
    | _ => none)
  | .iinc k n => (match zget ls k with
    | some (.inl x) => (match zset ls k (zI (x + Int32.ofInt n)) with
      | some ls' => some ((pc + 3, ls', st, w), 0, 0)
      | none => none)
    | _ => none)
  | .iadd => (match st with
    | .inl y :: .inl x :: r => some ((pc + 1, ls, zI (x + y) :: r, w), 0, 0)
    | _ => none)
  | .imul => (match st with
    | .inl y :: .inl x :: r => some ((pc + 1, ls, zI (x * y) :: r, w), 0, 0)
    | _ => none)
  | .dup => (match st with
    | v :: r => if zlong v then none else some ((pc + 1, ls, v :: v :: r, w), 0, 0)
    | _ => none)
  | .goto off => (match ztg pc off with
    | some t => some ((t, ls, st, w), 0, 0)
    | none => none)
  | .if_icmp .ge off => (match st with
    | .inl y :: .inl x :: r => (match ztg pc off with
      | some t => some ((if y ≤ x then t else pc + 3, ls, r, w), 0, 0)
      | none => none)
    | _ => none)
  | .ifCond .le off => (match st with
    | .inl x :: r => (match ztg pc off with
      | some t => some ((if x ≤ 0 then t else pc + 3, ls, r, w), 0, 0)
      | none => none)
    | _ => none)
  | .newarray .int => (match st with
    | .inl n :: r => if ¬ n < 0 ∧ n.toNatClampNeg ≤ 1000 ∧ qok w ls st = true then some ((pc + 2, ls, zR w.length 0 :: r, w ++ [.inr (.inl (List.replicate n.toNatClampNeg 0))]), 1, n.toNatClampNeg) else none
    | _ => none)
  | .anewarray x => (match st with
    | .inl n :: r => if ¬ n < 0 ∧ n.toNatClampNeg ≤ 1000 ∧ qok w ls st = true ∧ qnf o x = some 4 then some ((pc + 3, ls, zR w.length 0 :: r, w ++ [.inr (.inr (List.replicate n.toNatClampNeg none))]), 1, n.toNatClampNeg) else none
    | _ => none)
  | .new x => (match qnf o x with
    | some ci => if qok w ls st = true then some ((pc + 3, ls, zR w.length 0 :: st, w ++ [.inl (ci, qdf ci)]), 1, znf ci) else none
    | none => none)
  | .getfield x => (match st with
    | .inr (.inr q) :: r => (match zf o x, w[q.1]? with
      | some (c, k), some (.inl (ci, fs)) => (match fs[k]? with
        | some (some v) => if ci = c then some ((pc + 3, ls, v :: r, w), 0, 0) else none
        | _ => none)
      | _, _ => none)
    | _ => none)
  | .putfield x => (match st with
    | v :: .inr (.inr q) :: r => (match zf o x, w[q.1]? with
      | some (c, k), some (.inl (ci, fs)) => if ci = c ∧ c = o ∧ k < fs.length ∧ qfit (zty c k) v = true then some ((pc + 3, ls, r, w.set q.1 (.inl (ci, fs.set k (some v)))), 0, 0) else none
      | _, _ => none)
    | _ => none)
  | .iastore => (match st with
    | .inl v :: .inl j :: .inr (.inr q) :: r => (match w[q.1]? with
      | some (.inr (.inl l)) => if zin j l.length then some ((pc + 1, ls, r, w.set q.1 (.inr (.inl (l.set j.toNatClampNeg v)))), 0, 0) else none
      | _ => none)
    | _ => none)
  | .aastore => (match st with
    | .inr (.inr v) :: .inl j :: .inr (.inr q) :: r => (match w[q.1]?, w[v.1]? with
      | some (.inr (.inr l)), some (.inl (ci, _)) => if zin j l.length ∧ ci = 4 then some ((pc + 1, ls, r, w.set q.1 (.inr (.inr (l.set j.toNatClampNeg (some v.1))))), 0, 0) else none
      | _, _ => none)
    | _ => none)
  | .invokespecial x => if qof o x = true then (match st with
    | .inr (.inr _) :: r => if (r.map zcat).sum ≤ 8 then some ((pc + 3, ls, r, w), 0, 0) else none
    | _ => none) else none
  | _ => none
def qrcv : List zA → Bool
  | .inr (.inr _) :: _ => true
  | _ => false
/-- a call of a constructor: which, nest mate or not, what goes in, what stays below -/
def qcall (o : Nat) (i : Instr) (w : qW) (ls : zO) (st : List zA) : Option (Nat × Bool × List zA × List zA) := match i with
  | .invokespecial x => (match qkf o x, qmf o x with
    | some j, _ => if qna j + 1 ≤ st.length ∧ ((st.drop (qna j + 1)).map zcat).sum ≤ 8 ∧ (zel (st.take (qna j + 1)).reverse).length ≤ qn j ∧ qok w ls st = true ∧ qrcv (st.take (qna j + 1)).reverse = true then some (j, false, (st.take (qna j + 1)).reverse, st.drop (qna j + 1)) else none
    | none, some j => if qna j + 1 ≤ st.length ∧ ((st.drop (qna j + 1)).map zcat).sum ≤ 8 ∧ (zel (st.take (qna j + 1)).reverse).length ≤ qn j ∧ qok w ls st = true ∧ qrcv (st.take (qna j + 1)).reverse = true then some (j, true, (st.take (qna j + 1)).reverse, st.drop (qna j + 1)) else none
    | none, none => none)
  | _ => none
def qrun : Nat → Nat → Nat → Nat → zO → List zA → qW → Option (qR × Nat × Nat)
  | 0, _, _, _, _, _, _ => none
  | n + 1, d, j, pc, ls, st, w =>
    if pc = qstop j then some ((pc, ls, st, w), 0, 0) else
    match decode (qb j) pc with
    | .error _ => none
    | .ok (i, ln) =>
      if qlo i ln = false then none else
      match qstep j i ln pc ls st w with
      | some (q, c, s) => (match qrun n d j q.1 q.2.1 q.2.2.1 q.2.2.2 with
        | some (f, c2, s2) => some (f, c + c2, s + s2)
        | none => none)
      | none =>
        match qcall j i w ls st with
        | none => none
        | some (j', _, as, rest) =>
          match d with
          | 0 => none
          | d' + 1 =>
            match qrun n d' j' 0 (zent as (qn j')) [] w with
            | some (f, c, s) => if f.2.2.1.isEmpty then (match qrun n (d' + 1) j (pc + 3) ls rest f.2.2.2 with
                | some (f2, c2, s2) => some (f2, c + c2, s + s2)
                | none => none) else none
            | none => none
def qinit : Option (qR × Nat × Nat) := qrun 400 8 9 0 [some (zR 1000 0), none, none, none] [] []
