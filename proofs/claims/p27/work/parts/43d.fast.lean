/-! A FASTER EVALUATOR FOR CLOSED RUNS: a frame carries its method and its pool -/
section YFE
def zcd (q : xMth) := q.2.2.2.2.2.2.2.2.2.1
def zPg (b : Bool) (v : Value) (q : xMth) (pl : xPool) : xPg :=
  (fun _ pc => xlk q.2.2.2.2.2.2.2.2.2.1 pc, fun _ => 0, fun _ => xhf b (fun i => xfs (xlk pl.2.1 i)), fun _ => xhp b (fun i => xfs (xlk pl.2.2.1 i)), fun _ i => xsv v (xfs (xlk pl.2.2.2.1 i)), fun _ i => xfs (xlk pl.2.2.2.2.1 i), fun _ i => (xlk pl.2.2.2.2.2.1 i).isSome, fun _ i => (xlk pl.2.2.2.2.2.2.1 i).isSome, fun _ i => xfs (xlk pl.2.2.2.2.2.2.2.1 i), fun _ i => xfs (xlk pl.2.2.2.2.2.2.2.2.1 i), xhnOf xMs, fun _ => (q.2.2.2.2.1, q.2.2.2.2.2.1, q.2.2.2.2.2.2.1, q.2.2.2.2.2.2.2.1, q.2.2.2.2.2.2.2.2.1), xftOf xCds, xfdOf xCds, fun _ i => xfs (xlk pl.2.2.2.2.2.2.2.2.2.1 i), 100, fun _ i => xfs (xlk pl.2.2.2.2.2.2.2.2.2.2.1 i), fun _ i => xfs (xlk pl.2.2.2.2.2.2.2.2.2.2.2.1 i), fun _ i => xfs (xlk pl.2.2.2.2.2.2.2.2.2.2.2.2 i))
/-- calls done at once: (method, word, kind) -/
def zbi (T : List (Int64 × Nat)) (y : Nat) (vs : List Value) : Option Nat := match Nat.beq y 315, vs with
  | true, [.long w] => T.findSome? fun e => if e.1 = w then some e.2 else none
  | _, _ => none
/-- the callee of a call's entry, with its method -/
def zcj (pl : xPool) (kd j : Nat) : Option (Nat × Nat × xMth) := match Nat.blt j 70000, kd with
  | true, 2 => (match xfs (xlk pl.2.2.2.2.2.2.2.2.1 j) with
    | some z => (match xMt xMs z.1 with
      | some q => (match q.2.2.2.2.2.1 with | true => some (z.1, z.2, q) | false => none)
      | none => none)
    | none => (match xfs (xlk pl.2.2.2.2.2.2.2.2.1 (j + 70000)) with
      | some z => (match xMt xMs z.1 with
        | some q => (match q.2.2.2.2.2.1 with | true => none | false => some (z.1, z.2, q))
        | none => none)
      | none => none))
  | true, _ => (match xfs (xlk pl.2.2.2.2.2.2.2.2.1 j) with
    | some z => (match xMt xMs z.1 with
      | some q => some (z.1, z.2, q)
      | none => none)
    | none => none)
  | false, _ => none
def zrb (T : List (Int64 × Nat)) (b : Bool) (v : Value) : Nat → Nat → xMth → xPool → Nat → List Value → List Value → List xO → Option (Option Value × List xO)
  | 0, _, _, _, _, _, _, _ => none
  | f + 1, d, q, pl, pc, L, st, ah => match xlk q.2.2.2.2.2.2.2.2.2.1 pc with
    | none => none
    | some (i, n) => match xinv i with
      | some (kd, j) => if n = 3 then (match zcj pl kd j with
        | some (y, na, q') => ((match xtake (if kd = 0 then na else na + 1) st with
            | some (vs, rr) => if xrecv (zPg b v q' pl) kd y ah vs = true ∧ rr.length ≤ 12 ∧ q'.2.2.2.2.1 ≤ 20 ∧ (xlay vs).length ≤ q'.2.2.2.2.1 then (match d with
              | 0 => none
              | d' + 1 => (match zbi T y vs with
                | some k => zrb T b v f (d' + 1) q pl (pc + 3) L (.ref k :: rr) ah
                | none => (match zrb T b v f d' q' (xPl xPs q'.1) 0 (xentry vs q'.2.2.2.2.1) [] ah with
                  | some (w, ah1) => zrb T b v f (d' + 1) q pl (pc + 3) L (w.toList ++ rr) ah1
                  | none => none))) else none
            | none => none))
        | none => (match xfs (xlk pl.2.2.2.2.2.2.2.2.1 j), xfs (xlk pl.2.2.2.2.2.2.2.2.1 (j + 70000)), kd with
          | none, none, 2 => (match x_oinit (xP_oi (zPg b v q pl) 0) j st with
            | some st' => zrb T b v f d q pl (pc + 3) L st' ah
            | none => none)
          | none, none, 0 => (match x_math (xP_ma (zPg b v q pl) 0) j st with
            | some st' => zrb T b v f d q pl (pc + 3) L st' ah
            | none => (match x_acp 81 (xP_ma (zPg b v q pl) 0) j ah st with
              | some (ah', st') => zrb T b v f d q pl (pc + 3) L st' ah'
              | none => none))
          | none, none, 1 => (match x_cln (xP_ma (zPg b v q pl) 0) (xlk q.2.2.2.2.2.2.2.2.2.1 (pc + 3)) j ah st with
            | some (ah', st') => zrb T b v f d q pl (pc + 6) L st' ah'
            | none => none)
          | _, _, _ => none)) else none
      | none => match xret q.2.2.2.2.2.2.2.1 i n st with
        | some w => some (w, ah)
        | none => (match xone (zPg b v q pl) 81 0 pc L st ah with
          | some (pc', L', st', ah') => zrb T b v f d q pl pc' L' st' ah'
          | none => none)
/-- one call in the law's frame -/
def zca (T : List (Int64 × Nat)) (b : Bool) (v : Value) (f y : Nat) (vs : List Value) (ah : List xO) : Option (Option Value × List xO) := match xMt xMs y with
  | some q => zrb T b v f 60 q (xPl xPs q.1) 0 (xentry vs q.2.2.2.2.1) [] ah
  | none => none
def zT : List (Int64 × Nat) := [(58, 49), (61, 50), (97, 62), (98, 62), (103, 62), (112, 62), (118, 62), (6647396, 21), (7366002, 12), (7499639, 18), (7566701, 6), (7630704, 15), (1650552420, 13), (1818848869, 22), (1885431653, 0), (418330731890, 19), (427071729268, 7), (444301538672, 3), (478660552050, 1), (482670503283, 44), (500086104428, 5), (123563648839279, 43), (32498735168713337, 20)]
/-- the text is made, fed and compiled -/
def zf2 (v : Value) (h : Int32) (H : List xO) : Option (Nat × Int32 × List xO) := match zca zT true v 60000 197 [.ref 137] (H ++ [.inr (11, xP_fd (xPrg v) 11)]) with
  | some (none, H1) => (match zca zT true v 60000 199 [.ref 137, .ref 73] H1 with
    | some (some (.ref a2), H2) => (match zca zT true v 60000 208 [.ref a2, .int h] H2 with
      | some (some (.ref a3), H3) => (match zca zT true v 60000 199 [.ref a3, .ref 75] H3 with
        | some (some (.ref a4), H4) => (match zca zT true v 60000 212 [.ref a4] H4 with
          | some (some (.ref x), H5) => (match zca zT true v 60000 3 [.ref 81, .ref x] H5 with
            | some (some (.int r), H6) => some (x, r, H6)
            | _ => none)
          | _ => none)
        | _ => none)
      | _ => none)
    | _ => none)
  | _ => none
def zck2 (v : Value) (h : Int32) : Bool := match yf1 v with
  | some (_, _, _, H1) => (match zf2 v h (H1.set 85 xUn) with
    | some (_, r, H) => decide (r = 0) && ypr2 h.toInt H
    | none => false)
  | none => false
end YFE
