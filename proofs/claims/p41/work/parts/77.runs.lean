/-! RUNS: what a run of a strategy is -/
/-- begun, rewritten, the trail, whether it went over -/
abbrev RnS : Type := Nat × Nat × List (Nat × Int64) × Bool
abbrev RnR : Type := Option Tm × RnS
abbrev ovr (q : RnS) : RnR := (none, (q.1, q.2.1, q.2.2.1, true))
abbrev bgn (q : RnS) : RnS := (q.1 + 1, q.2.1, q.2.2.1, q.2.2.2)
/-- a failing run leaves the trail as it was -/
abbrev bck (q : RnS) (o : RnR) : RnR := match o with
  | (some t, q') => (some t, q')
  | (none, q') => (none, (q'.1, q'.2.1, q.2.2.1, q'.2.2.2))
def chk (t : Tm) (q : RnS) : RnR := if 40 < sz t then ovr q else (some t, q)
def rulC (cm : Nat) (rl : Tm × Tm) (r : Nat) (t : Tm) (p : Int64) (q : RnS) : RnR := match mat cm rl.1 t with
  | none => (none, q)
  | some e => if q.2.1 = 40 then ovr q else if 40 < sz (sbT e rl.2) then ovr q else (some (sbT e rl.2), (q.1, q.2.1 + 1, q.2.2.1 ++ [(r, p)], q.2.2.2))
section
variable (R : Tm → Int64 → RnS → RnR)
def allC (t : Tm) (p : Int64) (q : RnS) : RnR := match t with
  | .leaf => (none, q)
  | .inner n c u a b => if is2 c then (match R a (pth p 1) q with
      | (none, q1) => (none, q1)
      | (some a', q1) => match R b (pth p 2) q1 with
        | (none, q2) => (none, q2)
        | (some b', q2) => chk (.inner n c u a' b') q2)
    else if is1 c then (match R a (pth p 1) q with
      | (none, q1) => (none, q1)
      | (some a', q1) => chk (.inner n c u a' b) q1)
    else chk (.inner n c u a b) q
def oneC (t : Tm) (p : Int64) (q : RnS) : RnR := match t with
  | .leaf => (none, q)
  | .inner n c u a b => if is2 c then (match R a (pth p 1) q with
      | (some a', q1) => chk (.inner n c u a' b) q1
      | (none, q1) => if q1.2.2.2 = true then (none, q1) else match R b (pth p 2) q1 with
        | (some b', q2) => chk (.inner n c u a b') q2
        | (none, q2) => (none, q2))
    else if is1 c then (match R a (pth p 1) q with
      | (some a', q1) => chk (.inner n c u a' b) q1
      | (none, q1) => (none, q1))
    else (none, q)
def somC (t : Tm) (p : Int64) (q : RnS) : RnR := match t with
  | .leaf => (none, q)
  | .inner n c u a b => if is2 c then (match R a (pth p 1) q with
      | (some a', q1) => (match R b (pth p 2) q1 with
        | (some b', q2) => chk (.inner n c u a' b') q2
        | (none, q2) => if q2.2.2.2 = true then (none, q2) else chk (.inner n c u a' b) q2)
      | (none, q1) => if q1.2.2.2 = true then (none, q1) else match R b (pth p 2) q1 with
        | (some b', q2) => chk (.inner n c u a b') q2
        | (none, q2) => (none, q2))
    else if is1 c then (match R a (pth p 1) q with
      | (some a', q1) => chk (.inner n c u a' b) q1
      | (none, q1) => (none, q1))
    else (none, q)
/-- again and again, until it fails -/
def repC : Nat → Tm → Int64 → RnS → RnR
  | 0, _, _, q => ovr q
  | m + 1, t, p, q => match R t p q with
    | (some t', q1) => repC m t' p q1
    | (none, q1) => if q1.2.2.2 = true then (none, q1) else (some t, q1)
/-- arguments first, then here; then all again -/
def innC (S : Tm → Int64 → RnS → RnR) : Nat → Tm → Int64 → RnS → RnR
  | 0, _, _, q => ovr q
  | m + 1, t, p, q => match allC R t p q with
    | (none, q1) => (none, q1)
    | (some t1, q1) => match S t1 p q1 with
      | (none, q2) => if q2.2.2.2 = true then (none, q2) else (some t1, q2)
      | (some t2, q2) => if q2.1 = 600 then ovr q2 else innC S m t2 p (bgn q2)
end
/-- a run: what strategies are is told by g, what rules do by f -/
def runF (g : Int32 → Nat × Int32 × Int32) (f : Int32 → Tm → Int64 → RnS → RnR) : Nat → Int32 → Tm → Int64 → RnS → RnR
  | 0, _, _, _, q => ovr q
  | n + 1, s, t, p, q => if q.1 = 600 then ovr q else bck q (match (g s).1 with
    | 0 => f (g s).2.1 t p (bgn q)
    | 1 => (some t, bgn q)
    | 2 => (none, bgn q)
    | 3 => (match runF g f n (g s).2.1 t p (bgn q) with
      | (none, q1) => (none, q1)
      | (some t1, q1) => runF g f n (g s).2.2 t1 p q1)
    | 4 => (match runF g f n (g s).2.1 t p (bgn q) with
      | (some t1, q1) => (some t1, q1)
      | (none, q1) => if q1.2.2.2 = true then (none, q1) else runF g f n (g s).2.2 t p q1)
    | 5 => (match runF g f n (g s).2.1 t p (bgn q) with
      | (some t1, q1) => (some t1, q1)
      | (none, q1) => if q1.2.2.2 = true then (none, q1) else (some t, q1))
    | 6 => allC (runF g f n (g s).2.1) t p (bgn q)
    | 7 => oneC (runF g f n (g s).2.1) t p (bgn q)
    | 8 => somC (runF g f n (g s).2.1) t p (bgn q)
    | 9 => (match allC (runF g f n s) t p (bgn q) with
      | (none, q1) => (none, q1)
      | (some t1, q1) => runF g f n (g s).2.1 t1 p q1)
    | 10 => (match runF g f n (g s).2.1 t p (bgn q) with
      | (none, q1) => (none, q1)
      | (some t1, q1) => allC (runF g f n s) t1 p q1)
    | 11 => (match runF g f n (g s).2.1 t p (bgn q) with
      | (some t1, q1) => (some t1, q1)
      | (none, q1) => if q1.2.2.2 = true then (none, q1) else oneC (runF g f n s) t p q1)
    | 12 => innC (runF g f n s) (runF g f n (g s).2.1) 601 t p (bgn q)
    | _ => repC (runF g f n (g s).2.1) 601 t p (bgn q))
