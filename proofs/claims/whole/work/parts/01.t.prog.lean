/-! ===== the tables as a program of the mini machine ===== -/
def mt_find : List (Nat × Instr × Nat) → Nat → Option (Instr × Nat)
  | [], _ => none
  | (q, i, n) :: r, pc => if q == pc then some (i, n) else mt_find r pc
def mt_look {α : Type} : List (Nat × Nat × α) → Nat → Nat → Option α
  | [], _, _ => none
  | (c, i, v) :: r, c', i' => if c == c' && i == i' then some v else mt_look r c' i'
def mt_hd (y pc x : Nat) : Option Nat := ((mt_hh.getD y []).find? fun h => decide (h.1 ≤ pc) && decide (pc < h.2.1) && ((h.2.2.2 == 13 && x == 1) || (h.2.2.2 == 15 && x != 1))).map fun h => h.2.2.1
def mt_P (sc : Nat × (Int → Int)) : mm_P := (fun i => mt_kd[i]?, fun y => mt_mt[y]?, fun y pc => mt_find (mt_co.getD y []) pc, mt_hd, fun d k => ((mt_ft.getD d [])[k]?).map (·.1), fun d k => (((mt_ft.getD d [])[k]?).map (·.2)).getD false,
  fun c i => (mt_look mt_lf c i).map fun v => (v.1, v.2.1), fun c i => (mt_look mt_lm c i).map (·.1), fun c i => (mt_look mt_lc c i).map (·.1), fun c i => (mt_look mt_lj c i).map (·.1), fun c i => (mt_look mt_ln c i).map (·.1), fun c i => (mt_look mt_la c i).map (·.1), fun c i => (mt_look mt_lt c i).map (·.1), sc)
