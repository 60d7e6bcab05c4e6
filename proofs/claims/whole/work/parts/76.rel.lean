/-! where the cells lie that the law makes -/
def sg (c : Nat) : Nat := if c < 14 then 119 + c else if c < 133 then c - 14 else c
def csF (cI cZ cJ : ClassId) : List va_E := ([] ++ (bN6 cI cZ cJ).map (she 0) ++ (bN7 cI cZ cJ).map (she 119)) ++ [.inl (cJ, 1, .inr (.inl (fun _ => 0)))]
def relE (cI cZ cJ : ClassId) (c : Nat) : va_E :=
  if kd c < 8 then .inr (kd c, (List.range (nfl (kd c))).map (fun k => match rfk (kd c) k c with | some q => .ref (sg q) | none => .int (mem0 c k))) else if kd c = 8 then .inl (cI, ln c, .inl (mem0 c)) else if kd c = 9 then .inl (cZ, ln c, .inl (mem0 c)) else .inl (cJ, ln c, .inr (.inl (fun i => (mem0 c i).toInt64)))
theorem rel_1 (cI cZ cJ : ClassId) : (csF cI cZ cJ)[sg 1]? = some (relE cI cZ cJ 1) := rfl
