/-! the cells of a new object, one by one -/
theorem bN5_eq (cI cZ cJ : ClassId) : bN5 cI cZ cJ = [.inr (5, [.int 1, .ref 1, .ref 2, .ref 3, .ref 4, .ref 5, .ref 6]), .inl (cI, 6, .inl (fun _ => 0)), .inl (cI, 6, .inl (fun _ => 0)), .inl (cI, 6, .inl (fun _ => 0)), .inl (cI, 6, .inl (fun _ => 0)), .inl (cI, 24, .inl (fun _ => 0)), .inl (cI, 24, .inl (fun _ => 0))] := by
  unfold bN5
  simp only [List.map_append, List.map_cons, List.map_nil, List.append_assoc, List.nil_append, List.cons_append, List.append_nil, she, shv, Nat.reduceAdd]
theorem bN2_eq (cI cZ cJ : ClassId) : bN2 cI cZ cJ = [.inr (2, [.int 0, .int 9999, .ref 1, .ref 2, .ref 3, .ref 4, .ref 5, .ref 6, .ref 7, .ref 8, .ref 9, .ref 10]), .inl (cI, 4, .inl (fun _ => 0)), .inl (cI, 12, .inl (fun _ => 0)), .inl (cI, 12, .inl (fun _ => 0)), .inl (cI, 12, .inl (fun _ => 0)), .inl (cI, 12, .inl (fun _ => 0)), .inl (cI, 12, .inl (fun _ => 0)), .inl (cI, 12, .inl (fun _ => 0)), .inl (cI, 12, .inl (fun _ => 0)), .inl (cI, 36, .inl (fun _ => 0)), .inl (cI, 36, .inl (fun _ => 0))] := by
  unfold bN2
  simp only [List.map_append, List.map_cons, List.map_nil, List.append_assoc, List.nil_append, List.cons_append, List.append_nil, she, shv, Nat.reduceAdd]
theorem bN1_eq (cI cZ cJ : ClassId) : bN1 cI cZ cJ = [.inr (1, [.ref 1, .ref 8]), .inr (5, [.int 1, .ref 2, .ref 3, .ref 4, .ref 5, .ref 6, .ref 7]), .inl (cI, 6, .inl (fun _ => 0)), .inl (cI, 6, .inl (fun _ => 0)), .inl (cI, 6, .inl (fun _ => 0)), .inl (cI, 6, .inl (fun _ => 0)), .inl (cI, 24, .inl (fun _ => 0)), .inl (cI, 24, .inl (fun _ => 0)), .inr (2, [.int 0, .int 9999, .ref 9, .ref 10, .ref 11, .ref 12, .ref 13, .ref 14, .ref 15, .ref 16, .ref 17, .ref 18]), .inl (cI, 4, .inl (fun _ => 0)), .inl (cI, 12, .inl (fun _ => 0)), .inl (cI, 12, .inl (fun _ => 0)), .inl (cI, 12, .inl (fun _ => 0)), .inl (cI, 12, .inl (fun _ => 0)), .inl (cI, 12, .inl (fun _ => 0)), .inl (cI, 12, .inl (fun _ => 0)), .inl (cI, 12, .inl (fun _ => 0)), .inl (cI, 36, .inl (fun _ => 0)), .inl (cI, 36, .inl (fun _ => 0))] := by
  unfold bN1
  simp only [bN5_eq, bN2_eq, List.map_append, List.map_cons, List.map_nil, List.append_assoc, List.nil_append, List.cons_append, List.append_nil, she, shv, Nat.reduceAdd]
theorem bN0_eq (cI cZ cJ : ClassId) : bN0 cI cZ cJ = [.inr (0, [.ref 1, .ref 20, .ref 21, .ref 22, .ref 23, .ref 24, .ref 25, .ref 26, .ref 27, .ref 28, .int 0, .int 0]), .inr (1, [.ref 2, .ref 9]), .inr (5, [.int 1, .ref 3, .ref 4, .ref 5, .ref 6, .ref 7, .ref 8]), .inl (cI, 6, .inl (fun _ => 0)), .inl (cI, 6, .inl (fun _ => 0)), .inl (cI, 6, .inl (fun _ => 0)), .inl (cI, 6, .inl (fun _ => 0)), .inl (cI, 24, .inl (fun _ => 0)), .inl (cI, 24, .inl (fun _ => 0)), .inr (2, [.int 0, .int 9999, .ref 10, .ref 11, .ref 12, .ref 13, .ref 14, .ref 15, .ref 16, .ref 17, .ref 18, .ref 19]), .inl (cI, 4, .inl (fun _ => 0)), .inl (cI, 12, .inl (fun _ => 0)), .inl (cI, 12, .inl (fun _ => 0)), .inl (cI, 12, .inl (fun _ => 0)), .inl (cI, 12, .inl (fun _ => 0)), .inl (cI, 12, .inl (fun _ => 0)), .inl (cI, 12, .inl (fun _ => 0)), .inl (cI, 12, .inl (fun _ => 0)), .inl (cI, 36, .inl (fun _ => 0)), .inl (cI, 36, .inl (fun _ => 0)), .inl (cI, 6, .inl (fun _ => 0)), .inl (cI, 6, .inl (fun _ => 0)), .inl (cI, 6, .inl (fun _ => 0)), .inl (cI, 48, .inl (fun _ => 0)), .inl (cI, 48, .inl (fun _ => 0)), .inl (cI, 48, .inl (fun _ => 0)), .inl (cI, 6, .inl (fun _ => 0)), .inl (cI, 6, .inl (fun _ => 0)), .inl (cI, 6, .inl (fun _ => 0))] := by
  unfold bN0
  simp only [bN1_eq, List.map_append, List.map_cons, List.map_nil, List.append_assoc, List.nil_append, List.cons_append, List.append_nil, she, shv, Nat.reduceAdd]
theorem bN3_eq (cI cZ cJ : ClassId) : bN3 cI cZ cJ = [.inr (3, [.ref 1, .int 0]), .inl (cI, 500, .inl (fun _ => 0))] := by
  unfold bN3
  simp only [List.map_append, List.map_cons, List.map_nil, List.append_assoc, List.nil_append, List.cons_append, List.append_nil, she, shv, Nat.reduceAdd]
theorem bN4_eq (cI cZ cJ : ClassId) : bN4 cI cZ cJ = [.inr (4, [.ref 1, .ref 3, .int 0, .int 0, .int 0, .int 0, .int 0, .int 0]), .inr (3, [.ref 2, .int 0]), .inl (cI, 500, .inl (fun _ => 0)), .inr (1, [.ref 4, .ref 11]), .inr (5, [.int 1, .ref 5, .ref 6, .ref 7, .ref 8, .ref 9, .ref 10]), .inl (cI, 6, .inl (fun _ => 0)), .inl (cI, 6, .inl (fun _ => 0)), .inl (cI, 6, .inl (fun _ => 0)), .inl (cI, 6, .inl (fun _ => 0)), .inl (cI, 24, .inl (fun _ => 0)), .inl (cI, 24, .inl (fun _ => 0)), .inr (2, [.int 0, .int 9999, .ref 12, .ref 13, .ref 14, .ref 15, .ref 16, .ref 17, .ref 18, .ref 19, .ref 20, .ref 21]), .inl (cI, 4, .inl (fun _ => 0)), .inl (cI, 12, .inl (fun _ => 0)), .inl (cI, 12, .inl (fun _ => 0)), .inl (cI, 12, .inl (fun _ => 0)), .inl (cI, 12, .inl (fun _ => 0)), .inl (cI, 12, .inl (fun _ => 0)), .inl (cI, 12, .inl (fun _ => 0)), .inl (cI, 12, .inl (fun _ => 0)), .inl (cI, 36, .inl (fun _ => 0)), .inl (cI, 36, .inl (fun _ => 0))] := by
  unfold bN4
  simp only [bN3_eq, bN1_eq, List.map_append, List.map_cons, List.map_nil, List.append_assoc, List.nil_append, List.cons_append, List.append_nil, she, shv, Nat.reduceAdd]
theorem bN6_eq (cI cZ cJ : ClassId) : bN6 cI cZ cJ = [.inr (6, [.ref 1, .ref 30, .ref 59, .ref 81, .ref 100, .int 0, .int 0]), .inr (0, [.ref 2, .ref 21, .ref 22, .ref 23, .ref 24, .ref 25, .ref 26, .ref 27, .ref 28, .ref 29, .int 0, .int 0]), .inr (1, [.ref 3, .ref 10]), .inr (5, [.int 1, .ref 4, .ref 5, .ref 6, .ref 7, .ref 8, .ref 9]), .inl (cI, 6, .inl (fun _ => 0)), .inl (cI, 6, .inl (fun _ => 0)), .inl (cI, 6, .inl (fun _ => 0)), .inl (cI, 6, .inl (fun _ => 0)), .inl (cI, 24, .inl (fun _ => 0)), .inl (cI, 24, .inl (fun _ => 0)), .inr (2, [.int 0, .int 9999, .ref 11, .ref 12, .ref 13, .ref 14, .ref 15, .ref 16, .ref 17, .ref 18, .ref 19, .ref 20]), .inl (cI, 4, .inl (fun _ => 0)), .inl (cI, 12, .inl (fun _ => 0)), .inl (cI, 12, .inl (fun _ => 0)), .inl (cI, 12, .inl (fun _ => 0)), .inl (cI, 12, .inl (fun _ => 0)), .inl (cI, 12, .inl (fun _ => 0)), .inl (cI, 12, .inl (fun _ => 0)), .inl (cI, 12, .inl (fun _ => 0)), .inl (cI, 36, .inl (fun _ => 0)), .inl (cI, 36, .inl (fun _ => 0)), .inl (cI, 6, .inl (fun _ => 0)), .inl (cI, 6, .inl (fun _ => 0)), .inl (cI, 6, .inl (fun _ => 0)), .inl (cI, 48, .inl (fun _ => 0)), .inl (cI, 48, .inl (fun _ => 0)), .inl (cI, 48, .inl (fun _ => 0)), .inl (cI, 6, .inl (fun _ => 0)), .inl (cI, 6, .inl (fun _ => 0)), .inl (cI, 6, .inl (fun _ => 0)), .inr (0, [.ref 31, .ref 50, .ref 51, .ref 52, .ref 53, .ref 54, .ref 55, .ref 56, .ref 57, .ref 58, .int 0, .int 0]), .inr (1, [.ref 32, .ref 39]), .inr (5, [.int 1, .ref 33, .ref 34, .ref 35, .ref 36, .ref 37, .ref 38]), .inl (cI, 6, .inl (fun _ => 0)), .inl (cI, 6, .inl (fun _ => 0)), .inl (cI, 6, .inl (fun _ => 0)), .inl (cI, 6, .inl (fun _ => 0)), .inl (cI, 24, .inl (fun _ => 0)), .inl (cI, 24, .inl (fun _ => 0)), .inr (2, [.int 0, .int 9999, .ref 40, .ref 41, .ref 42, .ref 43, .ref 44, .ref 45, .ref 46, .ref 47, .ref 48, .ref 49]), .inl (cI, 4, .inl (fun _ => 0)), .inl (cI, 12, .inl (fun _ => 0)), .inl (cI, 12, .inl (fun _ => 0)), .inl (cI, 12, .inl (fun _ => 0)), .inl (cI, 12, .inl (fun _ => 0)), .inl (cI, 12, .inl (fun _ => 0)), .inl (cI, 12, .inl (fun _ => 0)), .inl (cI, 12, .inl (fun _ => 0)), .inl (cI, 36, .inl (fun _ => 0)), .inl (cI, 36, .inl (fun _ => 0)), .inl (cI, 6, .inl (fun _ => 0)), .inl (cI, 6, .inl (fun _ => 0)), .inl (cI, 6, .inl (fun _ => 0)), .inl (cI, 48, .inl (fun _ => 0)), .inl (cI, 48, .inl (fun _ => 0)), .inl (cI, 48, .inl (fun _ => 0)), .inl (cI, 6, .inl (fun _ => 0)), .inl (cI, 6, .inl (fun _ => 0)), .inl (cI, 6, .inl (fun _ => 0)), .inr (4, [.ref 60, .ref 62, .int 0, .int 0, .int 0, .int 0, .int 0, .int 0]), .inr (3, [.ref 61, .int 0]), .inl (cI, 500, .inl (fun _ => 0)), .inr (1, [.ref 63, .ref 70]), .inr (5, [.int 1, .ref 64, .ref 65, .ref 66, .ref 67, .ref 68, .ref 69]), .inl (cI, 6, .inl (fun _ => 0)), .inl (cI, 6, .inl (fun _ => 0)), .inl (cI, 6, .inl (fun _ => 0)), .inl (cI, 6, .inl (fun _ => 0)), .inl (cI, 24, .inl (fun _ => 0)), .inl (cI, 24, .inl (fun _ => 0)), .inr (2, [.int 0, .int 9999, .ref 71, .ref 72, .ref 73, .ref 74, .ref 75, .ref 76, .ref 77, .ref 78, .ref 79, .ref 80]), .inl (cI, 4, .inl (fun _ => 0)), .inl (cI, 12, .inl (fun _ => 0)), .inl (cI, 12, .inl (fun _ => 0)), .inl (cI, 12, .inl (fun _ => 0)), .inl (cI, 12, .inl (fun _ => 0)), .inl (cI, 12, .inl (fun _ => 0)), .inl (cI, 12, .inl (fun _ => 0)), .inl (cI, 12, .inl (fun _ => 0)), .inl (cI, 36, .inl (fun _ => 0)), .inl (cI, 36, .inl (fun _ => 0)), .inr (1, [.ref 82, .ref 89]), .inr (5, [.int 1, .ref 83, .ref 84, .ref 85, .ref 86, .ref 87, .ref 88]), .inl (cI, 6, .inl (fun _ => 0)), .inl (cI, 6, .inl (fun _ => 0)), .inl (cI, 6, .inl (fun _ => 0)), .inl (cI, 6, .inl (fun _ => 0)), .inl (cI, 24, .inl (fun _ => 0)), .inl (cI, 24, .inl (fun _ => 0)), .inr (2, [.int 0, .int 9999, .ref 90, .ref 91, .ref 92, .ref 93, .ref 94, .ref 95, .ref 96, .ref 97, .ref 98, .ref 99]), .inl (cI, 4, .inl (fun _ => 0)), .inl (cI, 12, .inl (fun _ => 0)), .inl (cI, 12, .inl (fun _ => 0)), .inl (cI, 12, .inl (fun _ => 0)), .inl (cI, 12, .inl (fun _ => 0)), .inl (cI, 12, .inl (fun _ => 0)), .inl (cI, 12, .inl (fun _ => 0)), .inl (cI, 12, .inl (fun _ => 0)), .inl (cI, 36, .inl (fun _ => 0)), .inl (cI, 36, .inl (fun _ => 0)), .inr (1, [.ref 101, .ref 108]), .inr (5, [.int 1, .ref 102, .ref 103, .ref 104, .ref 105, .ref 106, .ref 107]), .inl (cI, 6, .inl (fun _ => 0)), .inl (cI, 6, .inl (fun _ => 0)), .inl (cI, 6, .inl (fun _ => 0)), .inl (cI, 6, .inl (fun _ => 0)), .inl (cI, 24, .inl (fun _ => 0)), .inl (cI, 24, .inl (fun _ => 0)), .inr (2, [.int 0, .int 9999, .ref 109, .ref 110, .ref 111, .ref 112, .ref 113, .ref 114, .ref 115, .ref 116, .ref 117, .ref 118]), .inl (cI, 4, .inl (fun _ => 0)), .inl (cI, 12, .inl (fun _ => 0)), .inl (cI, 12, .inl (fun _ => 0)), .inl (cI, 12, .inl (fun _ => 0)), .inl (cI, 12, .inl (fun _ => 0)), .inl (cI, 12, .inl (fun _ => 0)), .inl (cI, 12, .inl (fun _ => 0)), .inl (cI, 12, .inl (fun _ => 0)), .inl (cI, 36, .inl (fun _ => 0)), .inl (cI, 36, .inl (fun _ => 0))] := by
  unfold bN6
  simp only [bN0_eq, bN4_eq, bN1_eq, List.map_append, List.map_cons, List.map_nil, List.append_assoc, List.nil_append, List.cons_append, List.append_nil, she, shv, Nat.reduceAdd]
def relE (cI : ClassId) (c : Nat) : va_E :=
  if kd c < 8 then .inr (kd c, (List.range (nfl (kd c))).map (fun k => match rfk (kd c) k c with | some q => .ref (q - 14) | none => .int (mem0 c k))) else .inl (cI, ln c, .inl (mem0 c))
section
variable {cI cZ cJ : ClassId} {c : Nat}
theorem relE_8 (h : kd c = 8) {N : Nat} {f : Nat → Int32} (h2 : ln c = N) (h3 : mem0 c = f) : relE cI c = .inl (cI, N, .inl f) := by
  unfold relE
  rw [if_neg (by omega), h2, h3]
theorem relE_o {ci : Nat} (h : kd c = ci) (hc : ci < 8) {vs : List Value} (h2 : (List.range (nfl ci)).map (fun k => match rfk ci k c with | some q => Value.ref (q - 14) | none => Value.int (mem0 c k)) = vs) : relE cI c = .inr (ci, vs) := by
  unfold relE
  rw [h, if_pos hc, h2]
end
def csL (cI cZ cJ : ClassId) : List va_E := [.inr (6, [.ref 1, .ref 30, .ref 59, .ref 81, .ref 100, .int 0, .int 0]), .inr (0, [.ref 2, .ref 21, .ref 22, .ref 23, .ref 24, .ref 25, .ref 26, .ref 27, .ref 28, .ref 29, .int 0, .int 0]), .inr (1, [.ref 3, .ref 10]), .inr (5, [.int 1, .ref 4, .ref 5, .ref 6, .ref 7, .ref 8, .ref 9]), .inl (cI, 6, .inl (fun _ => 0)), .inl (cI, 6, .inl (fun _ => 0)), .inl (cI, 6, .inl (fun _ => 0)), .inl (cI, 6, .inl (fun _ => 0)), .inl (cI, 24, .inl (fun _ => 0)), .inl (cI, 24, .inl (fun _ => 0)), .inr (2, [.int 0, .int 9999, .ref 11, .ref 12, .ref 13, .ref 14, .ref 15, .ref 16, .ref 17, .ref 18, .ref 19, .ref 20]), .inl (cI, 4, .inl (fun _ => 0)), .inl (cI, 12, .inl (fun _ => 0)), .inl (cI, 12, .inl (fun _ => 0)), .inl (cI, 12, .inl (fun _ => 0)), .inl (cI, 12, .inl (fun _ => 0)), .inl (cI, 12, .inl (fun _ => 0)), .inl (cI, 12, .inl (fun _ => 0)), .inl (cI, 12, .inl (fun _ => 0)), .inl (cI, 36, .inl (fun _ => 0)), .inl (cI, 36, .inl (fun _ => 0)), .inl (cI, 6, .inl (fun _ => 0)), .inl (cI, 6, .inl (fun _ => 0)), .inl (cI, 6, .inl (fun _ => 0)), .inl (cI, 48, .inl (fun _ => 0)), .inl (cI, 48, .inl (fun _ => 0)), .inl (cI, 48, .inl (fun _ => 0)), .inl (cI, 6, .inl (fun _ => 0)), .inl (cI, 6, .inl (fun _ => 0)), .inl (cI, 6, .inl (fun _ => 0)), .inr (0, [.ref 31, .ref 50, .ref 51, .ref 52, .ref 53, .ref 54, .ref 55, .ref 56, .ref 57, .ref 58, .int 0, .int 0]), .inr (1, [.ref 32, .ref 39]), .inr (5, [.int 1, .ref 33, .ref 34, .ref 35, .ref 36, .ref 37, .ref 38]), .inl (cI, 6, .inl (fun _ => 0)), .inl (cI, 6, .inl (fun _ => 0)), .inl (cI, 6, .inl (fun _ => 0)), .inl (cI, 6, .inl (fun _ => 0)), .inl (cI, 24, .inl (fun _ => 0)), .inl (cI, 24, .inl (fun _ => 0)), .inr (2, [.int 0, .int 9999, .ref 40, .ref 41, .ref 42, .ref 43, .ref 44, .ref 45, .ref 46, .ref 47, .ref 48, .ref 49]), .inl (cI, 4, .inl (fun _ => 0)), .inl (cI, 12, .inl (fun _ => 0)), .inl (cI, 12, .inl (fun _ => 0)), .inl (cI, 12, .inl (fun _ => 0)), .inl (cI, 12, .inl (fun _ => 0)), .inl (cI, 12, .inl (fun _ => 0)), .inl (cI, 12, .inl (fun _ => 0)), .inl (cI, 12, .inl (fun _ => 0)), .inl (cI, 36, .inl (fun _ => 0)), .inl (cI, 36, .inl (fun _ => 0)), .inl (cI, 6, .inl (fun _ => 0)), .inl (cI, 6, .inl (fun _ => 0)), .inl (cI, 6, .inl (fun _ => 0)), .inl (cI, 48, .inl (fun _ => 0)), .inl (cI, 48, .inl (fun _ => 0)), .inl (cI, 48, .inl (fun _ => 0)), .inl (cI, 6, .inl (fun _ => 0)), .inl (cI, 6, .inl (fun _ => 0)), .inl (cI, 6, .inl (fun _ => 0)), .inr (4, [.ref 60, .ref 62, .int 0, .int 0, .int 0, .int 0, .int 0, .int 0]), .inr (3, [.ref 61, .int 0]), .inl (cI, 500, .inl (fun _ => 0)), .inr (1, [.ref 63, .ref 70]), .inr (5, [.int 1, .ref 64, .ref 65, .ref 66, .ref 67, .ref 68, .ref 69]), .inl (cI, 6, .inl (fun _ => 0)), .inl (cI, 6, .inl (fun _ => 0)), .inl (cI, 6, .inl (fun _ => 0)), .inl (cI, 6, .inl (fun _ => 0)), .inl (cI, 24, .inl (fun _ => 0)), .inl (cI, 24, .inl (fun _ => 0)), .inr (2, [.int 0, .int 9999, .ref 71, .ref 72, .ref 73, .ref 74, .ref 75, .ref 76, .ref 77, .ref 78, .ref 79, .ref 80]), .inl (cI, 4, .inl (fun _ => 0)), .inl (cI, 12, .inl (fun _ => 0)), .inl (cI, 12, .inl (fun _ => 0)), .inl (cI, 12, .inl (fun _ => 0)), .inl (cI, 12, .inl (fun _ => 0)), .inl (cI, 12, .inl (fun _ => 0)), .inl (cI, 12, .inl (fun _ => 0)), .inl (cI, 12, .inl (fun _ => 0)), .inl (cI, 36, .inl (fun _ => 0)), .inl (cI, 36, .inl (fun _ => 0)), .inr (1, [.ref 82, .ref 89]), .inr (5, [.int 1, .ref 83, .ref 84, .ref 85, .ref 86, .ref 87, .ref 88]), .inl (cI, 6, .inl (fun _ => 0)), .inl (cI, 6, .inl (fun _ => 0)), .inl (cI, 6, .inl (fun _ => 0)), .inl (cI, 6, .inl (fun _ => 0)), .inl (cI, 24, .inl (fun _ => 0)), .inl (cI, 24, .inl (fun _ => 0)), .inr (2, [.int 0, .int 9999, .ref 90, .ref 91, .ref 92, .ref 93, .ref 94, .ref 95, .ref 96, .ref 97, .ref 98, .ref 99]), .inl (cI, 4, .inl (fun _ => 0)), .inl (cI, 12, .inl (fun _ => 0)), .inl (cI, 12, .inl (fun _ => 0)), .inl (cI, 12, .inl (fun _ => 0)), .inl (cI, 12, .inl (fun _ => 0)), .inl (cI, 12, .inl (fun _ => 0)), .inl (cI, 12, .inl (fun _ => 0)), .inl (cI, 12, .inl (fun _ => 0)), .inl (cI, 36, .inl (fun _ => 0)), .inl (cI, 36, .inl (fun _ => 0)), .inr (1, [.ref 101, .ref 108]), .inr (5, [.int 1, .ref 102, .ref 103, .ref 104, .ref 105, .ref 106, .ref 107]), .inl (cI, 6, .inl (fun _ => 0)), .inl (cI, 6, .inl (fun _ => 0)), .inl (cI, 6, .inl (fun _ => 0)), .inl (cI, 6, .inl (fun _ => 0)), .inl (cI, 24, .inl (fun _ => 0)), .inl (cI, 24, .inl (fun _ => 0)), .inr (2, [.int 0, .int 9999, .ref 109, .ref 110, .ref 111, .ref 112, .ref 113, .ref 114, .ref 115, .ref 116, .ref 117, .ref 118]), .inl (cI, 4, .inl (fun _ => 0)), .inl (cI, 12, .inl (fun _ => 0)), .inl (cI, 12, .inl (fun _ => 0)), .inl (cI, 12, .inl (fun _ => 0)), .inl (cI, 12, .inl (fun _ => 0)), .inl (cI, 12, .inl (fun _ => 0)), .inl (cI, 12, .inl (fun _ => 0)), .inl (cI, 12, .inl (fun _ => 0)), .inl (cI, 36, .inl (fun _ => 0)), .inl (cI, 36, .inl (fun _ => 0))]
theorem rel_14 (cI cZ cJ : ClassId) : (csL cI cZ cJ)[0]? = some (relE cI 14) := by
  rw [relE_o (c := 14) (ci := 6) (by decide +kernel) (by omega) (vs := [.ref 1, .ref 30, .ref 59, .ref 81, .ref 100, .int 0, .int 0]) (by rfl)]
  rfl
theorem rel_15 (cI cZ cJ : ClassId) : (csL cI cZ cJ)[1]? = some (relE cI 15) := by
  rw [relE_o (c := 15) (ci := 0) (by decide +kernel) (by omega) (vs := [.ref 2, .ref 21, .ref 22, .ref 23, .ref 24, .ref 25, .ref 26, .ref 27, .ref 28, .ref 29, .int 0, .int 0]) (by rfl)]
  rfl
theorem rel_16 (cI cZ cJ : ClassId) : (csL cI cZ cJ)[2]? = some (relE cI 16) := by
  rw [relE_o (c := 16) (ci := 1) (by decide +kernel) (by omega) (vs := [.ref 3, .ref 10]) (by rfl)]
  rfl
theorem rel_17 (cI cZ cJ : ClassId) : (csL cI cZ cJ)[3]? = some (relE cI 17) := by
  rw [relE_o (c := 17) (ci := 5) (by decide +kernel) (by omega) (vs := [.int 1, .ref 4, .ref 5, .ref 6, .ref 7, .ref 8, .ref 9]) (by rfl)]
  rfl
theorem rel_18 (cI cZ cJ : ClassId) : (csL cI cZ cJ)[4]? = some (relE cI 18) := by
  rw [relE_8 (c := 18) (by decide +kernel) (N := 6) (f := (fun _ => 0)) (by decide +kernel) (by rfl)]
  rfl
theorem rel_19 (cI cZ cJ : ClassId) : (csL cI cZ cJ)[5]? = some (relE cI 19) := by
  rw [relE_8 (c := 19) (by decide +kernel) (N := 6) (f := (fun _ => 0)) (by decide +kernel) (by rfl)]
  rfl
theorem rel_20 (cI cZ cJ : ClassId) : (csL cI cZ cJ)[6]? = some (relE cI 20) := by
  rw [relE_8 (c := 20) (by decide +kernel) (N := 6) (f := (fun _ => 0)) (by decide +kernel) (by rfl)]
  rfl
theorem rel_21 (cI cZ cJ : ClassId) : (csL cI cZ cJ)[7]? = some (relE cI 21) := by
  rw [relE_8 (c := 21) (by decide +kernel) (N := 6) (f := (fun _ => 0)) (by decide +kernel) (by rfl)]
  rfl
theorem rel_22 (cI cZ cJ : ClassId) : (csL cI cZ cJ)[8]? = some (relE cI 22) := by
  rw [relE_8 (c := 22) (by decide +kernel) (N := 24) (f := (fun _ => 0)) (by decide +kernel) (by rfl)]
  rfl
theorem rel_23 (cI cZ cJ : ClassId) : (csL cI cZ cJ)[9]? = some (relE cI 23) := by
  rw [relE_8 (c := 23) (by decide +kernel) (N := 24) (f := (fun _ => 0)) (by decide +kernel) (by rfl)]
  rfl
theorem rel_24 (cI cZ cJ : ClassId) : (csL cI cZ cJ)[10]? = some (relE cI 24) := by
  rw [relE_o (c := 24) (ci := 2) (by decide +kernel) (by omega) (vs := [.int 0, .int 9999, .ref 11, .ref 12, .ref 13, .ref 14, .ref 15, .ref 16, .ref 17, .ref 18, .ref 19, .ref 20]) (by rfl)]
  rfl
theorem rel_25 (cI cZ cJ : ClassId) : (csL cI cZ cJ)[11]? = some (relE cI 25) := by
  rw [relE_8 (c := 25) (by decide +kernel) (N := 4) (f := (fun _ => 0)) (by decide +kernel) (by rfl)]
  rfl
theorem rel_26 (cI cZ cJ : ClassId) : (csL cI cZ cJ)[12]? = some (relE cI 26) := by
  rw [relE_8 (c := 26) (by decide +kernel) (N := 12) (f := (fun _ => 0)) (by decide +kernel) (by rfl)]
  rfl
theorem rel_27 (cI cZ cJ : ClassId) : (csL cI cZ cJ)[13]? = some (relE cI 27) := by
  rw [relE_8 (c := 27) (by decide +kernel) (N := 12) (f := (fun _ => 0)) (by decide +kernel) (by rfl)]
  rfl
theorem rel_28 (cI cZ cJ : ClassId) : (csL cI cZ cJ)[14]? = some (relE cI 28) := by
  rw [relE_8 (c := 28) (by decide +kernel) (N := 12) (f := (fun _ => 0)) (by decide +kernel) (by rfl)]
  rfl
theorem rel_29 (cI cZ cJ : ClassId) : (csL cI cZ cJ)[15]? = some (relE cI 29) := by
  rw [relE_8 (c := 29) (by decide +kernel) (N := 12) (f := (fun _ => 0)) (by decide +kernel) (by rfl)]
  rfl
theorem rel_30 (cI cZ cJ : ClassId) : (csL cI cZ cJ)[16]? = some (relE cI 30) := by
  rw [relE_8 (c := 30) (by decide +kernel) (N := 12) (f := (fun _ => 0)) (by decide +kernel) (by rfl)]
  rfl
theorem rel_31 (cI cZ cJ : ClassId) : (csL cI cZ cJ)[17]? = some (relE cI 31) := by
  rw [relE_8 (c := 31) (by decide +kernel) (N := 12) (f := (fun _ => 0)) (by decide +kernel) (by rfl)]
  rfl
theorem rel_32 (cI cZ cJ : ClassId) : (csL cI cZ cJ)[18]? = some (relE cI 32) := by
  rw [relE_8 (c := 32) (by decide +kernel) (N := 12) (f := (fun _ => 0)) (by decide +kernel) (by rfl)]
  rfl
theorem rel_33 (cI cZ cJ : ClassId) : (csL cI cZ cJ)[19]? = some (relE cI 33) := by
  rw [relE_8 (c := 33) (by decide +kernel) (N := 36) (f := (fun _ => 0)) (by decide +kernel) (by rfl)]
  rfl
theorem rel_34 (cI cZ cJ : ClassId) : (csL cI cZ cJ)[20]? = some (relE cI 34) := by
  rw [relE_8 (c := 34) (by decide +kernel) (N := 36) (f := (fun _ => 0)) (by decide +kernel) (by rfl)]
  rfl
theorem rel_35 (cI cZ cJ : ClassId) : (csL cI cZ cJ)[21]? = some (relE cI 35) := by
  rw [relE_8 (c := 35) (by decide +kernel) (N := 6) (f := (fun _ => 0)) (by decide +kernel) (by rfl)]
  rfl
theorem rel_36 (cI cZ cJ : ClassId) : (csL cI cZ cJ)[22]? = some (relE cI 36) := by
  rw [relE_8 (c := 36) (by decide +kernel) (N := 6) (f := (fun _ => 0)) (by decide +kernel) (by rfl)]
  rfl
theorem rel_37 (cI cZ cJ : ClassId) : (csL cI cZ cJ)[23]? = some (relE cI 37) := by
  rw [relE_8 (c := 37) (by decide +kernel) (N := 6) (f := (fun _ => 0)) (by decide +kernel) (by rfl)]
  rfl
theorem rel_38 (cI cZ cJ : ClassId) : (csL cI cZ cJ)[24]? = some (relE cI 38) := by
  rw [relE_8 (c := 38) (by decide +kernel) (N := 48) (f := (fun _ => 0)) (by decide +kernel) (by rfl)]
  rfl
theorem rel_39 (cI cZ cJ : ClassId) : (csL cI cZ cJ)[25]? = some (relE cI 39) := by
  rw [relE_8 (c := 39) (by decide +kernel) (N := 48) (f := (fun _ => 0)) (by decide +kernel) (by rfl)]
  rfl
theorem rel_40 (cI cZ cJ : ClassId) : (csL cI cZ cJ)[26]? = some (relE cI 40) := by
  rw [relE_8 (c := 40) (by decide +kernel) (N := 48) (f := (fun _ => 0)) (by decide +kernel) (by rfl)]
  rfl
theorem rel_41 (cI cZ cJ : ClassId) : (csL cI cZ cJ)[27]? = some (relE cI 41) := by
  rw [relE_8 (c := 41) (by decide +kernel) (N := 6) (f := (fun _ => 0)) (by decide +kernel) (by rfl)]
  rfl
theorem rel_42 (cI cZ cJ : ClassId) : (csL cI cZ cJ)[28]? = some (relE cI 42) := by
  rw [relE_8 (c := 42) (by decide +kernel) (N := 6) (f := (fun _ => 0)) (by decide +kernel) (by rfl)]
  rfl
theorem rel_43 (cI cZ cJ : ClassId) : (csL cI cZ cJ)[29]? = some (relE cI 43) := by
  rw [relE_8 (c := 43) (by decide +kernel) (N := 6) (f := (fun _ => 0)) (by decide +kernel) (by rfl)]
  rfl
theorem rel_44 (cI cZ cJ : ClassId) : (csL cI cZ cJ)[30]? = some (relE cI 44) := by
  rw [relE_o (c := 44) (ci := 0) (by decide +kernel) (by omega) (vs := [.ref 31, .ref 50, .ref 51, .ref 52, .ref 53, .ref 54, .ref 55, .ref 56, .ref 57, .ref 58, .int 0, .int 0]) (by rfl)]
  rfl
theorem rel_45 (cI cZ cJ : ClassId) : (csL cI cZ cJ)[31]? = some (relE cI 45) := by
  rw [relE_o (c := 45) (ci := 1) (by decide +kernel) (by omega) (vs := [.ref 32, .ref 39]) (by rfl)]
  rfl
theorem rel_46 (cI cZ cJ : ClassId) : (csL cI cZ cJ)[32]? = some (relE cI 46) := by
  rw [relE_o (c := 46) (ci := 5) (by decide +kernel) (by omega) (vs := [.int 1, .ref 33, .ref 34, .ref 35, .ref 36, .ref 37, .ref 38]) (by rfl)]
  rfl
theorem rel_47 (cI cZ cJ : ClassId) : (csL cI cZ cJ)[33]? = some (relE cI 47) := by
  rw [relE_8 (c := 47) (by decide +kernel) (N := 6) (f := (fun _ => 0)) (by decide +kernel) (by rfl)]
  rfl
theorem rel_48 (cI cZ cJ : ClassId) : (csL cI cZ cJ)[34]? = some (relE cI 48) := by
  rw [relE_8 (c := 48) (by decide +kernel) (N := 6) (f := (fun _ => 0)) (by decide +kernel) (by rfl)]
  rfl
theorem rel_49 (cI cZ cJ : ClassId) : (csL cI cZ cJ)[35]? = some (relE cI 49) := by
  rw [relE_8 (c := 49) (by decide +kernel) (N := 6) (f := (fun _ => 0)) (by decide +kernel) (by rfl)]
  rfl
theorem rel_50 (cI cZ cJ : ClassId) : (csL cI cZ cJ)[36]? = some (relE cI 50) := by
  rw [relE_8 (c := 50) (by decide +kernel) (N := 6) (f := (fun _ => 0)) (by decide +kernel) (by rfl)]
  rfl
theorem rel_51 (cI cZ cJ : ClassId) : (csL cI cZ cJ)[37]? = some (relE cI 51) := by
  rw [relE_8 (c := 51) (by decide +kernel) (N := 24) (f := (fun _ => 0)) (by decide +kernel) (by rfl)]
  rfl
theorem rel_52 (cI cZ cJ : ClassId) : (csL cI cZ cJ)[38]? = some (relE cI 52) := by
  rw [relE_8 (c := 52) (by decide +kernel) (N := 24) (f := (fun _ => 0)) (by decide +kernel) (by rfl)]
  rfl
theorem rel_53 (cI cZ cJ : ClassId) : (csL cI cZ cJ)[39]? = some (relE cI 53) := by
  rw [relE_o (c := 53) (ci := 2) (by decide +kernel) (by omega) (vs := [.int 0, .int 9999, .ref 40, .ref 41, .ref 42, .ref 43, .ref 44, .ref 45, .ref 46, .ref 47, .ref 48, .ref 49]) (by rfl)]
  rfl
theorem rel_54 (cI cZ cJ : ClassId) : (csL cI cZ cJ)[40]? = some (relE cI 54) := by
  rw [relE_8 (c := 54) (by decide +kernel) (N := 4) (f := (fun _ => 0)) (by decide +kernel) (by rfl)]
  rfl
theorem rel_55 (cI cZ cJ : ClassId) : (csL cI cZ cJ)[41]? = some (relE cI 55) := by
  rw [relE_8 (c := 55) (by decide +kernel) (N := 12) (f := (fun _ => 0)) (by decide +kernel) (by rfl)]
  rfl
theorem rel_56 (cI cZ cJ : ClassId) : (csL cI cZ cJ)[42]? = some (relE cI 56) := by
  rw [relE_8 (c := 56) (by decide +kernel) (N := 12) (f := (fun _ => 0)) (by decide +kernel) (by rfl)]
  rfl
theorem rel_57 (cI cZ cJ : ClassId) : (csL cI cZ cJ)[43]? = some (relE cI 57) := by
  rw [relE_8 (c := 57) (by decide +kernel) (N := 12) (f := (fun _ => 0)) (by decide +kernel) (by rfl)]
  rfl
theorem rel_58 (cI cZ cJ : ClassId) : (csL cI cZ cJ)[44]? = some (relE cI 58) := by
  rw [relE_8 (c := 58) (by decide +kernel) (N := 12) (f := (fun _ => 0)) (by decide +kernel) (by rfl)]
  rfl
theorem rel_59 (cI cZ cJ : ClassId) : (csL cI cZ cJ)[45]? = some (relE cI 59) := by
  rw [relE_8 (c := 59) (by decide +kernel) (N := 12) (f := (fun _ => 0)) (by decide +kernel) (by rfl)]
  rfl
theorem rel_60 (cI cZ cJ : ClassId) : (csL cI cZ cJ)[46]? = some (relE cI 60) := by
  rw [relE_8 (c := 60) (by decide +kernel) (N := 12) (f := (fun _ => 0)) (by decide +kernel) (by rfl)]
  rfl
theorem rel_61 (cI cZ cJ : ClassId) : (csL cI cZ cJ)[47]? = some (relE cI 61) := by
  rw [relE_8 (c := 61) (by decide +kernel) (N := 12) (f := (fun _ => 0)) (by decide +kernel) (by rfl)]
  rfl
theorem rel_62 (cI cZ cJ : ClassId) : (csL cI cZ cJ)[48]? = some (relE cI 62) := by
  rw [relE_8 (c := 62) (by decide +kernel) (N := 36) (f := (fun _ => 0)) (by decide +kernel) (by rfl)]
  rfl
theorem rel_63 (cI cZ cJ : ClassId) : (csL cI cZ cJ)[49]? = some (relE cI 63) := by
  rw [relE_8 (c := 63) (by decide +kernel) (N := 36) (f := (fun _ => 0)) (by decide +kernel) (by rfl)]
  rfl
theorem rel_64 (cI cZ cJ : ClassId) : (csL cI cZ cJ)[50]? = some (relE cI 64) := by
  rw [relE_8 (c := 64) (by decide +kernel) (N := 6) (f := (fun _ => 0)) (by decide +kernel) (by rfl)]
  rfl
theorem rel_65 (cI cZ cJ : ClassId) : (csL cI cZ cJ)[51]? = some (relE cI 65) := by
  rw [relE_8 (c := 65) (by decide +kernel) (N := 6) (f := (fun _ => 0)) (by decide +kernel) (by rfl)]
  rfl
theorem rel_66 (cI cZ cJ : ClassId) : (csL cI cZ cJ)[52]? = some (relE cI 66) := by
  rw [relE_8 (c := 66) (by decide +kernel) (N := 6) (f := (fun _ => 0)) (by decide +kernel) (by rfl)]
  rfl
theorem rel_67 (cI cZ cJ : ClassId) : (csL cI cZ cJ)[53]? = some (relE cI 67) := by
  rw [relE_8 (c := 67) (by decide +kernel) (N := 48) (f := (fun _ => 0)) (by decide +kernel) (by rfl)]
  rfl
theorem rel_68 (cI cZ cJ : ClassId) : (csL cI cZ cJ)[54]? = some (relE cI 68) := by
  rw [relE_8 (c := 68) (by decide +kernel) (N := 48) (f := (fun _ => 0)) (by decide +kernel) (by rfl)]
  rfl
theorem rel_69 (cI cZ cJ : ClassId) : (csL cI cZ cJ)[55]? = some (relE cI 69) := by
  rw [relE_8 (c := 69) (by decide +kernel) (N := 48) (f := (fun _ => 0)) (by decide +kernel) (by rfl)]
  rfl
theorem rel_70 (cI cZ cJ : ClassId) : (csL cI cZ cJ)[56]? = some (relE cI 70) := by
  rw [relE_8 (c := 70) (by decide +kernel) (N := 6) (f := (fun _ => 0)) (by decide +kernel) (by rfl)]
  rfl
theorem rel_71 (cI cZ cJ : ClassId) : (csL cI cZ cJ)[57]? = some (relE cI 71) := by
  rw [relE_8 (c := 71) (by decide +kernel) (N := 6) (f := (fun _ => 0)) (by decide +kernel) (by rfl)]
  rfl
theorem rel_72 (cI cZ cJ : ClassId) : (csL cI cZ cJ)[58]? = some (relE cI 72) := by
  rw [relE_8 (c := 72) (by decide +kernel) (N := 6) (f := (fun _ => 0)) (by decide +kernel) (by rfl)]
  rfl
theorem rel_73 (cI cZ cJ : ClassId) : (csL cI cZ cJ)[59]? = some (relE cI 73) := by
  rw [relE_o (c := 73) (ci := 4) (by decide +kernel) (by omega) (vs := [.ref 60, .ref 62, .int 0, .int 0, .int 0, .int 0, .int 0, .int 0]) (by rfl)]
  rfl
theorem rel_74 (cI cZ cJ : ClassId) : (csL cI cZ cJ)[60]? = some (relE cI 74) := by
  rw [relE_o (c := 74) (ci := 3) (by decide +kernel) (by omega) (vs := [.ref 61, .int 0]) (by rfl)]
  rfl
theorem rel_75 (cI cZ cJ : ClassId) : (csL cI cZ cJ)[61]? = some (relE cI 75) := by
  rw [relE_8 (c := 75) (by decide +kernel) (N := 500) (f := (fun _ => 0)) (by decide +kernel) (by rfl)]
  rfl
theorem rel_76 (cI cZ cJ : ClassId) : (csL cI cZ cJ)[62]? = some (relE cI 76) := by
  rw [relE_o (c := 76) (ci := 1) (by decide +kernel) (by omega) (vs := [.ref 63, .ref 70]) (by rfl)]
  rfl
theorem rel_77 (cI cZ cJ : ClassId) : (csL cI cZ cJ)[63]? = some (relE cI 77) := by
  rw [relE_o (c := 77) (ci := 5) (by decide +kernel) (by omega) (vs := [.int 1, .ref 64, .ref 65, .ref 66, .ref 67, .ref 68, .ref 69]) (by rfl)]
  rfl
theorem rel_78 (cI cZ cJ : ClassId) : (csL cI cZ cJ)[64]? = some (relE cI 78) := by
  rw [relE_8 (c := 78) (by decide +kernel) (N := 6) (f := (fun _ => 0)) (by decide +kernel) (by rfl)]
  rfl
theorem rel_79 (cI cZ cJ : ClassId) : (csL cI cZ cJ)[65]? = some (relE cI 79) := by
  rw [relE_8 (c := 79) (by decide +kernel) (N := 6) (f := (fun _ => 0)) (by decide +kernel) (by rfl)]
  rfl
theorem rel_80 (cI cZ cJ : ClassId) : (csL cI cZ cJ)[66]? = some (relE cI 80) := by
  rw [relE_8 (c := 80) (by decide +kernel) (N := 6) (f := (fun _ => 0)) (by decide +kernel) (by rfl)]
  rfl
theorem rel_81 (cI cZ cJ : ClassId) : (csL cI cZ cJ)[67]? = some (relE cI 81) := by
  rw [relE_8 (c := 81) (by decide +kernel) (N := 6) (f := (fun _ => 0)) (by decide +kernel) (by rfl)]
  rfl
theorem rel_82 (cI cZ cJ : ClassId) : (csL cI cZ cJ)[68]? = some (relE cI 82) := by
  rw [relE_8 (c := 82) (by decide +kernel) (N := 24) (f := (fun _ => 0)) (by decide +kernel) (by rfl)]
  rfl
theorem rel_83 (cI cZ cJ : ClassId) : (csL cI cZ cJ)[69]? = some (relE cI 83) := by
  rw [relE_8 (c := 83) (by decide +kernel) (N := 24) (f := (fun _ => 0)) (by decide +kernel) (by rfl)]
  rfl
theorem rel_84 (cI cZ cJ : ClassId) : (csL cI cZ cJ)[70]? = some (relE cI 84) := by
  rw [relE_o (c := 84) (ci := 2) (by decide +kernel) (by omega) (vs := [.int 0, .int 9999, .ref 71, .ref 72, .ref 73, .ref 74, .ref 75, .ref 76, .ref 77, .ref 78, .ref 79, .ref 80]) (by rfl)]
  rfl
theorem rel_85 (cI cZ cJ : ClassId) : (csL cI cZ cJ)[71]? = some (relE cI 85) := by
  rw [relE_8 (c := 85) (by decide +kernel) (N := 4) (f := (fun _ => 0)) (by decide +kernel) (by rfl)]
  rfl
theorem rel_86 (cI cZ cJ : ClassId) : (csL cI cZ cJ)[72]? = some (relE cI 86) := by
  rw [relE_8 (c := 86) (by decide +kernel) (N := 12) (f := (fun _ => 0)) (by decide +kernel) (by rfl)]
  rfl
theorem rel_87 (cI cZ cJ : ClassId) : (csL cI cZ cJ)[73]? = some (relE cI 87) := by
  rw [relE_8 (c := 87) (by decide +kernel) (N := 12) (f := (fun _ => 0)) (by decide +kernel) (by rfl)]
  rfl
theorem rel_88 (cI cZ cJ : ClassId) : (csL cI cZ cJ)[74]? = some (relE cI 88) := by
  rw [relE_8 (c := 88) (by decide +kernel) (N := 12) (f := (fun _ => 0)) (by decide +kernel) (by rfl)]
  rfl
theorem rel_89 (cI cZ cJ : ClassId) : (csL cI cZ cJ)[75]? = some (relE cI 89) := by
  rw [relE_8 (c := 89) (by decide +kernel) (N := 12) (f := (fun _ => 0)) (by decide +kernel) (by rfl)]
  rfl
theorem rel_90 (cI cZ cJ : ClassId) : (csL cI cZ cJ)[76]? = some (relE cI 90) := by
  rw [relE_8 (c := 90) (by decide +kernel) (N := 12) (f := (fun _ => 0)) (by decide +kernel) (by rfl)]
  rfl
theorem rel_91 (cI cZ cJ : ClassId) : (csL cI cZ cJ)[77]? = some (relE cI 91) := by
  rw [relE_8 (c := 91) (by decide +kernel) (N := 12) (f := (fun _ => 0)) (by decide +kernel) (by rfl)]
  rfl
theorem rel_92 (cI cZ cJ : ClassId) : (csL cI cZ cJ)[78]? = some (relE cI 92) := by
  rw [relE_8 (c := 92) (by decide +kernel) (N := 12) (f := (fun _ => 0)) (by decide +kernel) (by rfl)]
  rfl
theorem rel_93 (cI cZ cJ : ClassId) : (csL cI cZ cJ)[79]? = some (relE cI 93) := by
  rw [relE_8 (c := 93) (by decide +kernel) (N := 36) (f := (fun _ => 0)) (by decide +kernel) (by rfl)]
  rfl
theorem rel_94 (cI cZ cJ : ClassId) : (csL cI cZ cJ)[80]? = some (relE cI 94) := by
  rw [relE_8 (c := 94) (by decide +kernel) (N := 36) (f := (fun _ => 0)) (by decide +kernel) (by rfl)]
  rfl
theorem rel_95 (cI cZ cJ : ClassId) : (csL cI cZ cJ)[81]? = some (relE cI 95) := by
  rw [relE_o (c := 95) (ci := 1) (by decide +kernel) (by omega) (vs := [.ref 82, .ref 89]) (by rfl)]
  rfl
theorem rel_96 (cI cZ cJ : ClassId) : (csL cI cZ cJ)[82]? = some (relE cI 96) := by
  rw [relE_o (c := 96) (ci := 5) (by decide +kernel) (by omega) (vs := [.int 1, .ref 83, .ref 84, .ref 85, .ref 86, .ref 87, .ref 88]) (by rfl)]
  rfl
theorem rel_97 (cI cZ cJ : ClassId) : (csL cI cZ cJ)[83]? = some (relE cI 97) := by
  rw [relE_8 (c := 97) (by decide +kernel) (N := 6) (f := (fun _ => 0)) (by decide +kernel) (by rfl)]
  rfl
theorem rel_98 (cI cZ cJ : ClassId) : (csL cI cZ cJ)[84]? = some (relE cI 98) := by
  rw [relE_8 (c := 98) (by decide +kernel) (N := 6) (f := (fun _ => 0)) (by decide +kernel) (by rfl)]
  rfl
theorem rel_99 (cI cZ cJ : ClassId) : (csL cI cZ cJ)[85]? = some (relE cI 99) := by
  rw [relE_8 (c := 99) (by decide +kernel) (N := 6) (f := (fun _ => 0)) (by decide +kernel) (by rfl)]
  rfl
theorem rel_100 (cI cZ cJ : ClassId) : (csL cI cZ cJ)[86]? = some (relE cI 100) := by
  rw [relE_8 (c := 100) (by decide +kernel) (N := 6) (f := (fun _ => 0)) (by decide +kernel) (by rfl)]
  rfl
theorem rel_101 (cI cZ cJ : ClassId) : (csL cI cZ cJ)[87]? = some (relE cI 101) := by
  rw [relE_8 (c := 101) (by decide +kernel) (N := 24) (f := (fun _ => 0)) (by decide +kernel) (by rfl)]
  rfl
theorem rel_102 (cI cZ cJ : ClassId) : (csL cI cZ cJ)[88]? = some (relE cI 102) := by
  rw [relE_8 (c := 102) (by decide +kernel) (N := 24) (f := (fun _ => 0)) (by decide +kernel) (by rfl)]
  rfl
theorem rel_103 (cI cZ cJ : ClassId) : (csL cI cZ cJ)[89]? = some (relE cI 103) := by
  rw [relE_o (c := 103) (ci := 2) (by decide +kernel) (by omega) (vs := [.int 0, .int 9999, .ref 90, .ref 91, .ref 92, .ref 93, .ref 94, .ref 95, .ref 96, .ref 97, .ref 98, .ref 99]) (by rfl)]
  rfl
theorem rel_104 (cI cZ cJ : ClassId) : (csL cI cZ cJ)[90]? = some (relE cI 104) := by
  rw [relE_8 (c := 104) (by decide +kernel) (N := 4) (f := (fun _ => 0)) (by decide +kernel) (by rfl)]
  rfl
theorem rel_105 (cI cZ cJ : ClassId) : (csL cI cZ cJ)[91]? = some (relE cI 105) := by
  rw [relE_8 (c := 105) (by decide +kernel) (N := 12) (f := (fun _ => 0)) (by decide +kernel) (by rfl)]
  rfl
theorem rel_106 (cI cZ cJ : ClassId) : (csL cI cZ cJ)[92]? = some (relE cI 106) := by
  rw [relE_8 (c := 106) (by decide +kernel) (N := 12) (f := (fun _ => 0)) (by decide +kernel) (by rfl)]
  rfl
theorem rel_107 (cI cZ cJ : ClassId) : (csL cI cZ cJ)[93]? = some (relE cI 107) := by
  rw [relE_8 (c := 107) (by decide +kernel) (N := 12) (f := (fun _ => 0)) (by decide +kernel) (by rfl)]
  rfl
theorem rel_108 (cI cZ cJ : ClassId) : (csL cI cZ cJ)[94]? = some (relE cI 108) := by
  rw [relE_8 (c := 108) (by decide +kernel) (N := 12) (f := (fun _ => 0)) (by decide +kernel) (by rfl)]
  rfl
theorem rel_109 (cI cZ cJ : ClassId) : (csL cI cZ cJ)[95]? = some (relE cI 109) := by
  rw [relE_8 (c := 109) (by decide +kernel) (N := 12) (f := (fun _ => 0)) (by decide +kernel) (by rfl)]
  rfl
theorem rel_110 (cI cZ cJ : ClassId) : (csL cI cZ cJ)[96]? = some (relE cI 110) := by
  rw [relE_8 (c := 110) (by decide +kernel) (N := 12) (f := (fun _ => 0)) (by decide +kernel) (by rfl)]
  rfl
theorem rel_111 (cI cZ cJ : ClassId) : (csL cI cZ cJ)[97]? = some (relE cI 111) := by
  rw [relE_8 (c := 111) (by decide +kernel) (N := 12) (f := (fun _ => 0)) (by decide +kernel) (by rfl)]
  rfl
theorem rel_112 (cI cZ cJ : ClassId) : (csL cI cZ cJ)[98]? = some (relE cI 112) := by
  rw [relE_8 (c := 112) (by decide +kernel) (N := 36) (f := (fun _ => 0)) (by decide +kernel) (by rfl)]
  rfl
theorem rel_113 (cI cZ cJ : ClassId) : (csL cI cZ cJ)[99]? = some (relE cI 113) := by
  rw [relE_8 (c := 113) (by decide +kernel) (N := 36) (f := (fun _ => 0)) (by decide +kernel) (by rfl)]
  rfl
theorem rel_114 (cI cZ cJ : ClassId) : (csL cI cZ cJ)[100]? = some (relE cI 114) := by
  rw [relE_o (c := 114) (ci := 1) (by decide +kernel) (by omega) (vs := [.ref 101, .ref 108]) (by rfl)]
  rfl
theorem rel_115 (cI cZ cJ : ClassId) : (csL cI cZ cJ)[101]? = some (relE cI 115) := by
  rw [relE_o (c := 115) (ci := 5) (by decide +kernel) (by omega) (vs := [.int 1, .ref 102, .ref 103, .ref 104, .ref 105, .ref 106, .ref 107]) (by rfl)]
  rfl
theorem rel_116 (cI cZ cJ : ClassId) : (csL cI cZ cJ)[102]? = some (relE cI 116) := by
  rw [relE_8 (c := 116) (by decide +kernel) (N := 6) (f := (fun _ => 0)) (by decide +kernel) (by rfl)]
  rfl
theorem rel_117 (cI cZ cJ : ClassId) : (csL cI cZ cJ)[103]? = some (relE cI 117) := by
  rw [relE_8 (c := 117) (by decide +kernel) (N := 6) (f := (fun _ => 0)) (by decide +kernel) (by rfl)]
  rfl
theorem rel_118 (cI cZ cJ : ClassId) : (csL cI cZ cJ)[104]? = some (relE cI 118) := by
  rw [relE_8 (c := 118) (by decide +kernel) (N := 6) (f := (fun _ => 0)) (by decide +kernel) (by rfl)]
  rfl
theorem rel_119 (cI cZ cJ : ClassId) : (csL cI cZ cJ)[105]? = some (relE cI 119) := by
  rw [relE_8 (c := 119) (by decide +kernel) (N := 6) (f := (fun _ => 0)) (by decide +kernel) (by rfl)]
  rfl
theorem rel_120 (cI cZ cJ : ClassId) : (csL cI cZ cJ)[106]? = some (relE cI 120) := by
  rw [relE_8 (c := 120) (by decide +kernel) (N := 24) (f := (fun _ => 0)) (by decide +kernel) (by rfl)]
  rfl
theorem rel_121 (cI cZ cJ : ClassId) : (csL cI cZ cJ)[107]? = some (relE cI 121) := by
  rw [relE_8 (c := 121) (by decide +kernel) (N := 24) (f := (fun _ => 0)) (by decide +kernel) (by rfl)]
  rfl
theorem rel_122 (cI cZ cJ : ClassId) : (csL cI cZ cJ)[108]? = some (relE cI 122) := by
  rw [relE_o (c := 122) (ci := 2) (by decide +kernel) (by omega) (vs := [.int 0, .int 9999, .ref 109, .ref 110, .ref 111, .ref 112, .ref 113, .ref 114, .ref 115, .ref 116, .ref 117, .ref 118]) (by rfl)]
  rfl
theorem rel_123 (cI cZ cJ : ClassId) : (csL cI cZ cJ)[109]? = some (relE cI 123) := by
  rw [relE_8 (c := 123) (by decide +kernel) (N := 4) (f := (fun _ => 0)) (by decide +kernel) (by rfl)]
  rfl
theorem rel_124 (cI cZ cJ : ClassId) : (csL cI cZ cJ)[110]? = some (relE cI 124) := by
  rw [relE_8 (c := 124) (by decide +kernel) (N := 12) (f := (fun _ => 0)) (by decide +kernel) (by rfl)]
  rfl
theorem rel_125 (cI cZ cJ : ClassId) : (csL cI cZ cJ)[111]? = some (relE cI 125) := by
  rw [relE_8 (c := 125) (by decide +kernel) (N := 12) (f := (fun _ => 0)) (by decide +kernel) (by rfl)]
  rfl
theorem rel_126 (cI cZ cJ : ClassId) : (csL cI cZ cJ)[112]? = some (relE cI 126) := by
  rw [relE_8 (c := 126) (by decide +kernel) (N := 12) (f := (fun _ => 0)) (by decide +kernel) (by rfl)]
  rfl
theorem rel_127 (cI cZ cJ : ClassId) : (csL cI cZ cJ)[113]? = some (relE cI 127) := by
  rw [relE_8 (c := 127) (by decide +kernel) (N := 12) (f := (fun _ => 0)) (by decide +kernel) (by rfl)]
  rfl
theorem rel_128 (cI cZ cJ : ClassId) : (csL cI cZ cJ)[114]? = some (relE cI 128) := by
  rw [relE_8 (c := 128) (by decide +kernel) (N := 12) (f := (fun _ => 0)) (by decide +kernel) (by rfl)]
  rfl
theorem rel_129 (cI cZ cJ : ClassId) : (csL cI cZ cJ)[115]? = some (relE cI 129) := by
  rw [relE_8 (c := 129) (by decide +kernel) (N := 12) (f := (fun _ => 0)) (by decide +kernel) (by rfl)]
  rfl
theorem rel_130 (cI cZ cJ : ClassId) : (csL cI cZ cJ)[116]? = some (relE cI 130) := by
  rw [relE_8 (c := 130) (by decide +kernel) (N := 12) (f := (fun _ => 0)) (by decide +kernel) (by rfl)]
  rfl
theorem rel_131 (cI cZ cJ : ClassId) : (csL cI cZ cJ)[117]? = some (relE cI 131) := by
  rw [relE_8 (c := 131) (by decide +kernel) (N := 36) (f := (fun _ => 0)) (by decide +kernel) (by rfl)]
  rfl
theorem rel_132 (cI cZ cJ : ClassId) : (csL cI cZ cJ)[118]? = some (relE cI 132) := by
  rw [relE_8 (c := 132) (by decide +kernel) (N := 36) (f := (fun _ => 0)) (by decide +kernel) (by rfl)]
  rfl
theorem rel_ok (cI cZ cJ : ClassId) : ∀ j, j < 119 → (bN6 cI cZ cJ)[j]? = some (relE cI (j + 14)) := by
  intro j hj
  rw [bN6_eq]
  match j, hj with
  | 0, _ => exact rel_14 cI cZ cJ
  | 1, _ => exact rel_15 cI cZ cJ
  | 2, _ => exact rel_16 cI cZ cJ
  | 3, _ => exact rel_17 cI cZ cJ
  | 4, _ => exact rel_18 cI cZ cJ
  | 5, _ => exact rel_19 cI cZ cJ
  | 6, _ => exact rel_20 cI cZ cJ
  | 7, _ => exact rel_21 cI cZ cJ
  | 8, _ => exact rel_22 cI cZ cJ
  | 9, _ => exact rel_23 cI cZ cJ
  | 10, _ => exact rel_24 cI cZ cJ
  | 11, _ => exact rel_25 cI cZ cJ
  | 12, _ => exact rel_26 cI cZ cJ
  | 13, _ => exact rel_27 cI cZ cJ
  | 14, _ => exact rel_28 cI cZ cJ
  | 15, _ => exact rel_29 cI cZ cJ
  | 16, _ => exact rel_30 cI cZ cJ
  | 17, _ => exact rel_31 cI cZ cJ
  | 18, _ => exact rel_32 cI cZ cJ
  | 19, _ => exact rel_33 cI cZ cJ
  | 20, _ => exact rel_34 cI cZ cJ
  | 21, _ => exact rel_35 cI cZ cJ
  | 22, _ => exact rel_36 cI cZ cJ
  | 23, _ => exact rel_37 cI cZ cJ
  | 24, _ => exact rel_38 cI cZ cJ
  | 25, _ => exact rel_39 cI cZ cJ
  | 26, _ => exact rel_40 cI cZ cJ
  | 27, _ => exact rel_41 cI cZ cJ
  | 28, _ => exact rel_42 cI cZ cJ
  | 29, _ => exact rel_43 cI cZ cJ
  | 30, _ => exact rel_44 cI cZ cJ
  | 31, _ => exact rel_45 cI cZ cJ
  | 32, _ => exact rel_46 cI cZ cJ
  | 33, _ => exact rel_47 cI cZ cJ
  | 34, _ => exact rel_48 cI cZ cJ
  | 35, _ => exact rel_49 cI cZ cJ
  | 36, _ => exact rel_50 cI cZ cJ
  | 37, _ => exact rel_51 cI cZ cJ
  | 38, _ => exact rel_52 cI cZ cJ
  | 39, _ => exact rel_53 cI cZ cJ
  | 40, _ => exact rel_54 cI cZ cJ
  | 41, _ => exact rel_55 cI cZ cJ
  | 42, _ => exact rel_56 cI cZ cJ
  | 43, _ => exact rel_57 cI cZ cJ
  | 44, _ => exact rel_58 cI cZ cJ
  | 45, _ => exact rel_59 cI cZ cJ
  | 46, _ => exact rel_60 cI cZ cJ
  | 47, _ => exact rel_61 cI cZ cJ
  | 48, _ => exact rel_62 cI cZ cJ
  | 49, _ => exact rel_63 cI cZ cJ
  | 50, _ => exact rel_64 cI cZ cJ
  | 51, _ => exact rel_65 cI cZ cJ
  | 52, _ => exact rel_66 cI cZ cJ
  | 53, _ => exact rel_67 cI cZ cJ
  | 54, _ => exact rel_68 cI cZ cJ
  | 55, _ => exact rel_69 cI cZ cJ
  | 56, _ => exact rel_70 cI cZ cJ
  | 57, _ => exact rel_71 cI cZ cJ
  | 58, _ => exact rel_72 cI cZ cJ
  | 59, _ => exact rel_73 cI cZ cJ
  | 60, _ => exact rel_74 cI cZ cJ
  | 61, _ => exact rel_75 cI cZ cJ
  | 62, _ => exact rel_76 cI cZ cJ
  | 63, _ => exact rel_77 cI cZ cJ
  | 64, _ => exact rel_78 cI cZ cJ
  | 65, _ => exact rel_79 cI cZ cJ
  | 66, _ => exact rel_80 cI cZ cJ
  | 67, _ => exact rel_81 cI cZ cJ
  | 68, _ => exact rel_82 cI cZ cJ
  | 69, _ => exact rel_83 cI cZ cJ
  | 70, _ => exact rel_84 cI cZ cJ
  | 71, _ => exact rel_85 cI cZ cJ
  | 72, _ => exact rel_86 cI cZ cJ
  | 73, _ => exact rel_87 cI cZ cJ
  | 74, _ => exact rel_88 cI cZ cJ
  | 75, _ => exact rel_89 cI cZ cJ
  | 76, _ => exact rel_90 cI cZ cJ
  | 77, _ => exact rel_91 cI cZ cJ
  | 78, _ => exact rel_92 cI cZ cJ
  | 79, _ => exact rel_93 cI cZ cJ
  | 80, _ => exact rel_94 cI cZ cJ
  | 81, _ => exact rel_95 cI cZ cJ
  | 82, _ => exact rel_96 cI cZ cJ
  | 83, _ => exact rel_97 cI cZ cJ
  | 84, _ => exact rel_98 cI cZ cJ
  | 85, _ => exact rel_99 cI cZ cJ
  | 86, _ => exact rel_100 cI cZ cJ
  | 87, _ => exact rel_101 cI cZ cJ
  | 88, _ => exact rel_102 cI cZ cJ
  | 89, _ => exact rel_103 cI cZ cJ
  | 90, _ => exact rel_104 cI cZ cJ
  | 91, _ => exact rel_105 cI cZ cJ
  | 92, _ => exact rel_106 cI cZ cJ
  | 93, _ => exact rel_107 cI cZ cJ
  | 94, _ => exact rel_108 cI cZ cJ
  | 95, _ => exact rel_109 cI cZ cJ
  | 96, _ => exact rel_110 cI cZ cJ
  | 97, _ => exact rel_111 cI cZ cJ
  | 98, _ => exact rel_112 cI cZ cJ
  | 99, _ => exact rel_113 cI cZ cJ
  | 100, _ => exact rel_114 cI cZ cJ
  | 101, _ => exact rel_115 cI cZ cJ
  | 102, _ => exact rel_116 cI cZ cJ
  | 103, _ => exact rel_117 cI cZ cJ
  | 104, _ => exact rel_118 cI cZ cJ
  | 105, _ => exact rel_119 cI cZ cJ
  | 106, _ => exact rel_120 cI cZ cJ
  | 107, _ => exact rel_121 cI cZ cJ
  | 108, _ => exact rel_122 cI cZ cJ
  | 109, _ => exact rel_123 cI cZ cJ
  | 110, _ => exact rel_124 cI cZ cJ
  | 111, _ => exact rel_125 cI cZ cJ
  | 112, _ => exact rel_126 cI cZ cJ
  | 113, _ => exact rel_127 cI cZ cJ
  | 114, _ => exact rel_128 cI cZ cJ
  | 115, _ => exact rel_129 cI cZ cJ
  | 116, _ => exact rel_130 cI cZ cJ
  | 117, _ => exact rel_131 cI cZ cJ
  | 118, _ => exact rel_132 cI cZ cJ
  | n + 119, h => exact absurd h (by omega)
