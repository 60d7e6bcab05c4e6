/-! the tape is fed -/
def byt (x : Int32) (k : Int) : Int32 := (x >>> (ii k &&& 31)) &&& ii 255
def bv (x : Int32) (k : Int) : Int := (byt x k).toInt
theorem b255 : ∀ i, i < 32 → (255#32).getLsbD i = decide (i < 8) := by decide +kernel
theorem byt_g (x : BitVec 32) (k : Nat) (hk : k ≤ 24) : (x >>> k) &&& 255#32 = (x.sshiftRight k) &&& 255#32 := by
  refine BitVec.eq_of_getLsbD_eq (fun i hi => ?_)
  rw [BitVec.getLsbD_and, BitVec.getLsbD_and, b255 i hi]
  by_cases c : i < 8
  · rw [BitVec.getLsbD_ushiftRight, BitVec.getLsbD_sshiftRight]
    have h1 : decide (32 ≤ i) = false := decide_eq_false (by omega)
    rw [h1, if_pos (by omega)]
    simp
  · rw [decide_eq_false c, Bool.and_false, Bool.and_false]
theorem byt_c (x : Int32) : ∀ k : Int, (k = 24 ∨ k = 16 ∨ k = 8 ∨ k = 0) → ((x.toUInt32 >>> ((ii k).toUInt32 &&& Int32.toUInt32 31)).toInt32) &&& ii 255 = byt x k := by
  intro k hk
  unfold byt
  apply Int32.toBitVec_inj.mp
  have e255 : (ii 255).toBitVec = 255#32 := by decide
  rcases hk with rfl | rfl | rfl | rfl
  · have a := byt_g x.toBitVec 24 (by omega)
    have e1 : ((x.toUInt32 >>> ((ii 24).toUInt32 &&& Int32.toUInt32 31)).toInt32 &&& ii 255).toBitVec = (x.toBitVec >>> 24) &&& 255#32 := rfl
    have e2 : ((x >>> (ii 24 &&& 31)) &&& ii 255).toBitVec = (x.toBitVec.sshiftRight 24) &&& 255#32 := rfl
    rw [e1, e2, a]
  · have a := byt_g x.toBitVec 16 (by omega)
    have e1 : ((x.toUInt32 >>> ((ii 16).toUInt32 &&& Int32.toUInt32 31)).toInt32 &&& ii 255).toBitVec = (x.toBitVec >>> 16) &&& 255#32 := rfl
    have e2 : ((x >>> (ii 16 &&& 31)) &&& ii 255).toBitVec = (x.toBitVec.sshiftRight 16) &&& 255#32 := rfl
    rw [e1, e2, a]
  · have a := byt_g x.toBitVec 8 (by omega)
    have e1 : ((x.toUInt32 >>> ((ii 8).toUInt32 &&& Int32.toUInt32 31)).toInt32 &&& ii 255).toBitVec = (x.toBitVec >>> 8) &&& 255#32 := rfl
    have e2 : ((x >>> (ii 8 &&& 31)) &&& ii 255).toBitVec = (x.toBitVec.sshiftRight 8) &&& 255#32 := rfl
    rw [e1, e2, a]
  · have a := byt_g x.toBitVec 0 (by omega)
    have e1 : ((x.toUInt32 >>> ((ii 0).toUInt32 &&& Int32.toUInt32 31)).toInt32 &&& ii 255).toBitVec = (x.toBitVec >>> 0) &&& 255#32 := rfl
    have e2 : ((x >>> (ii 0 &&& 31)) &&& ii 255).toBitVec = (x.toBitVec.sshiftRight 0) &&& 255#32 := rfl
    rw [e1, e2, a]
theorem bv_ok (x : Int32) (k : Int) : byt x k = ii (bv x k) ∧ 0 ≤ bv x k ∧ bv x k ≤ 255 := by
  have e : byt x k = ii (bv x k) := by
    unfold bv ii
    exact (Int32.ofInt_toInt _).symm
  refine ⟨e, ?_⟩
  have h : (byt x k).toBitVec.toNat ≤ 255 := by
    have t : (byt x k).toBitVec = (x >>> (ii k &&& 31)).toBitVec &&& 255#32 := rfl
    rw [t, BitVec.toNat_and]
    exact Nat.and_le_right
  have t : bv x k = ((byt x k).toBitVec.toNat : Int) := by
    show (byt x k).toBitVec.toInt = _
    exact BitVec.toInt_eq_toNat_of_lt (by omega)
  omega
def tpa (s : ST) (v : Int) : ST := tps s (fun i => if i = stl s then v else stp' s i) (stl s + 1)
def tp4 (s : ST) (x : Int32) : ST := tpa (tpa (tpa (tpa s (bv x 24)) (bv x 16)) (bv x 8)) (bv x 0)
theorem tpa_l (s : ST) (v : Int) : stl (tpa s v) = stl s + 1 := rfl
theorem tp4_l (s : ST) (x : Int32) : stl (tp4 s x) = stl s + 4 := rfl
section
variable {mm m' : Mem} {s : ST}
theorem SW.tpa (h : SW s) {v : Int} (hl : stl s < 500) (hv : 0 ≤ v ∧ v ≤ 255) : SW (tpa s v) := by
  refine ⟨h.1, h.2.1, h.2.2.1, by rw [tpa_l]; omega, fun i hi => ?_⟩
  rw [tpa_l] at hi
  show 0 ≤ (if i = stl s then v else stp' s i) ∧ (if i = stl s then v else stp' s i) ≤ 255
  by_cases e : i = stl s
  · rw [if_pos e]; exact hv
  · rw [if_neg e]; exact h.2.2.2.2 i (by omega)
theorem SW.tp4 (h : SW s) (x : Int32) (hl : stl s + 4 ≤ 500) : SW (tp4 s x) := by
  have a := h.tpa (v := bv x 24) (by omega) (bv_ok x 24).2
  have b := a.tpa (v := bv x 16) (by rw [tpa_l]; omega) (bv_ok x 16).2
  have c := b.tpa (v := bv x 8) (by rw [tpa_l, tpa_l]; omega) (bv_ok x 8).2
  exact c.tpa (v := bv x 0) (by rw [tpa_l, tpa_l, tpa_l]; omega) (bv_ok x 0).2
theorem CI.tpa (h : CI mm s) (v : Int) : CI (up2 (up2 mm 75 (stl s) (ii v)) 74 1 (ii ((stl s : Int) + 1))) (tpa s v) := by
  obtain ⟨q1, q2, q3, q4, q5, q6, q7, q8⟩ := h
  have F : ∀ c, c ≠ 74 → c ≠ 75 → up2 (up2 mm 75 (stl s) (ii v)) 74 1 (ii ((stl s : Int) + 1)) c = mm c := fun c h1 h2 => by funext j; rw [up2_c _ _ _ _ h1, up2_c _ _ _ _ h2]
  refine ⟨q1.fr (fun c h1 h2 => F c (by omega) (by omega)), fun b => (q2 b).fr (fun c h1 h2 => F c (by omega) (by omega)), fun b => (q3 b).fr (fun c h1 h2 => F c (by omega) (by omega)), by rw [F 14 (by omega) (by omega)]; exact q4, by rw [F 14 (by omega) (by omega)]; exact q5, ?_, fun j hj => ?_, by rw [F 73 (by omega) (by omega)]; exact q8⟩
  · rw [up2_at, tpa_l]
    rfl
  · rw [tpa_l] at hj
    show _ = ii (if j = stl s then v else stp' s j)
    rw [up2_c _ _ _ _ (by omega)]
    by_cases e : j = stl s
    · rw [if_pos e, e, up2_at]
    · rw [if_neg e, up2_k _ _ _ _ e]; exact q7 j (by omega)
theorem RI.tpa (h : RI mm s) (v : Int) : RI (up2 (up2 mm 12 (stl s) (ii v)) 0 15 (ii ((stl s : Int) + 1))) (tpa s v) := by
  obtain ⟨q1, q2, q3, q4, q5, q6, q7, q8⟩ := h
  have F : ∀ c, c ≠ 0 → c ≠ 12 → up2 (up2 mm 12 (stl s) (ii v)) 0 15 (ii ((stl s : Int) + 1)) c = mm c := fun c h1 h2 => by funext j; rw [up2_c _ _ _ _ h1, up2_c _ _ _ _ h2]
  refine ⟨rk_fr q1 (F 1 (by omega) (by omega)), fun b j hj => by rw [F 2 (by omega) (by omega)]; exact q2 b j hj, fun b j hj => by rw [F 2 (by omega) (by omega)]; exact q3 b j hj, by rw [F 3 (by omega) (by omega)]; exact q4, by rw [F 3 (by omega) (by omega)]; exact q5, ?_, fun j hj => ?_, ?_⟩
  · rw [up2_at, tpa_l]
    rfl
  · rw [tpa_l] at hj
    show _ = ii (if j = stl s then v else stp' s j)
    rw [up2_c _ _ _ _ (by omega)]
    by_cases e : j = stl s
    · rw [if_pos e, e, up2_at]
    · rw [if_neg e, up2_k _ _ _ _ e]; exact q7 j (by omega)
  · rw [up2_k _ _ _ _ (by omega), up2_c _ _ _ _ (by omega)]; exact q8
theorem c_a3 (h : CI mm s) (hl : stl s < 500) (x : Int32) {k : Int} (hk : k = 24 ∨ k = 16 ∨ k = 8 ∨ k = 0) (n : Nat) : ∃ m', f3_append_l3 (n + 1) x (ii k) mm = f3_append_l3 n x (ii (k - 8)) m' ∧ Fcl mm m' ∧ CI m' (tpa s (bv x k)) := by
  refine ⟨_, ?_, ?_, h.tpa (bv x k)⟩
  · have e := byt_c x k hk
    rw [f3_append_l3, l0, if_neg (inlt (by omega) (by omega) (by omega)), l255, e, (bv_ok x k).1, h.2.2.2.2.2.1, put_i mm lnR.2.2.2.2.2.2.2.2.2.2.2.2.2 (by omega) (by omega), bd_some, up2_c _ _ _ _ (by omega), h.2.2.2.2.2.1, l1, ii_add, nm_eq, show ((-8 : Int32)) = ii (-8) by decide, ii_add, nm_eq]
    rfl
  · intro c hc
    funext j
    rw [up2_c _ _ _ _ (by omega), up2_c _ _ _ _ (by omega)]
theorem r_a3 (h : RI mm s) (hl : stl s < 500) (x : Int32) {k : Int} (hk : k = 24 ∨ k = 16 ∨ k = 8 ∨ k = 0) (n : Nat) : ∃ m', f7_four_l3 (n + 1) x (ii k) mm = f7_four_l3 n x (ii (k - 8)) m' ∧ Frf mm m' ∧ RI m' (tpa s (bv x k)) := by
  refine ⟨_, ?_, ?_, h.tpa (bv x k)⟩
  · have e : (x >>> (ii k &&& 31)) &&& ii 255 = ii (bv x k) := (bv_ok x k).1
    rw [f7_four_l3, l0, if_neg (inlt (by omega) (by omega) (by omega)), l255, e, h.2.2.2.2.2.1, wrq mm lnR.2.2.2.2.2.2.2.2.2.2.2.1 (k := stl s) hl (by omega) rfl, up2_c _ _ _ _ (by omega), h.2.2.2.2.2.1, l1, ii_add, nm_eq, show ((-8 : Int32)) = ii (-8) by decide, ii_add, nm_eq]
    rfl
  · intro c hc
    funext j
    rw [up2_c _ _ _ _ (by omega), up2_c _ _ _ _ (by omega)]
theorem c_append (h : CI mm s) (hl : stl s + 4 ≤ 500) (x : Int32) : ∃ m', f3_append mm x = some m' ∧ Fcl mm m' ∧ CI m' (tp4 s x) := by
  obtain ⟨m1, a1, a2, a3⟩ := c_a3 h (by omega) x (k := 24) (by omega) 19999
  obtain ⟨m2, b1, b2, b3⟩ := c_a3 a3 (by rw [tpa_l]; omega) x (k := 16) (by omega) 19998
  obtain ⟨m3, c1, c2, c3⟩ := c_a3 b3 (by rw [tpa_l, tpa_l]; omega) x (k := 8) (by omega) 19997
  obtain ⟨m4, d1, d2, d3⟩ := c_a3 c3 (by rw [tpa_l, tpa_l, tpa_l]; omega) x (k := 0) (by omega) 19996
  refine ⟨m4, ?_, ((a2.tr b2).tr c2).tr d2, d3⟩
  unfold f3_append
  rw [l24]
  show f3_append_l3 (19999 + 1) _ _ _ = _
  rw [a1]
  show f3_append_l3 (19998 + 1) _ _ _ = _
  rw [show (24 : Int) - 8 = 16 by omega, b1]
  show f3_append_l3 (19997 + 1) _ _ _ = _
  rw [show (16 : Int) - 8 = 8 by omega, c1]
  show f3_append_l3 (19996 + 1) _ _ _ = _
  rw [show (8 : Int) - 8 = 0 by omega, d1]
  show f3_append_l3 (19995 + 1) _ _ _ = _
  rw [f3_append_l3, l0, if_pos (ilt (by omega) (by omega) (by omega))]
theorem r_four (h : RI mm s) (hl : stl s + 4 ≤ 500) (x : Int32) : ∃ m', f7_four mm x = some m' ∧ Frf mm m' ∧ RI m' (tp4 s x) := by
  obtain ⟨m1, a1, a2, a3⟩ := r_a3 h (by omega) x (k := 24) (by omega) 19999
  obtain ⟨m2, b1, b2, b3⟩ := r_a3 a3 (by rw [tpa_l]; omega) x (k := 16) (by omega) 19998
  obtain ⟨m3, c1, c2, c3⟩ := r_a3 b3 (by rw [tpa_l, tpa_l]; omega) x (k := 8) (by omega) 19997
  obtain ⟨m4, d1, d2, d3⟩ := r_a3 c3 (by rw [tpa_l, tpa_l, tpa_l]; omega) x (k := 0) (by omega) 19996
  refine ⟨m4, ?_, ((a2.tr b2).tr c2).tr d2, d3⟩
  unfold f7_four
  rw [l24]
  show f7_four_l3 (19999 + 1) _ _ _ = _
  rw [a1]
  show f7_four_l3 (19998 + 1) _ _ _ = _
  rw [show (24 : Int) - 8 = 16 by omega, b1]
  show f7_four_l3 (19997 + 1) _ _ _ = _
  rw [show (16 : Int) - 8 = 8 by omega, c1]
  show f7_four_l3 (19996 + 1) _ _ _ = _
  rw [show (8 : Int) - 8 = 0 by omega, d1]
  show f7_four_l3 (19995 + 1) _ _ _ = _
  rw [f7_four_l3, l0, if_pos (ilt (by omega) (by omega) (by omega))]
theorem t_feed (h : CI mm s) (hr : RI mm s) (hs : SW s) (a b c d e : Int32) : Stq mm (f6_feed mm a b c d e) (fun m => f7_feed m a b c d e) := by
  have hl := hs.2.2.2.1
  by_cases g : 500 < stl s + 20
  · refine stp_mk (v := ii (-1)) (s' := s) hr hs ⟨mm, ?_, Fcl.rf mm, h⟩ (fun m hm => ⟨_, ?_, frf_u0 m 0 (ii 0), hm.u0 (k := 0) (by omega) (ii 0)⟩)
    · unfold f6_feed
      rw [h.2.2.2.2.2.1, l500, l20, ii_add, lm1, if_pos (ilt (by omega) (by omega) (by omega))]
    · have h0 := hm.u0 (k := 0) (by omega) (ii 0)
      show f7_feed m a b c d e = _
      unfold f7_feed
      rw [l0, nm_eq, h0.2.2.2.2.2.1, l500, l20, ii_add, lm1, if_pos (ilt (by omega) (by omega) (by omega))]
  · have s1 := hs.tp4 a (by omega)
    have s2 := s1.tp4 b (by rw [tp4_l]; omega)
    have s3 := s2.tp4 c (by rw [tp4_l, tp4_l]; omega)
    have s4 := s3.tp4 d (by rw [tp4_l, tp4_l, tp4_l]; omega)
    have s5 := s4.tp4 e (by rw [tp4_l, tp4_l, tp4_l, tp4_l]; omega)
    refine stp_mk (v := ii (stl (tp4 (tp4 (tp4 (tp4 (tp4 s a) b) c) d) e))) hr s5 ?_ (fun m hm => ?_)
    · obtain ⟨m1, a1, a2, a3⟩ := c_append h (by omega) a
      obtain ⟨m2, b1, b2, b3⟩ := c_append a3 (by rw [tp4_l]; omega) b
      obtain ⟨m3, c1, c2, c3⟩ := c_append b3 (by rw [tp4_l, tp4_l]; omega) c
      obtain ⟨m4, d1, d2, d3⟩ := c_append c3 (by rw [tp4_l, tp4_l, tp4_l]; omega) d
      obtain ⟨m5, e1, e2, e3⟩ := c_append d3 (by rw [tp4_l, tp4_l, tp4_l, tp4_l]; omega) e
      refine ⟨m5, ?_, (((a2.tr b2).tr c2).tr d2).tr e2, e3⟩
      unfold f6_feed
      rw [h.2.2.2.2.2.1, l500, l20, ii_add, if_neg (inlt (by omega) (by omega) (by omega)), a1, bd_some, b1, bd_some, c1, bd_some, d1, bd_some, e1, bd_some, e3.2.2.2.2.2.1]
    · have h0 := hm.u0 (k := 0) (by omega) (ii 0)
      obtain ⟨m1, a1, a2, a3⟩ := r_four h0 (by omega) a
      obtain ⟨m2, b1, b2, b3⟩ := r_four a3 (by rw [tp4_l]; omega) b
      obtain ⟨m3, c1, c2, c3⟩ := r_four b3 (by rw [tp4_l, tp4_l]; omega) c
      obtain ⟨m4, d1, d2, d3⟩ := r_four c3 (by rw [tp4_l, tp4_l, tp4_l]; omega) d
      obtain ⟨m5, e1, e2, e3⟩ := r_four d3 (by rw [tp4_l, tp4_l, tp4_l, tp4_l]; omega) e
      refine ⟨m5, ?_, ((((frf_u0 m 0 (ii 0)).tr a2).tr b2).tr c2 |>.tr d2).tr e2, e3⟩
      show f7_feed m a b c d e = _
      unfold f7_feed
      rw [l0, nm_eq, h0.2.2.2.2.2.1, l500, l20, ii_add, if_neg (inlt (by omega) (by omega) (by omega)), a1, bd_some, b1, bd_some, c1, bd_some, d1, bd_some, e1, bd_some, e3.2.2.2.2.2.1]
end
