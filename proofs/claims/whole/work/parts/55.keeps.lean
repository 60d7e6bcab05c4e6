/-! kept and gone back to; the tape -/
section
variable {mm m' : Mem} {s : ST}
theorem k18 {a : Nat} (ha : a < 2) : ∀ (d k n : Nat) (m : Mem), k + d = 235 → d < n → (∀ j, j < k → m 2 (235 * a + j) = m 1 j) → ∃ m', (∀ c, c ≠ 2 → c ≠ 3 → m' c = m c) ∧ (∀ j, j < 235 → m' 2 (235 * a + j) = m 1 j) ∧ (∀ i, (i < 235 * a ∨ 235 * a + 235 ≤ i) → m' 2 i = m 2 i) ∧ m' 3 = (up2 m 3 a (ii 1)) 3 ∧ f7_keep_l18 n (ii a) (ii k) m = some (ii 1, m') := by
  intro d
  induction d with
  | zero =>
    intro k n m hk hdn hj
    obtain ⟨q, rfl⟩ : ∃ q, n = q + 1 := ⟨n - 1, by omega⟩
    refine ⟨up2 m 3 a (ii 1), fun c h2 h3 => by funext j; exact up2_c _ _ _ _ h3, fun j h => by rw [up2_c _ _ _ _ (by omega)]; exact hj j (by omega), fun i _ => up2_c _ _ _ _ (by omega), rfl, ?_⟩
    rw [f7_keep_l18, l235, if_neg (inlt (by omega) (by omega) (by omega)), l1, wrq m lnR.2.2.1 (k := a) (by omega) (by omega) rfl]
  | succ d ih =>
    intro k n m hk hdn hj
    obtain ⟨q, rfl⟩ : ∃ q, n = q + 1 := ⟨n - 1, by omega⟩
    rw [f7_keep_l18, l235, if_pos (ilt (by omega) (by omega) (by omega)), rdq m lnR.1 (k := k) (by omega) (by omega) rfl, ii_mul, ii_add, wrq m lnR.2.1 (k := 235 * a + k) (by omega) (by omega) (by omega), iSu, nm_eq]
    obtain ⟨m', f1, f2, f3, f4, f5⟩ := ih (k + 1) q (up2 m 2 (235 * a + k) (m 1 k)) (by omega) (by omega) (fun j h => by
      rw [up2_c m (q := 2) (c := 1) _ _ _ (by omega)]
      by_cases e : j = k
      · rw [e, up2_at]
      · rw [up2_k _ _ _ _ (by omega)]; exact hj j (by omega))
    refine ⟨m', fun c h2 h3 => by rw [f1 c h2 h3]; funext j; exact up2_c _ _ _ _ h2, fun j h => by rw [f2 j h, up2_c _ _ _ _ (by omega)], fun i hi => by rw [f3 i hi, up2_k _ _ _ _ (by omega)], ?_, f5⟩
    rw [f4]
    funext j
    by_cases e : j = a
    · rw [e, up2_at, up2_at]
    · rw [up2_k _ _ _ _ e, up2_k _ _ _ _ e, up2_c _ _ _ _ (by omega)]
theorem b27 {a : Nat} (ha : a < 2) : ∀ (d k n : Nat) (m : Mem), k + d = 235 → d < n → (∀ j, j < k → m 1 j = m 2 (235 * a + j)) → ∃ m', FrQ 1 m m' ∧ (∀ j, j < 235 → m' 1 j = m 2 (235 * a + j)) ∧ f7_back_l27 n (ii a) (ii k) m = some (ii 1, m') := by
  intro d
  induction d with
  | zero =>
    intro k n m hk hdn hj
    obtain ⟨q, rfl⟩ : ∃ q, n = q + 1 := ⟨n - 1, by omega⟩
    refine ⟨m, FrQ.rf _ m, fun j h => hj j (by omega), ?_⟩
    rw [f7_back_l27, l235, if_neg (inlt (by omega) (by omega) (by omega)), l1]
  | succ d ih =>
    intro k n m hk hdn hj
    obtain ⟨q, rfl⟩ : ∃ q, n = q + 1 := ⟨n - 1, by omega⟩
    rw [f7_back_l27, l235, if_pos (ilt (by omega) (by omega) (by omega)), ii_mul, ii_add, rdq m lnR.2.1 (k := 235 * a + k) (by omega) (by omega) (by omega), wrq m lnR.1 (k := k) (by omega) (by omega) rfl, iSu, nm_eq]
    have F := (FrQ.rf 1 m).u k (m 2 (235 * a + k))
    obtain ⟨m', f1, f2, f3⟩ := ih (k + 1) q (up2 m 1 k (m 2 (235 * a + k))) (by omega) (by omega) (fun j h => by
      rw [up2_c _ _ _ _ (show (2 : Nat) ≠ 1 by omega)]
      by_cases e : j = k
      · rw [e, up2_at]
      · rw [up2_k _ _ _ _ e]; exact hj j (by omega))
    exact ⟨m', F.tr f1, fun j h => by rw [f2 j h, up2_c _ _ _ _ (show (2 : Nat) ≠ 1 by omega)], f3⟩
def kp0 (s : ST) : ST := (sM s, sM s, sK1 s, true, sb1 s, s.2.2.2.2.2)
def kp1 (s : ST) : ST := (sM s, sK0 s, sM s, sb0 s, true, s.2.2.2.2.2)
theorem t_keep (h : CI mm s) (hr : RI mm s) (hs : SW s) {a : Int} (h1 : -2147483648 ≤ a) (h2 : a < 2147483648) : Stq mm (f6_keep mm (ii a)) (fun m => f7_keep m (ii a)) := by
  have hob : Ob 96 5 ∧ Ob 103 2 ∧ Ob 115 5 ∧ Ob 122 2 := ⟨ob_96, ob_103, ob_115, ob_122⟩
  by_cases e0 : a = 0
  · subst e0
    refine stp_mk (v := ii 1) (s' := kp0 s) hr ⟨hs.1, fun _ => hs.1, hs.2.2⟩ ?_ (fun m hm => ?_)
    · obtain ⟨m1, f1, f2, f3⟩ := m_copy (q0 := 95) (q1 := 16) h.1 hob.1 hob.2.1 (by unfold apt; omega)
      have F : ∀ c, c < 96 ∨ 113 < c → c ≠ 14 → up2 m1 14 5 (ii 1) c = mm c := fun c h1 h2 => by
        rw [← f1 c (by omega)]; funext j; exact up2_c _ _ _ _ h2
      obtain ⟨q1, q2, q3, q4, q5, q6, q7, q8⟩ := h
      refine ⟨up2 m1 14 5 (ii 1), ?_, fun c hc => F c (by omega) (by omega), ⟨q1.fr (fun c h1 h2 => F c (by omega) (by omega)), fun _ => f2.fr (fun c h1 h2 => by funext j; exact up2_c _ _ _ _ (by omega)), fun b => (q3 b).fr (fun c h1 h2 => F c (by omega) (by omega)), up2_at _ _ _ _, ?_, by rw [F 74 (by omega) (by omega)]; exact q6, fun j hj => by rw [F 75 (by omega) (by omega)]; exact q7 j hj, by rw [F 73 (by omega) (by omega)]; exact q8⟩⟩
      · unfold f6_keep f6_keep_j50
        rw [l0, if_pos rfl, f3, bd_some, l1, nm_eq, if_pos rfl]
        unfold f6_keep_j59
        rw [l1]
      · rw [up2_k _ _ _ _ (by omega), f1 14 (by omega)]; exact q5
    · have h0 := hm.u0 (k := 0) (by omega) (ii 0)
      obtain ⟨m1, f1, f2, f3, f4, f5⟩ := k18 (a := 0) (by omega) 235 0 FU (up2 m 0 0 (ii 0)) (by omega) (by unfold FU; omega) (fun j h => by omega)
      obtain ⟨q1, q2, q3, q4, q5, q6, q7, q8⟩ := h0
      refine ⟨m1, ?_, fun c hc => by rw [f1 c (by omega) (by omega)]; exact frf_u0 m 0 _ c hc, ⟨rk_fr q1 (f1 1 (by omega) (by omega)), fun _ j hj => ?_, fun b j hj => ?_, ?_, ?_, by rw [f1 0 (by omega) (by omega)]; exact q6, fun j hj => by rw [f1 12 (by omega) (by omega)]; exact q7 j hj, by rw [f1 0 (by omega) (by omega)]; exact q8⟩⟩
      · show f7_keep m (ii 0) = _
        unfold f7_keep
        rw [l0, nm_eq, l1, f7_in_ok (by omega) (by omega) (by omega) (by omega) (by omega) (by omega), bd_some, if_pos (show (0 : Int) ≤ 0 ∧ (0 : Int) ≤ 1 by omega), if_neg (by decide)]
        exact f5
      · have t := f2 j hj
        rw [show 235 * 0 + j = j by omega] at t
        rw [t]; exact q1 j hj
      · rw [f3 _ (by omega)]; exact q3 b j hj
      · rw [f4, up2_at]; rfl
      · rw [f4, up2_k _ _ _ _ (by omega)]; exact q5
  · by_cases e1 : a = 1
    · subst e1
      refine stp_mk (v := ii 1) (s' := kp1 s) hr ⟨hs.1, hs.2.1, fun _ => hs.1, hs.2.2.2⟩ ?_ (fun m hm => ?_)
      · obtain ⟨m1, f1, f2, f3⟩ := m_copy (q0 := 114) (q1 := 16) h.1 hob.2.2.1 hob.2.2.2 (by unfold apt; omega)
        have F : ∀ c, c < 115 ∨ 132 < c → c ≠ 14 → up2 m1 14 6 (ii 1) c = mm c := fun c h1 h2 => by
          rw [← f1 c (by omega)]; funext j; exact up2_c _ _ _ _ h2
        obtain ⟨q1, q2, q3, q4, q5, q6, q7, q8⟩ := h
        refine ⟨up2 m1 14 6 (ii 1), ?_, fun c hc => F c (by omega) (by omega), ⟨q1.fr (fun c h1 h2 => F c (by omega) (by omega)), fun b => (q2 b).fr (fun c h1 h2 => F c (by omega) (by omega)), fun _ => f2.fr (fun c h1 h2 => by funext j; exact up2_c _ _ _ _ (by omega)), ?_, up2_at _ _ _ _, by rw [F 74 (by omega) (by omega)]; exact q6, fun j hj => by rw [F 75 (by omega) (by omega)]; exact q7 j hj, by rw [F 73 (by omega) (by omega)]; exact q8⟩⟩
        · unfold f6_keep f6_keep_j50
          rw [l0, if_neg (by decide), l1, if_pos rfl, f3, bd_some, nm_eq, if_neg (by decide), if_pos rfl]
          unfold f6_keep_j59
          rw [l1]
        · rw [up2_k _ _ _ _ (by omega), f1 14 (by omega)]; exact q4
      · have h0 := hm.u0 (k := 0) (by omega) (ii 0)
        obtain ⟨m1, f1, f2, f3, f4, f5⟩ := k18 (a := 1) (by omega) 235 0 FU (up2 m 0 0 (ii 0)) (by omega) (by unfold FU; omega) (fun j h => by omega)
        obtain ⟨q1, q2, q3, q4, q5, q6, q7, q8⟩ := h0
        refine ⟨m1, ?_, fun c hc => by rw [f1 c (by omega) (by omega)]; exact frf_u0 m 0 _ c hc, ⟨rk_fr q1 (f1 1 (by omega) (by omega)), fun b j hj => ?_, fun _ j hj => ?_, ?_, ?_, by rw [f1 0 (by omega) (by omega)]; exact q6, fun j hj => by rw [f1 12 (by omega) (by omega)]; exact q7 j hj, by rw [f1 0 (by omega) (by omega)]; exact q8⟩⟩
        · show f7_keep m (ii 1) = _
          unfold f7_keep
          rw [l0, nm_eq, l1, f7_in_ok (by omega) (by omega) (by omega) (by omega) (by omega) (by omega), bd_some, if_pos (show (0 : Int) ≤ 1 ∧ (1 : Int) ≤ 1 by omega), if_neg (by decide)]
          exact f5
        · rw [f3 _ (by omega)]; exact q2 b j hj
        · have t := f2 j hj
          rw [show 235 * 1 + j = 235 + j by omega] at t
          rw [t]; exact q1 j hj
        · rw [f4, up2_k _ _ _ _ (by omega)]; exact q4
        · rw [f4, up2_at]; rfl
    · refine stp_mk (v := ii 0) (s' := s) hr hs ⟨mm, ?_, Fcl.rf mm, h⟩ (fun m hm => ⟨_, ?_, frf_u0 m 0 (ii 0), hm.u0 (k := 0) (by omega) (ii 0)⟩)
      · unfold f6_keep f6_keep_j50
        rw [l0, l1, if_neg (ine e0 h1 h2 (by omega) (by omega)), if_neg (ine e1 h1 h2 (by omega) (by omega)), if_neg (ine e0 h1 h2 (by omega) (by omega)), if_neg (ine e1 h1 h2 (by omega) (by omega))]
      · show f7_keep m (ii a) = _
        unfold f7_keep
        rw [l0, nm_eq, l1, f7_in_ok h1 h2 (by omega) (by omega) (by omega) (by omega), bd_some, if_neg (show ¬ (0 ≤ a ∧ a ≤ 1) by omega), if_pos rfl]
theorem t_back (h : CI mm s) (hr : RI mm s) (hs : SW s) {a : Int} (h1 : -2147483648 ≤ a) (h2 : a < 2147483648) : Stq mm (f6_back mm (ii a)) (fun m => f7_back m (ii a)) := by
  have hob : Ob 17 5 ∧ Ob 24 2 := ⟨ob_17, ob_24⟩
  have hd : ∀ m, RI m s → f7_back m (ii a) = if ii (if 0 ≤ a ∧ a ≤ 1 then 1 else 0) = ii 0 then some (ii 0, up2 m 0 0 (ii 0)) else rdc 3 (ii a) (nm ((up2 m 0 0 (ii 0)) 3 (ii a).toNatClampNeg) (fun v3 => if v3 = ii 0 then some (ii 0, up2 m 0 0 (ii 0)) else f7_back_l27 FU (ii a) (ii 0) (up2 m 0 0 (ii 0)))) := by
    intro m hm
    unfold f7_back
    rw [l0, nm_eq, l1, f7_in_ok h1 h2 (by omega) (by omega) (by omega) (by omega), bd_some]
  have bad : (a = 0 → sb0 s = false) → (a = 1 → sb1 s = false) → Stq mm (f6_back mm (ii a)) (fun m => f7_back m (ii a)) := by
    intro x0 x1
    refine stp_mk (v := ii 0) (s' := s) hr hs ⟨mm, ?_, Fcl.rf mm, h⟩ (fun m hm => ⟨_, ?_, frf_u0 m 0 (ii 0), hm.u0 (k := 0) (by omega) (ii 0)⟩)
    · unfold f6_back f6_back_j27
      rw [l0, l1, h.2.2.2.1, h.2.2.2.2.1]
      by_cases e0 : a = 0
      · have z : ¬ ii a = ii 1 := by rw [e0]; decide
        rw [if_pos (by rw [e0]), x0 e0, if_pos (by rfl), if_neg z]
      · rw [if_neg (ine e0 h1 h2 (by omega) (by omega))]
        by_cases e1 : a = 1
        · rw [if_pos (by rw [e1]), x1 e1, if_pos (by rfl)]
        · rw [if_neg (ine e1 h1 h2 (by omega) (by omega))]
    · show f7_back m (ii a) = _
      rw [hd m hm]
      have h0 := hm.u0 (k := 0) (by omega) (ii 0)
      by_cases e : 0 ≤ a ∧ a ≤ 1
      · rw [if_pos e, if_neg (by decide)]
        by_cases e0 : a = 0
        · subst e0
          rw [rdq _ lnR.2.2.1 (k := 0) (by omega) (by omega) (by omega), h0.2.2.2.1, x0 rfl, if_pos (by rfl)]
        · have e1 : a = 1 := by omega
          subst e1
          rw [rdq _ lnR.2.2.1 (k := 1) (by omega) (by omega) (by omega), h0.2.2.2.2.1, x1 rfl, if_pos (by rfl)]
      · rw [if_neg e, if_pos rfl]
  by_cases y0 : a = 0 ∧ sb0 s = true
  · obtain ⟨rfl, yb⟩ := y0
    refine stp_mk (v := ii 1) (s' := sset s (sK0 s)) hr ⟨hs.2.1 yb, hs.2⟩ ?_ (fun m hm => ?_)
    · obtain ⟨m1, f1, f2, f3⟩ := m_copy (q0 := 16) (q1 := 95) (h.2.1 yb) hob.1 hob.2 (by unfold apt; omega)
      refine ⟨m1, ?_, fun c hc => f1 c (by omega), h.ups (fun c hc => f1 c (by omega)) f2⟩
      unfold f6_back
      rw [l0, if_pos rfl, h.2.2.2.1, yb, if_neg (by decide), f3, bd_some, l1]
    · have h0 := hm.u0 (k := 0) (by omega) (ii 0)
      obtain ⟨m1, f1, f2, f3⟩ := b27 (a := 0) (by omega) 235 0 FU (up2 m 0 0 (ii 0)) (by omega) (by unfold FU; omega) (fun j h => by omega)
      refine ⟨m1, ?_, (frf_u0 m 0 (ii 0)).tr (fq1 f1), h0.ups (fun c hc => f1 c (by omega)) (by rw [f1 0 (by omega)]) (by rw [f1 0 (by omega)]) (fun j hj => ?_)⟩
      · show f7_back m (ii 0) = _
        rw [hd m hm, if_pos (show (0 : Int) ≤ 0 ∧ (0 : Int) ≤ 1 by omega), if_neg (by decide), rdq _ lnR.2.2.1 (k := 0) (by omega) (by omega) (by omega), h0.2.2.2.1, yb, if_neg (by decide)]
        exact f3
      · have t := f2 j hj
        rw [show 235 * 0 + j = j by omega] at t
        rw [t]; exact h0.2.1 yb j hj
  · by_cases y1 : a = 1 ∧ sb1 s = true
    · obtain ⟨rfl, yb⟩ := y1
      refine stp_mk (v := ii 1) (s' := sset s (sK1 s)) hr ⟨hs.2.2.1 yb, hs.2⟩ ?_ (fun m hm => ?_)
      · obtain ⟨m1, f1, f2, f3⟩ := m_copy (q0 := 16) (q1 := 114) (h.2.2.1 yb) hob.1 hob.2 (by unfold apt; omega)
        refine ⟨m1, ?_, fun c hc => f1 c (by omega), h.ups (fun c hc => f1 c (by omega)) f2⟩
        unfold f6_back f6_back_j27
        rw [l0, if_neg (by decide), l1, if_pos rfl, h.2.2.2.2.1, yb, if_neg (by decide), f3, bd_some]
      · have h0 := hm.u0 (k := 0) (by omega) (ii 0)
        obtain ⟨m1, f1, f2, f3⟩ := b27 (a := 1) (by omega) 235 0 FU (up2 m 0 0 (ii 0)) (by omega) (by unfold FU; omega) (fun j h => by omega)
        refine ⟨m1, ?_, (frf_u0 m 0 (ii 0)).tr (fq1 f1), h0.ups (fun c hc => f1 c (by omega)) (by rw [f1 0 (by omega)]) (by rw [f1 0 (by omega)]) (fun j hj => ?_)⟩
        · show f7_back m (ii 1) = _
          rw [hd m hm, if_pos (show (0 : Int) ≤ 1 ∧ (1 : Int) ≤ 1 by omega), if_neg (by decide), rdq _ lnR.2.2.1 (k := 1) (by omega) (by omega) (by omega), h0.2.2.2.2.1, yb, if_neg (by decide)]
          exact f3
        · have t := f2 j hj
          rw [show 235 * 1 + j = 235 + j by omega] at t
          rw [t]; exact h0.2.2.1 yb j hj
    · refine bad (fun e => ?_) (fun e => ?_)
      · cases hb : sb0 s with
        | false => rfl
        | true => exact absurd ⟨e, hb⟩ y0
      · cases hb : sb1 s with
        | false => rfl
        | true => exact absurd ⟨e, hb⟩ y1
/-! the tape -/
def tps (s : ST) (tp : Nat → Int) (tl : Nat) : ST := (s.1, s.2.1, s.2.2.1, s.2.2.2.1, s.2.2.2.2.1, tp, tl, s.2.2.2.2.2.2.2)
theorem t_end (h : CI mm s) (hr : RI mm s) (hs : SW s) {a : Int} (h1 : -2147483648 ≤ a) (h2 : a < 2147483648) : Stq mm (f6_end mm (ii a)) (fun m => f7_end m (ii a)) := by
  have hl := hs.2.2.2.1
  by_cases e : 0 ≤ a ∧ a ≤ (stl s : Int)
  · obtain ⟨k, rfl⟩ := Int.eq_ofNat_of_zero_le e.1
    refine stp_mk (v := ii 1) (s' := tps s (stp' s) k) hr ⟨hs.1, hs.2.1, hs.2.2.1, by show k ≤ 500; omega, fun i hi => hs.2.2.2.2 i (by have : i < k := hi; omega)⟩ ?_ (fun m hm => ?_)
    · obtain ⟨q1, q2, q3, q4, q5, q6, q7, q8⟩ := h
      have F : ∀ c, c ≠ 74 → up2 mm 74 1 (ii k) c = mm c := fun c hc => by funext j; exact up2_c _ _ _ _ hc
      refine ⟨up2 mm 74 1 (ii k), ?_, fun c hc => F c (by omega), ⟨q1.fr (fun c h1 h2 => F c (by omega)), fun b => (q2 b).fr (fun c h1 h2 => F c (by omega)), fun b => (q3 b).fr (fun c h1 h2 => F c (by omega)), by rw [F 14 (by omega)]; exact q4, by rw [F 14 (by omega)]; exact q5, up2_at _ _ _ _, fun j hj => by rw [F 75 (by omega)]; exact q7 j (by have : j < k := hj; omega), by rw [F 73 (by omega)]; exact q8⟩⟩
      unfold f6_end
      rw [q6, l0, l1, f6_within_ok (by omega) (by omega) (by omega) (by omega) (by omega) (by omega), bd_some, if_pos e, if_neg (by decide), nm_eq]
    · have h0 := hm.u0 (k := 0) (by omega) (ii 0)
      obtain ⟨q1, q2, q3, q4, q5, q6, q7, q8⟩ := h0
      have F : ∀ c, c ≠ 0 → up2 (up2 m 0 0 (ii 0)) 0 15 (ii k) c = up2 m 0 0 (ii 0) c := fun c hc => by funext j; exact up2_c _ _ _ _ hc
      refine ⟨up2 (up2 m 0 0 (ii 0)) 0 15 (ii k), ?_, fun c hc => by rw [F c (by omega)]; exact frf_u0 m 0 _ c hc, ⟨rk_fr q1 (F 1 (by omega)), fun b j hj => by rw [F 2 (by omega)]; exact q2 b j hj, fun b j hj => by rw [F 2 (by omega)]; exact q3 b j hj, by rw [F 3 (by omega)]; exact q4, by rw [F 3 (by omega)]; exact q5, up2_at _ _ _ _, fun j hj => by rw [F 12 (by omega)]; exact q7 j (by have : j < k := hj; omega), by rw [up2_k _ _ _ _ (by omega)]; exact q8⟩⟩
      show f7_end m (ii k) = _
      unfold f7_end
      rw [l0, nm_eq, q6, l1, f7_in_ok (by omega) (by omega) (by omega) (by omega) (by omega) (by omega), bd_some, if_pos e, if_neg (by decide), nm_eq]
  · refine stp_mk (v := ii 0) (s' := s) hr hs ⟨mm, ?_, Fcl.rf mm, h⟩ (fun m hm => ⟨_, ?_, frf_u0 m 0 (ii 0), hm.u0 (k := 0) (by omega) (ii 0)⟩)
    · unfold f6_end
      rw [h.2.2.2.2.2.1, l0, f6_within_ok h1 h2 (by omega) (by omega) (by omega) (by omega), bd_some, if_neg e, if_pos rfl]
    · have h0 := hm.u0 (k := 0) (by omega) (ii 0)
      show f7_end m (ii a) = _
      unfold f7_end
      rw [l0, nm_eq, h0.2.2.2.2.2.1, f7_in_ok h1 h2 (by omega) (by omega) (by omega) (by omega), bd_some, if_neg e, if_pos rfl]
end
