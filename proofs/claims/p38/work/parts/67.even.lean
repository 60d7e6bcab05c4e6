/-! evenness of what is cleared -/
theorem sm_mul (n : Nat) (a : Int) (f : Nat → Int) : sm n (fun i => a * f i) = a * sm n f := by
  induction n with
  | zero => rw [sm_0, sm_0, Int.mul_zero]
  | succ n ih => rw [sm_s, sm_s, ih, Int.mul_add]
theorem sm_sub (n : Nat) (f g : Nat → Int) : sm n (fun i => f i - g i) = sm n f - sm n g := by
  induction n with
  | zero => rw [sm_0, sm_0, sm_0]; rfl
  | succ n ih => rw [sm_s, sm_s, sm_s, ih]; omega
def tkz (D : DT) (z i : Nat) : Int := if dz D (i / 4) = z then Tz D i else 0
def tkr (D : DT) (z r : Nat) : Int := if dz D r = z then tko D r else 0
def ntz (D : DT) (z c : Nat) : Int := if z < c ∧ dou D c = z then Nz D c else 0
section
variable {D : DT}
theorem tkz_sum (z : Nat) : ∀ n, sm n (tkz D z) = sm n (fun i => if dz D (i / 4) = z ∧ dJ D i < Pz D z then dU D i else 0) + (lq D z 0 - lq D z n) := by
  intro n
  induction n with
  | zero => rw [sm_0, sm_0]; omega
  | succ n ih =>
    rw [sm_s, sm_s, ih, lq_s]
    unfold tkz
    by_cases e : dz D (n / 4) = z
    · rw [if_pos e, lq_T n e]
      by_cases c0 : dU D n = 0
      · rw [if_pos c0, if_neg (show ¬ (dz D (n / 4) = z ∧ dU D n ≠ 0 ∧ dJ D n = (Pz D z : Int)) from fun q => q.2.1 c0), c0, ite_self]
        omega
      · rw [if_neg c0]
        by_cases c1 : dJ D n < (Pz D z : Int)
        · rw [if_pos c1, if_pos (show dz D (n / 4) = z ∧ dJ D n < (Pz D z : Int) from ⟨e, c1⟩), if_neg (show ¬ (dz D (n / 4) = z ∧ dU D n ≠ 0 ∧ dJ D n = (Pz D z : Int)) by omega)]
          omega
        · rw [if_neg c1, if_neg (show ¬ (dz D (n / 4) = z ∧ dJ D n < (Pz D z : Int)) by omega)]
          by_cases c2 : dJ D n = (Pz D z : Int)
          · rw [if_pos c2, if_pos (show dz D (n / 4) = z ∧ dU D n ≠ 0 ∧ dJ D n = (Pz D z : Int) from ⟨e, c0, c2⟩)]
            omega
          · rw [if_neg c2, if_neg (show ¬ (dz D (n / 4) = z ∧ dU D n ≠ 0 ∧ dJ D n = (Pz D z : Int)) by omega)]
            omega
    · rw [if_neg e, if_neg (show ¬ (dz D (n / 4) = z ∧ dJ D n < (Pz D z : Int)) from fun q => e q.1), if_neg (show ¬ (dz D (n / 4) = z ∧ dU D n ≠ 0 ∧ dJ D n = (Pz D z : Int)) from fun q => e q.1)]
      omega
theorem inn_sum (h : WD D) (z : Nat) : ∀ n, n ≤ dn D → sm n (ntz D z) = sm n (inn D z (Pz D z)) + (lbq D z 0 - lbq D z n) := by
  intro n
  induction n with
  | zero => intro _; rw [sm_0, sm_0]; omega
  | succ n ih =>
    intro hn
    rw [sm_s, sm_s, ih (by omega), lbq_s]
    unfold ntz inn
    by_cases e : z < n ∧ dou D n = z
    · rw [if_pos e, if_pos e, if_pos e, lbq_N h (by omega) e]
      omega
    · rw [if_neg e, if_neg e, if_neg e]
      omega
theorem tkr_sum (D : DT) (z : Nat) : ∀ n, sm n (tkr D z) = sm (4 * n) (tkz D z) := by
  intro n
  induction n with
  | zero => rfl
  | succ n ih =>
    rw [sm_s, ih, show 4 * (n + 1) = 4 * n + 3 + 1 by omega, sm_s, show 4 * n + 3 = 4 * n + 2 + 1 by omega, sm_s, show 4 * n + 2 = 4 * n + 1 + 1 by omega, sm_s, sm_s]
    unfold tkr tkz tko
    rw [show (4 * n + 1 + 1 + 1) / 4 = n by omega, show (4 * n + 1 + 1) / 4 = n by omega, show (4 * n + 1) / 4 = n by omega, show 4 * n / 4 = n by omega]
    by_cases e : dz D n = z
    · rw [if_pos e, if_pos e, if_pos e, if_pos e, if_pos e, show 4 * n + 1 + 1 + 1 = 4 * n + 3 by omega, show 4 * n + 1 + 1 = 4 * n + 2 by omega]
      omega
    · rw [if_neg e, if_neg e, if_neg e, if_neg e, if_neg e]
      omega
/-- what is taken, and what inner zones send out, is served and sent out -/
theorem even (h : WD D) {z : Nat} (hz : z < dn D) : sm (dm D) (tkr D z) + sm (dn D) (ntz D z) - Sz D z = Nz D z := by
  rw [tkr_sum, tkz_sum, inn_sum h z _ (Nat.le_refl _), lbq_S, lbq_up z (show 0 ≤ z + 1 by omega), lq_0]
  have hL := Lz_eq h hz (Pz D z)
  unfold ow at hL
  omega
/-- money is even -/
theorem money (h : WD D) (hr : ∀ r, r < dm D → dz D r < dn D) : sm (dn D) (fun z => (Pz D z : Int) * Sz D z) = sm (dm D) (pdt D) + sm (dn D) (fun z => if z = 0 then 0 else rto D z) := by
  have e1 : sm (dn D) (fun z => (Pz D z : Int) * Sz D z) = sm (dn D) (fun z => sm (dm D) (fun r => if dz D r = z then pdt D r else 0) + sm (dn D) (fun c => if z < c ∧ dou D c = z then (Pz D z : Int) * Nz D c else 0)) - sm (dn D) (fun z => (Pz D z : Int) * Nz D z) := by
    rw [← sm_sub]
    refine sm_congr (fun z hz => ?_)
    have he := even h hz
    have a1 : sm (dm D) (fun r => if dz D r = z then pdt D r else 0) = (Pz D z : Int) * sm (dm D) (tkr D z) := by
      rw [← sm_mul]
      refine sm_congr (fun r _ => ?_)
      unfold tkr pdt
      by_cases e : dz D r = z
      · rw [if_pos e, if_pos e, e]
      · rw [if_neg e, if_neg e, Int.mul_zero]
    have a2 : sm (dn D) (fun c => if z < c ∧ dou D c = z then (Pz D z : Int) * Nz D c else 0) = (Pz D z : Int) * sm (dn D) (ntz D z) := by
      rw [← sm_mul]
      refine sm_congr (fun c _ => ?_)
      unfold ntz
      by_cases e : z < c ∧ dou D c = z
      · rw [if_pos e, if_pos e]
      · rw [if_neg e, if_neg e, Int.mul_zero]
    rw [a1, a2, ← Int.mul_add, ← Int.mul_sub]
    congr 1
    omega
  have e2 : sm (dn D) (fun z => sm (dm D) (fun r => if dz D r = z then pdt D r else 0)) = sm (dm D) (pdt D) := by
    rw [sm_swap]
    refine sm_congr (fun r hr9 => ?_)
    rw [sm_one (hr r hr9) _ (fun i _ hi => if_neg (fun q => hi q.symm)), if_pos rfl]
  have e3 : sm (dn D) (fun z => sm (dn D) (fun c => if z < c ∧ dou D c = z then (Pz D z : Int) * Nz D c else 0)) = sm (dn D) (fun c => if c = 0 then 0 else (Pz D (dou D c) : Int) * Nz D c) := by
    rw [sm_swap]
    refine sm_congr (fun c hc => ?_)
    by_cases e : c = 0
    · rw [if_pos e]
      exact sm_zero (fun z _ => if_neg (by omega))
    · have ho := h.ou (z := c) (by omega) hc
      rw [if_neg e, sm_one (k := dou D c) (by omega) _ (fun i _ hi => if_neg (fun q => hi q.2.symm)), if_pos ⟨ho, rfl⟩]
  have e4 : sm (dn D) (fun z => if z = 0 then 0 else rto D z) = sm (dn D) (fun c => if c = 0 then 0 else (Pz D (dou D c) : Int) * Nz D c) - sm (dn D) (fun z => (Pz D z : Int) * Nz D z) := by
    rw [← sm_sub]
    refine sm_congr (fun c hc => ?_)
    by_cases e : c = 0
    · rw [if_pos e, if_pos e, e, (PN_0 D).2, Int.mul_zero]
      rfl
    · rw [if_neg e, if_neg e]
      unfold rto
      rw [Int.mul_comm, Int.sub_mul]
  rw [e1, sm_add, e2, e3, e4]
  omega
/-- the least price -/
theorem lp_lst {z : Nat} {nt : Int} : lp D z nt = 0 ∨ Lz D z (lp D z nt : Int) < nt := by
  by_cases e : lp D z nt = 0
  · exact Or.inl e
  · refine Or.inr ?_
    have := lp_before (D := D) (z := z) (nt := nt) (q := lp D z nt - 1) (by omega)
    rw [show ((lp D z nt - 1 : Nat) : Int) + 1 = (lp D z nt : Int) by omega] at this
    exact this
theorem lst_0 (D : DT) : Pz D 0 = 0 ∨ Lz D 0 (Pz D 0 : Int) < Nz D 0 := by
  obtain ⟨h1, h2⟩ := PN_0 D
  rw [h1, h2]
  exact lp_lst
theorem prs (h : WD D) {z : Nat} (h1 : 1 ≤ z) (hz : z < dn D) (hne : Pz D z ≠ Pz D (dou D z)) : (Pz D z = 0 ∨ Lz D z (Pz D z : Int) < Nz D z) ∧ ((Nz D z = -(din D z) ∧ Pz D (dou D z) < Pz D z) ∨ (Nz D z = dot D z ∧ Pz D z < Pz D (dou D z))) := by
  have ho := h.ou h1 hz
  obtain ⟨q1, q2⟩ := PN_s h h1 hz
  have p1 := PN_9 h (z := dou D z) (by omega)
  have p2 := PN_9 h hz
  have hb := nof_bd h (y := dou D z) (p := (Pz D (dou D z) : Int)) hz p1.1
  rw [← q1] at hb
  have hio := h.io hz
  by_cases c : Lz D z (Pz D (dou D z)) ≤ Nz D z ∧ Nz D z ≤ Lz D z ((Pz D (dou D z) : Int) + 1)
  · rw [if_pos c] at q2
    exact absurd q2 hne
  · rw [if_neg c] at q2
    refine ⟨?_, ?_⟩
    · rw [q2]
      exact lp_lst
    · by_cases c1 : Nz D z < Lz D z (Pz D (dou D z))
      · have hN : Nz D z = dot D z := by
          have := hb.1
          have := hb.2
          unfold cu at *
          omega
        refine Or.inr ⟨hN, ?_⟩
        have hP : 1 ≤ Pz D (dou D z) := by
          by_cases e : Pz D (dou D z) = 0
          · exfalso
            have := Lz_z h hz (p := (Pz D (dou D z) : Int)) (by omega)
            omega
          · omega
        have := (lp_at h hz (nt := Nz D z) (t := Pz D (dou D z) - 1) (by omega) (by
          rw [show ((Pz D (dou D z) - 1 : Nat) : Int) + 1 = (Pz D (dou D z) : Int) by omega]
          omega)).2
        omega
      · have c2 : Lz D z ((Pz D (dou D z) : Int) + 1) < Nz D z := by omega
        have hN : Nz D z = -(din D z) := by
          have := hb.1
          have := hb.2
          unfold cu at *
          omega
        refine Or.inl ⟨hN, ?_⟩
        by_cases e : Pz D z ≤ Pz D (dou D z)
        · exfalso
          have := Lz_mn h hz (p := (Pz D z : Int) + 1) (q := (Pz D (dou D z) : Int) + 1) (by omega)
          have := p2.2.1
          omega
        · omega
theorem rto_nn (h : WD D) {z : Nat} (h1 : 1 ≤ z) (hz : z < dn D) : 0 ≤ rto D z ∧ rto D z ≤ 1000000000 := by
  have ho := h.ou h1 hz
  have hio := h.io hz
  have p1 := (PN_9 h (z := dou D z) (by omega)).2.2
  have p2 := (PN_9 h hz).2.2
  unfold rto
  by_cases e : Pz D z = Pz D (dou D z)
  · rw [e, Int.sub_self, Int.mul_zero]
    omega
  · rcases (prs h h1 hz e).2 with ⟨g1, g2⟩ | ⟨g1, g2⟩
    · rw [g1, Int.neg_mul, ← Int.mul_neg]
      have a := Int.mul_nonneg (a := din D z) (b := -((Pz D (dou D z) : Int) - Pz D z)) (by omega) (by omega)
      have b := Int.mul_le_mul (a := din D z) (c := 9999) (b := -((Pz D (dou D z) : Int) - Pz D z)) (d := 9999) (by omega) (by omega) (by omega) (by omega)
      omega
    · rw [g1]
      have a := Int.mul_nonneg (a := dot D z) (b := (Pz D (dou D z) : Int) - Pz D z) (by omega) (by omega)
      have b := Int.mul_le_mul (a := dot D z) (c := 9999) (b := (Pz D (dou D z) : Int) - Pz D z) (d := 9999) (by omega) (by omega) (by omega) (by omega)
      omega
end
theorem lgc_s (x : Int64) : lg_cmp x x = ii 0 := by rw [lgc_self]; decide
theorem lgc_nn {a : Int} (h0 : 0 ≤ a) (h1 : a ≤ 1000000000) : ¬ lg_cmp (ll a) (ll 0) < ii 0 := by
  unfold lg_cmp
  by_cases e : a = 0
  · rw [e, if_neg (fun h => Int64.lt_irrefl h), if_pos rfl]
    decide
  · have : ll 0 < ll a := by
      rw [Int64.lt_iff_toInt_lt, show (ll a).toInt = a from Int64.toInt_ofInt_of_le (by omega) (by omega), show (ll 0).toInt = 0 by decide]
      omega
    rw [if_pos this]
    decide
