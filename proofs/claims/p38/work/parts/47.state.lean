/-! the state of both: what is told, what is kept, the tape, the fault -/
abbrev ST : Type := WM × WM × WM × Bool × Bool × (Nat → Int) × Nat × Int
def sM (s : ST) : WM := s.1
def sK0 (s : ST) : WM := s.2.1
def sK1 (s : ST) : WM := s.2.2.1
def sb0 (s : ST) : Bool := s.2.2.2.1
def sb1 (s : ST) : Bool := s.2.2.2.2.1
def stp' (s : ST) : Nat → Int := s.2.2.2.2.2.1
def stl (s : ST) : Nat := s.2.2.2.2.2.2.1
def sft (s : ST) : Int := s.2.2.2.2.2.2.2
def bi (b : Bool) : Int := if b = true then 1 else 0
def CI (mm : Mem) (s : ST) : Prop := MK mm 16 (sM s) ∧ (sb0 s = true → MK mm 95 (sK0 s)) ∧ (sb1 s = true → MK mm 114 (sK1 s)) ∧ mm 14 5 = ii (bi (sb0 s)) ∧ mm 14 6 = ii (bi (sb1 s)) ∧ mm 74 1 = ii (stl s) ∧ (∀ i, i < stl s → mm 75 i = ii (stp' s i)) ∧ mm 73 2 = ii (sft s)
def RI (mm : Mem) (s : ST) : Prop := RK mm (sM s) ∧ (sb0 s = true → ∀ j, j < 235 → mm 2 j = ii (sK0 s j)) ∧ (sb1 s = true → ∀ j, j < 235 → mm 2 (235 + j) = ii (sK1 s j)) ∧ mm 3 0 = ii (bi (sb0 s)) ∧ mm 3 1 = ii (bi (sb1 s)) ∧ mm 0 15 = ii (stl s) ∧ (∀ i, i < stl s → mm 12 i = ii (stp' s i)) ∧ mm 0 16 = ii (sft s)
def SW (s : ST) : Prop := WF (sM s) ∧ (sb0 s = true → WF (sK0 s)) ∧ (sb1 s = true → WF (sK1 s)) ∧ stl s ≤ 500 ∧ (∀ i, i < stl s → 0 ≤ stp' s i ∧ stp' s i ≤ 255)
def Fcl (mm m' : Mem) : Prop := ∀ c, c < 14 → m' c = mm c
def Frf (mm m' : Mem) : Prop := ∀ c, 14 ≤ c → m' c = mm c
section
variable {mm m' : Mem} {s : ST}
theorem CI.fr (h : CI mm s) (hf : ∀ c, c = 14 ∨ (16 ≤ c ∧ c ≤ 34) ∨ (73 ≤ c ∧ c ≤ 75) ∨ (95 ≤ c ∧ c ≤ 132) → m' c = mm c) : CI m' s := by
  obtain ⟨a, b, c, d, e, f, g, i⟩ := h
  exact ⟨a.fr (fun c h1 h2 => hf c (by omega)), fun q => (b q).fr (fun c h1 h2 => hf c (by omega)), fun q => (c q).fr (fun c h1 h2 => hf c (by omega)), by rw [hf 14 (by omega)]; exact d, by rw [hf 14 (by omega)]; exact e, by rw [hf 74 (by omega)]; exact f, fun j hj => by rw [hf 75 (by omega)]; exact g j hj, by rw [hf 73 (by omega)]; exact i⟩
theorem RI.fr (h : RI mm s) (hf : ∀ c, c = 1 ∨ c = 2 ∨ c = 3 ∨ c = 12 → m' c = mm c) (h5 : m' 0 15 = mm 0 15) (h6 : m' 0 16 = mm 0 16) : RI m' s := by
  obtain ⟨a, b, c, d, e, f, g, i⟩ := h
  exact ⟨rk_fr a (hf 1 (by omega)), fun q j hj => by rw [hf 2 (by omega)]; exact b q j hj, fun q j hj => by rw [hf 2 (by omega)]; exact c q j hj, by rw [hf 3 (by omega)]; exact d, by rw [hf 3 (by omega)]; exact e, by rw [h5]; exact f, fun j hj => by rw [hf 12 (by omega)]; exact g j hj, by rw [h6]; exact i⟩
theorem RI.fc (h : RI mm s) (hf : Fcl mm m') : RI m' s := h.fr (fun c hc => hf c (by omega)) (by rw [hf 0 (by omega)]) (by rw [hf 0 (by omega)])
theorem CI.ff (h : CI mm s) (hf : Frf mm m') : CI m' s := h.fr (fun c hc => hf c (by omega))
theorem CI.ak (h : CI mm s) : AK mm 15 (sM s) := ⟨ob_15, h.1.1, h.1.2⟩
theorem CI.z (h : CI mm s) : ZK mm 17 (sM s) := h.1.1
theorem CI.o (h : CI mm s) : OK mm 24 (sM s) := h.1.2
theorem CI.fa (h : CI mm s) (hf : FrA 15 mm m') : CI m' s := h.fr (fun c hc => hf c (by omega) (by omega))
theorem fa_cl (hf : FrA 15 mm m') : Fcl mm m' := fun c hc => hf c (by omega) (by omega)
theorem RI.u0 (h : RI mm s) {k : Nat} (hk : k ≠ 15 ∧ k ≠ 16) (v : Int32) : RI (up2 mm 0 k v) s := h.fr (fun c hc => by funext j; exact up2_c _ _ _ _ (by omega)) (up2_k _ _ _ _ (by omega)) (up2_k _ _ _ _ (by omega))
theorem frf_u0 (mm : Mem) (k : Nat) (v : Int32) : Frf mm (up2 mm 0 k v) := fun c hc => by funext j; exact up2_c _ _ _ _ (by omega)
theorem Frf.tr {a b c : Mem} (h : Frf a b) (h2 : Frf b c) : Frf a c := fun q hq => by rw [h2 q hq, h q hq]
theorem Fcl.tr {a b c : Mem} (h : Fcl a b) (h2 : Fcl b c) : Fcl a c := fun q hq => by rw [h2 q hq, h q hq]
theorem Frf.rf (a : Mem) : Frf a a := fun _ _ => rfl
theorem Fcl.rf (a : Mem) : Fcl a a := fun _ _ => rfl
theorem c_clear (h : CI mm s) (hs : SW s) : ∃ m', f0_clear mm 15 = some m' ∧ Fcl mm m' ∧ CI m' s ∧ CLS m' 15 (sM s) := by
  obtain ⟨m', f1, f2, f3⟩ := clear_ok h.ak hs.1
  exact ⟨m', f3, fa_cl f1, h.fa f1, f2⟩
end
theorem lnC : ln 35 = 6 ∧ ln 36 = 6 ∧ ln 37 = 6 ∧ ln 38 = 48 ∧ ln 64 = 6 ∧ ln 55 = 12 ∧ ln 56 = 12 ∧ ln 48 = 6 ∧ ln 49 = 6 ∧ ln 47 = 6 := by decide +kernel
theorem lNN : (-1000000000000000 : Int64) = ll (-1000000000000000) := by decide
/-! questions that clear -/
section
variable {mm : Mem} {s : ST}
theorem c_price (h : CI mm s) (hs : SW s) {a : Int} (h1 : -2147483648 ≤ a) (h2 : a < 2147483648) : ∃ m', f6_price mm (ii a) = some (ii (if 0 ≤ a ∧ a < sM s 0 then (Pz (Dc (sM s)) a.toNat : Int) else -1), m') ∧ Fcl mm m' ∧ CI m' s := by
  have hz := hs.1.1.zn
  have hc := zn_c hs.1.1
  unfold f6_price
  rw [f5_has_ok h.z hz h1 h2, bd_some]
  by_cases c : 0 ≤ a ∧ a < sM s 0
  · obtain ⟨z, rfl⟩ := Int.eq_ofNat_of_zero_le c.1
    obtain ⟨m', f1, f2, f3, f4⟩ := c_clear h hs
    refine ⟨m', ?_, f2, f3⟩
    have r := f4.2.1 z (by omega)
    rw [if_pos c, l0, if_neg (ine (by omega) (by omega) (by omega) (by omega) (by omega)), f1, bd_some, at_i m' (q := 35) (k := z) (n := 6) (by decide) (by omega) (by omega), bd_some, if_pos c, Int.toNat_natCast]
    have r0 : m' 35 z = _ := r.1
    rw [r0]
  · refine ⟨mm, ?_, Fcl.rf mm, h⟩
    rw [if_neg c, l0, if_pos rfl, if_neg c]
    rfl
theorem c_net (h : CI mm s) (hs : SW s) {a : Int} (h1 : -2147483648 ≤ a) (h2 : a < 2147483648) : ∃ m', f6_net mm (ii a) = some (ii (if 0 ≤ a ∧ a < sM s 0 then Nz (Dc (sM s)) a.toNat else -1000000), m') ∧ Fcl mm m' ∧ CI m' s := by
  have hz := hs.1.1.zn
  have hc := zn_c hs.1.1
  unfold f6_net
  rw [f5_has_ok h.z hz h1 h2, bd_some]
  by_cases c : 0 ≤ a ∧ a < sM s 0
  · obtain ⟨z, rfl⟩ := Int.eq_ofNat_of_zero_le c.1
    obtain ⟨m', f1, f2, f3, f4⟩ := c_clear h hs
    refine ⟨m', ?_, f2, f3⟩
    have r := f4.2.1 z (by omega)
    rw [if_pos c, l0, if_neg (ine (by omega) (by omega) (by omega) (by omega) (by omega)), f1, bd_some, at_i m' (q := 36) (k := z) (n := 6) (by decide) (by omega) (by omega), bd_some, if_pos c, Int.toNat_natCast]
    have r0 : m' 36 z = _ := r.2.1
    rw [r0]
  · refine ⟨mm, ?_, Fcl.rf mm, h⟩
    rw [if_neg c, l0, if_pos rfl, if_neg c]
    rfl
theorem c_served (h : CI mm s) (hs : SW s) {a : Int} (h1 : -2147483648 ≤ a) (h2 : a < 2147483648) : ∃ m', f6_served mm (ii a) = some (ii (if 0 ≤ a ∧ a < sM s 0 then Sz (Dc (sM s)) a.toNat else -1), m') ∧ Fcl mm m' ∧ CI m' s := by
  have hz := hs.1.1.zn
  have hc := zn_c hs.1.1
  unfold f6_served
  rw [f5_has_ok h.z hz h1 h2, bd_some]
  by_cases c : 0 ≤ a ∧ a < sM s 0
  · obtain ⟨z, rfl⟩ := Int.eq_ofNat_of_zero_le c.1
    obtain ⟨m', f1, f2, f3, f4⟩ := c_clear h hs
    refine ⟨m', ?_, f2, f3⟩
    have r := f4.2.1 z (by omega)
    rw [if_pos c, l0, if_neg (ine (by omega) (by omega) (by omega) (by omega) (by omega)), f1, bd_some, at_i m' (q := 37) (k := z) (n := 6) (by decide) (by omega) (by omega), bd_some, if_pos c, Int.toNat_natCast]
    have r0 : m' 37 z = _ := r.2.2
    rw [r0]
  · refine ⟨mm, ?_, Fcl.rf mm, h⟩
    rw [if_neg c, l0, if_pos rfl, if_neg c]
    rfl
theorem c_surplus (h : CI mm s) (hs : SW s) : ∃ m', f6_surplus mm = some (ll (sur (sM s) (Dc (sM s))), m') ∧ Fcl mm m' ∧ CI m' s := by
  obtain ⟨m', f1, f2, f3, f4⟩ := c_clear h hs
  refine ⟨m', ?_, f2, f3⟩
  unfold f6_surplus
  rw [f1, bd_some, surplusOfAll_ok f3.ak f4 hs.1, bd_some]
end
