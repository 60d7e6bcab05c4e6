/-! the same, for the reference -/
def Frp (mm m' : Mem) : Prop := (∀ c, c ≠ 0 → c ≠ 1 → c ≠ 13 → m' c = mm c) ∧ m' 0 21 = mm 0 21
def RP (mm : Mem) (s : ST) (W : WM) (q : Nat) : Prop := RI mm (sset s W) ∧ (∃ p : Nat, mm 0 17 = ii p ∧ p ≤ stl s ∧ skp (stp' s) (stl s) p = q) ∧ mm 0 18 = ii 0
def Rout (r : Option (Int32 × Mem)) (mm : Mem) (s : ST) (o : OC) : Prop := (∀ x, o.1 = some x → ∃ m', r = some (ii 1, m') ∧ Frp mm m' ∧ RP m' s x.1 x.2) ∧ (o.1 = none → ∃ m', r = some (ii 0, m') ∧ Frp mm m' ∧ (∃ W', RI m' (sset s W')) ∧ m' 0 18 = ii o.2)
section
variable {mm m' m1 : Mem} {s : ST} {q : Nat} {W : WM}
theorem Frp.rf (a : Mem) : Frp a a := ⟨fun _ _ _ _ => rfl, rfl⟩
theorem Frp.tr {a b c : Mem} (h : Frp a b) (h2 : Frp b c) : Frp a c := ⟨fun q h3 h4 h5 => by rw [h2.1 q h3 h4 h5, h.1 q h3 h4 h5], by rw [h2.2, h.2]⟩
theorem FL.ps (h : FL mm m') : Frp mm m' := ⟨fun c h1 _ h3 => h.1 c h1 h3, h.2 21 (by omega)⟩
theorem fq1_p (h : FrQ 1 mm m') : Frp mm m' := ⟨fun c _ h2 _ => h c h2, by rw [h 0 (by omega)]⟩
theorem RI.fl (h : RI mm s) (hf : FL mm m') : RI m' s := h.fr (fun c hc => hf.1 c (by omega) (by omega)) (hf.2 15 (by omega)) (hf.2 16 (by omega))
theorem Rout.fr {r : Option (Int32 × Mem)} {o : OC} (h : Rout r m1 s o) (hf : Frp mm m1) : Rout r mm s o := by
  refine ⟨fun x hx => ?_, fun hx => ?_⟩
  · obtain ⟨m', a1, a2, a3⟩ := h.1 x hx
    exact ⟨m', a1, hf.tr a2, a3⟩
  · obtain ⟨m', a1, a2, a3⟩ := h.2 hx
    exact ⟨m', a1, hf.tr a2, a3⟩
theorem Rout_y {r : Option (Int32 × Mem)} (h : r = some (ii 1, m')) (hf : Frp mm m') (hc : RP m' s W q) : Rout r mm s (okc W q) := by
  refine ⟨fun x hx => ?_, fun hx => by cases hx⟩
  have e : x = (W, q) := (Option.some.inj hx).symm
  subst e
  exact ⟨m', h, hf, hc⟩
theorem Rout_n {r : Option (Int32 × Mem)} {f : Int} (h : r = some (ii 0, m')) (hf : Frp mm m') (hw : RI m' (sset s W)) (hc : m' 0 18 = ii f) : Rout r mm s (bad f) := ⟨fun x hx => (by cases hx), fun _ => ⟨m', h, hf, ⟨W, hw⟩, hc⟩⟩
theorem RP.tr (h : RP mm s W q) (hs : SW s) : TR mm (stp' s) (stl s) := ⟨h.1.2.2.2.2.2.1, h.1.2.2.2.2.2.2.1, hs.2.2.2.1, hs.2.2.2.2⟩
theorem RP.le (h : RP mm s W q) : q ≤ stl s := by
  obtain ⟨p, _, h2, h3⟩ := h.2.1
  rw [← h3]
  exact (skp_le h2).2
theorem skp_r {t : Nat → Int} {L p q : Nat} (h : p ≤ L) (hq : skp t L p = q) : skp t L q = q := by
  subst hq
  exact rnn_r h
/-- the place moved to the token -/
theorem RP.at (h : RP mm s W q) : RP (up2 mm 0 17 (ii q)) s W q ∧ FL mm (up2 mm 0 17 (ii q)) := by
  have F : FL mm (up2 mm 0 17 (ii q)) := (FL.rf mm).u (by omega) _
  obtain ⟨p, _, h2, h3⟩ := h.2.1
  exact ⟨⟨h.1.fl F, ⟨q, up2_at _ _ _ _, h.le, skp_r h2 h3⟩, by rw [up2_k _ _ _ _ (by omega)]; exact h.2.2⟩, F⟩
theorem RP.u13 (h : RP mm s W q) (k : Nat) (v : Int32) : RP (up2 mm 13 k v) s W q ∧ FL mm (up2 mm 13 k v) := by
  have F : FL mm (up2 mm 13 k v) := (FL.rf mm).u13 k v
  obtain ⟨p, h1, h2⟩ := h.2.1
  exact ⟨⟨h.1.fl F, ⟨p, by rw [up2_c _ _ _ _ (by omega)]; exact h1, h2⟩, by rw [up2_c _ _ _ _ (by omega)]; exact h.2.2⟩, F⟩
/-- the reference's market written to -/
theorem RP.mk1 (h : RP mm s W q) {W' : WM} (hf : FrQ 1 mm m') (hr : RI m' (sset s W')) : RP m' s W' q ∧ Frp mm m' := by
  obtain ⟨p, h1, h2⟩ := h.2.1
  exact ⟨⟨hr, ⟨p, by rw [hf 0 (by omega)]; exact h1, h2⟩, by rw [hf 0 (by omega)]; exact h.2.2⟩, fq1_p hf⟩
theorem RP.w1 (h : RP mm s W q) (j : Nat) (v : Int) : RP (up2 mm 1 j (ii v)) s (up W j v) q ∧ Frp mm (up2 mm 1 j (ii v)) := h.mk1 ((FrQ.rf 1 mm).u j (ii v)) (h.1.w1 j v)
theorem r_num (h : RP mm s W q) (hs : SW s) {n : Nat} (hn : n < 6) {lo hi : Int} (h1 : 0 ≤ lo ∧ lo ≤ 9999) (h2 : -1 ≤ hi ∧ hi ≤ 9999) {K : Int32 × Mem → Option (Int32 × Mem)} {k : Int → Nat → OC} (go : ∀ m1, FL mm m1 → RP m1 s W (skp (stp' s) (stl s) (dee (stp' s) (stl s) q)) → (∀ j, j ≠ n → m1 13 j = mm 13 j) → m1 13 n = ii (tnu (stp' s) (stl s) q) → lo ≤ tnu (stp' s) (stl s) q ∧ tnu (stp' s) (stl s) q ≤ hi → Rout (K (ii 1, m1)) m1 s (k (tnu (stp' s) (stl s) q) (skp (stp' s) (stl s) (dee (stp' s) (stl s) q)))) : Rout (bd (f7_number mm (ii n) (ii lo) (ii hi)) (fun r => if r.1 = ii 0 then some (ii 0, r.2) else K r)) mm s (onum (stp' s) (stl s) q lo hi k) := by
  obtain ⟨p, p1, p2, p3⟩ := h.2.1
  obtain ⟨m', f1, f2, f3, f4, f5⟩ := f7_number_ok (h.tr hs) p2 p1 p3 hn h1 h2
  have d := dee_le (t := stp' s) h.le
  unfold onum
  rw [f1, bd_some]
  by_cases c : nok (stp' s) (stl s) q lo hi
  · have g := f4 c
    rw [if_pos c, if_pos c, if_neg (show ¬ ii 1 = ii 0 by decide)]
    exact (go m' f2 ⟨h.1.fl f2, ⟨_, g.1, d.2, rfl⟩, by rw [g.2.2]; exact h.2.2⟩ f3 g.2.1 c.2.2).fr f2.ps
  · rw [if_neg c, if_neg c, if_pos rfl]
    exact Rout_n (m' := m') rfl f2.ps (h.1.fl f2) (f5 c)
theorem r_end (h : RP mm s W q) (hs : SW s) {K : Int32 × Mem → Option (Int32 × Mem)} {k : Nat → OC} (go : ∀ m1, FL mm m1 → m1 13 = mm 13 → RP m1 s W (skp (stp' s) (stl s) (q + 1)) → Rout (K (ii 1, m1)) m1 s (k (skp (stp' s) (stl s) (q + 1)))) : Rout (bd (f7_ends mm) (fun r => if r.1 = ii 0 then some (ii 0, r.2) else K r)) mm s (oend (stp' s) (stl s) q k) := by
  obtain ⟨p, p1, p2, p3⟩ := h.2.1
  unfold oend
  rw [f7_ends_ok (h.tr hs) p2 p1 p3]
  by_cases c : q < stl s ∧ stp' s q = 59
  · have F : FL mm (up2 (up2 mm 0 17 (ii q)) 0 17 (ii ((q : Int) + 1))) := ((FL.rf mm).u (by omega) _).u (by omega) _
    rw [if_pos c, if_pos c, bd_some, if_neg (show ¬ ii 1 = ii 0 by decide)]
    refine (go _ F (by funext j; rw [up2_c _ _ _ _ (by omega), up2_c _ _ _ _ (by omega)]) ⟨h.1.fl F, ⟨q + 1, by rw [up2_at]; rfl, by omega, rfl⟩, by rw [up2_k _ _ _ _ (by omega), up2_k _ _ _ _ (by omega)]; exact h.2.2⟩).fr F.ps
  · have F : FL mm (up2 (up2 mm 0 17 (ii q)) 0 18 (ii (1 + 8 * (q : Int)))) := ((FL.rf mm).u (by omega) _).u (by omega) _
    rw [if_neg c, if_neg c, bd_some, if_pos rfl]
    exact Rout_n (m' := up2 (up2 mm 0 17 (ii q)) 0 18 (ii (1 + 8 * (q : Int)))) rfl F.ps (h.1.fl F) (up2_at _ _ _ _)
theorem r_fin (h : RP mm s W q) (hs : SW s) : Rout (bd (f7_ends mm) (fun r => bok r.1 (some (r.1, r.2)))) mm s (oend (stp' s) (stl s) q (okc W)) := by
  have g := r_end (K := fun r => some (ii 1, r.2)) h hs (k := okc W) (fun m1 f1 f2 f3 => Rout_y rfl (Frp.rf m1) f3)
  obtain ⟨p, p1, p2, p3⟩ := h.2.1
  have e : bd (f7_ends mm) (fun r => bok r.1 (some (r.1, r.2))) = bd (f7_ends mm) (fun r => if r.1 = ii 0 then some (ii 0, r.2) else some (ii 1, r.2)) := by
    rw [f7_ends_ok (h.tr hs) p2 p1 p3]
    by_cases c : q < stl s ∧ stp' s q = 59
    · rw [if_pos c, bd_some, bd_some, if_neg (show ¬ ii 1 = ii 0 by decide), bok_1]
    · rw [if_neg c, bd_some, bd_some, if_pos rfl, bok_0]
  rw [e]
  exact g
theorem r_fail (h : RP mm s W q) (hf : Frp m1 mm) (a b : Int) : Rout (bd (f7_fails mm (ii a) (ii b)) (fun r => bok r.1 (some (r.1, r.2)))) m1 s (bad (a + 8 * b)) := by
  have F : FL mm (up2 mm 0 18 (ii (a + 8 * b))) := (FL.rf mm).u (by omega) _
  rw [fails_ok, bd_some, bok_0]
  exact Rout_n (m' := up2 mm 0 18 (ii (a + 8 * b))) rfl (hf.tr F.ps) (h.1.fl F) (up2_at _ _ _ _)
end
