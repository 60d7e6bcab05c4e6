/-! one statement read: what comes of it -/
abbrev OC : Type := Option (WM × Nat) × Int
def okc (W : WM) (q : Nat) : OC := (some (W, q), 0)
def bad (f : Int) : OC := (none, f)
def onum (t : Nat → Int) (L q : Nat) (lo hi : Int) (k : Int → Nat → OC) : OC := if nok t L q lo hi then k (tnu t L q) (skp t L (dee t L q)) else bad (nft t L q)
def oend (t : Nat → Int) (L q : Nat) (k : Nat → OC) : OC := if q < L ∧ t q = 59 then k (skp t L (q + 1)) else bad (1 + 8 * (q : Int))
def Fps (mm m' : Mem) : Prop := ∀ c, c ≠ 73 → (c < 76 ∨ 94 < c) → m' c = mm c
def CP (mm : Mem) (t : Nat → Int) (L : Nat) (W : WM) (q : Nat) : Prop := TP mm t L ∧ TK mm t L q ∧ ZK mm 77 W ∧ OK mm 84 W ∧ mm 73 2 = ii 0
def Cout (r : Option (Int32 × Mem)) (mm : Mem) (t : Nat → Int) (L a : Nat) (o : OC) : Prop := (∀ x, o.1 = some x → ∃ m', r = some (ii 1, m') ∧ Fps mm m' ∧ CP m' t L x.1 x.2 ∧ WF x.1 ∧ a ≤ x.2) ∧ (o.1 = none → ∃ m', r = some (ii 0, m') ∧ Fps mm m' ∧ m' 73 2 = ii o.2)
theorem skp_le {t : Nat → Int} {L p : Nat} (h : p ≤ L) : p ≤ skp t L p ∧ skp t L p ≤ L := rnn_le h
theorem dee_le {t : Nat → Int} {L p : Nat} (h : p ≤ L) : p ≤ dee t L p ∧ dee t L p ≤ L := rnn_le h
theorem lee_le {t : Nat → Int} {L p : Nat} (h : p ≤ L) : p ≤ lee t L p ∧ lee t L p ≤ L := rnn_le h
theorem tkd_1 {t : Nat → Int} {L q : Nat} : tkd t L q = 1 ↔ isn t L q := by
  unfold tkd
  by_cases c : q < L
  · rw [if_pos c]
    by_cases d : 97 ≤ t q ∧ t q ≤ 122
    · rw [if_pos d]
      constructor
      · intro h; omega
      · rintro ⟨_, h1, h2⟩; omega
    · rw [if_neg d]
      by_cases e : 48 ≤ t q ∧ t q ≤ 57
      · rw [if_pos e]; exact ⟨fun _ => ⟨c, e⟩, fun _ => rfl⟩
      · rw [if_neg e]
        refine ⟨fun h => ?_, fun h => absurd h.2 e⟩
        by_cases f : t q = 59
        · rw [if_pos f] at h; omega
        · rw [if_neg f] at h; omega
  · rw [if_neg c]
    exact ⟨fun h => by omega, fun h => absurd h.1 c⟩
theorem tkd_2 {t : Nat → Int} {L q : Nat} : tkd t L q = 2 ↔ q < L ∧ t q = 59 := by
  unfold tkd
  by_cases c : q < L
  · rw [if_pos c]
    by_cases d : 97 ≤ t q ∧ t q ≤ 122
    · rw [if_pos d]
      constructor
      · intro h; omega
      · rintro ⟨_, h⟩; omega
    · rw [if_neg d]
      by_cases e : 48 ≤ t q ∧ t q ≤ 57
      · rw [if_pos e]
        constructor
        · intro h; omega
        · rintro ⟨_, h⟩; omega
      · rw [if_neg e]
        by_cases f : t q = 59
        · rw [if_pos f]; exact ⟨fun _ => ⟨c, f⟩, fun _ => rfl⟩
        · rw [if_neg f]; exact ⟨fun h => by omega, fun h => absurd h.2 f⟩
  · rw [if_neg c]
    exact ⟨fun h => by omega, fun h => absurd h.1 c⟩
theorem tkd_b {t : Nat → Int} {L q : Nat} : 0 ≤ tkd t L q ∧ tkd t L q ≤ 4 := by
  unfold tkd
  repeat' split
  all_goals omega
theorem tnx_n {t : Nat → Int} {L q : Nat} (h : isn t L q) : tnx t L q = dee t L q := by
  unfold tnx
  rw [if_pos h.1, if_neg (by have := h.2; omega), if_pos h.2]
theorem tnx_e {t : Nat → Int} {L q : Nat} (h : q < L ∧ t q = 59) : tnx t L q = q + 1 := by
  unfold tnx
  rw [if_pos h.1, if_neg (by omega), if_neg (by omega)]
theorem tnx_w {t : Nat → Int} {L q : Nat} (h : isw t L q) : tnx t L q = lee t L q := by
  unfold tnx
  rw [if_pos h.1, if_pos h.2]
section
variable {mm m' m1 : Mem} {t : Nat → Int} {L a q : Nat} {W : WM}
theorem Fps.rf (a : Mem) : Fps a a := fun _ _ _ => rfl
theorem Fps.tr {a b c : Mem} (h : Fps a b) (h2 : Fps b c) : Fps a c := fun q h3 h4 => by rw [h2 q h3 h4, h q h3 h4]
theorem F73.ps (h : F73 mm m') : Fps mm m' := fun c h1 _ => h c h1
theorem Cout.fr {r : Option (Int32 × Mem)} {o : OC} (h : Cout r m1 t L a o) (hf : Fps mm m1) : Cout r mm t L a o := by
  refine ⟨fun x hx => ?_, fun hx => ?_⟩
  · obtain ⟨m', a1, a2, a3⟩ := h.1 x hx
    exact ⟨m', a1, hf.tr a2, a3⟩
  · obtain ⟨m', a1, a2, a3⟩ := h.2 hx
    exact ⟨m', a1, hf.tr a2, a3⟩
theorem Cout_y {r : Option (Int32 × Mem)} (h : r = some (ii 1, m')) (hf : Fps mm m') (hc : CP m' t L W q) (hw : WF W) (ha : a ≤ q) : Cout r mm t L a (okc W q) := by
  refine ⟨fun x hx => ?_, fun hx => by cases hx⟩
  have e : x = (W, q) := (Option.some.inj hx).symm
  subst e
  exact ⟨m', h, hf, hc, hw, ha⟩
theorem Cout_n {r : Option (Int32 × Mem)} {f : Int} (h : r = some (ii 0, m')) (hf : Fps mm m') (hc : m' 73 2 = ii f) : Cout r mm t L a (bad f) := by
  exact ⟨fun x hx => (by cases hx), fun _ => ⟨m', h, hf, hc⟩⟩
theorem CP.le (h : CP mm t L W q) : q ≤ L := h.2.1.1
/-- the class's market of the draft written to -/
theorem CP.uz (h : CP mm t L W q) {W' : WM} (hf : FrZ 77 mm m') (hz : ZK m' 77 W') (ho : ∀ j, oj j = true → W' j = W j) : CP m' t L W' q ∧ Fps mm m' := by
  have F : ∀ c, (c < 77 ∨ 83 < c) → m' c = mm c := fun c hc => hf c (by omega)
  obtain ⟨a1, a2, a3, a4, a5⟩ := h
  refine ⟨⟨⟨by rw [F 74 (by omega)]; exact a1.1, fun i hi => by rw [F 75 (by omega)]; exact a1.2.1 i hi, a1.2.2⟩, ⟨a2.1, by rw [F 73 (by omega)]; exact a2.2.1, by rw [F 73 (by omega)]; exact a2.2.2.1, by rw [F 73 (by omega)]; exact a2.2.2.2.1, by rw [F 73 (by omega)]; exact a2.2.2.2.2⟩, hz, ok_M (ok_fr a4 (fun c hc => F _ (by omega))) ho, by rw [F 73 (by omega)]; exact a5⟩, fun c h1 h2 => F c (by omega)⟩
theorem CP.uo (h : CP mm t L W q) {W' : WM} (hf : FrO 84 mm m') (hz : OK m' 84 W') (ho : ∀ j, zj j = true → W' j = W j) : CP m' t L W' q ∧ Fps mm m' := by
  have F : ∀ c, (c < 84 ∨ 94 < c) → m' c = mm c := fun c hc => hf c (by omega)
  obtain ⟨a1, a2, a3, a4, a5⟩ := h
  refine ⟨⟨⟨by rw [F 74 (by omega)]; exact a1.1, fun i hi => by rw [F 75 (by omega)]; exact a1.2.1 i hi, a1.2.2⟩, ⟨a2.1, by rw [F 73 (by omega)]; exact a2.2.1, by rw [F 73 (by omega)]; exact a2.2.2.1, by rw [F 73 (by omega)]; exact a2.2.2.2.1, by rw [F 73 (by omega)]; exact a2.2.2.2.2⟩, zk_M (zk_fr a3 (fun c hc => F _ (by omega))) ho, hz, by rw [F 73 (by omega)]; exact a5⟩, fun c h1 h2 => F c (by omega)⟩
/-- on to the next token -/
theorem c_adv (h : CP mm t L W q) : ∃ m', f4_advance mm = some m' ∧ F73 mm m' ∧ m' 73 7 = mm 73 7 ∧ CP m' t L W (skp t L (tnx t L q)) := by
  obtain ⟨a1, a2, a3, a4, a5⟩ := h
  have b := tnx_le (t := t) a2.1
  obtain ⟨m', f1, f2, f3, f4⟩ := f4_advance_ok a1 b.2.1 a2.2.2.2.1
  exact ⟨m', f1, f2, f3 7 (by omega), a1.fr f2, f4, zk_fr a3 (fun c hc => f2 _ (by omega)), ok_fr a4 (fun c hc => f2 _ (by omega)), by rw [f3 2 (by omega)]; exact a5⟩
theorem blame_ok (m : Mem) (x y : Int) : f4_blame m (ii x) (ii y) = some (ii 0, up2 m 73 2 (ii (x + 8 * y))) := by
  unfold f4_blame
  rw [l8, ii_mul, ii_add, nm_eq, l0]
theorem c_number (h : CP mm t L W q) {lo hi : Int} (h1 : 0 ≤ lo ∧ lo ≤ 9999) (h2 : -1 ≤ hi ∧ hi ≤ 9999) : (nok t L q lo hi → ∃ m', f4_takeNumber mm (ii lo) (ii hi) = some (ii 1, m') ∧ F73 mm m' ∧ CP m' t L W (skp t L (dee t L q)) ∧ m' 73 7 = ii (tnu t L q)) ∧ (¬ nok t L q lo hi → ∃ m', f4_takeNumber mm (ii lo) (ii hi) = some (ii 0, m') ∧ F73 mm m' ∧ m' 73 2 = ii (nft t L q)) := by
  obtain ⟨a1, a2, a3, a4, a5⟩ := h
  have hl := a1.2.2.1
  obtain ⟨b1, b2, b3, b4, b5⟩ := a2
  have kb := tkd_b (t := t) (L := L) (q := q)
  unfold f4_takeNumber f4_takeNumber_j21
  rw [b3, b4, b2, b5, l1, l4, l0, l2, ii_sub, blame_ok, bd_some, bok_0, blame_ok, bd_some, bok_0]
  by_cases c : isn t L q
  · have g := dee_gt c.1 c.2
    have gl := (dee_le (t := t) b1).2
    rw [if_pos (by rw [tkd_1.mpr c]), tnx_n c]
    by_cases d : dee t L q - q ≤ 4
    · have e := tnu_b c d
      rw [if_neg (inlt (by omega) (by omega) (by omega)), f6_within_ok (by omega) (by omega) (by omega) (by omega) (by omega) (by omega), bd_some]
      by_cases f : lo ≤ tnu t L q ∧ tnu t L q ≤ hi
      · have N : nok t L q lo hi := ⟨c, d, f⟩
        refine ⟨fun _ => ?_, fun x => absurd N x⟩
        have hP : CP (up2 mm 73 7 (ii (tnu t L q))) t L W q := ⟨a1.u 7 _, ⟨b1, by rw [up2_k _ _ _ _ (by omega)]; exact b2, by rw [up2_k _ _ _ _ (by omega)]; exact b3, by rw [up2_k _ _ _ _ (by omega)]; exact b4, by rw [up2_k _ _ _ _ (by omega)]; exact b5⟩, zk_fr a3 (fun c hc => by funext j; exact up2_c _ _ _ _ (by omega)), ok_fr a4 (fun c hc => by funext j; exact up2_c _ _ _ _ (by omega)), by rw [up2_k _ _ _ _ (by omega)]; exact a5⟩
        obtain ⟨m', f1, f2, f3, f4⟩ := c_adv hP
        rw [tnx_n c] at f4
        refine ⟨m', ?_, ((F73.rf mm).u 7 _).tr f2, f4, by rw [f3, up2_at]⟩
        rw [if_pos f, if_neg (show ¬ ii 1 = ii 0 by decide), nm_eq, f1, bd_some]
      · have N : ¬ nok t L q lo hi := fun x => f x.2.2
        refine ⟨fun x => absurd x N, fun _ => ⟨up2 mm 73 2 (ii (2 + 8 * (q : Int))), ?_, (F73.rf mm).u 2 _, by rw [up2_at]; unfold nft; rw [if_pos ⟨c, d⟩]⟩⟩
        rw [if_neg f, if_pos rfl]
    · have N : ¬ nok t L q lo hi := fun x => d x.2.1
      refine ⟨fun x => absurd x N, fun _ => ⟨up2 mm 73 2 (ii (1 + 8 * (q : Int))), ?_, (F73.rf mm).u 2 _, by rw [up2_at]; unfold nft; rw [if_neg (fun x => d x.2)]⟩⟩
      rw [if_pos (ilt (by omega) (by omega) (by omega))]
  · have N : ¬ nok t L q lo hi := fun x => c x.1
    refine ⟨fun x => absurd x N, fun _ => ⟨up2 mm 73 2 (ii (1 + 8 * (q : Int))), ?_, (F73.rf mm).u 2 _, by rw [up2_at]; unfold nft; rw [if_neg (fun x => c x.1)]⟩⟩
    rw [if_neg (ine (fun x => c (tkd_1.mp x)) (by omega) (by omega) (by omega) (by omega))]
theorem c_num (h : CP mm t L W q) {lo hi : Int} (h1 : 0 ≤ lo ∧ lo ≤ 9999) (h2 : -1 ≤ hi ∧ hi ≤ 9999) (ha : a ≤ q) {K : Int32 × Mem → Option (Int32 × Mem)} {k : Int → Nat → OC} (go : ∀ m1, F73 mm m1 → CP m1 t L W (skp t L (dee t L q)) → m1 73 7 = ii (tnu t L q) → lo ≤ tnu t L q ∧ tnu t L q ≤ hi → a ≤ skp t L (dee t L q) → Cout (K (ii 1, m1)) m1 t L a (k (tnu t L q) (skp t L (dee t L q)))) : Cout (bd (f4_takeNumber mm (ii lo) (ii hi)) (fun r => if r.1 = ii 0 then some (ii 0, r.2) else K r)) mm t L a (onum t L q lo hi k) := by
  have n := c_number h h1 h2
  have d := dee_le (t := t) h.le
  have e := skp_le (t := t) d.2
  unfold onum
  by_cases c : nok t L q lo hi
  · obtain ⟨m', f1, f2, f3, f4⟩ := n.1 c
    rw [if_pos c, f1, bd_some, if_neg (show ¬ ii 1 = ii 0 by decide)]
    exact (go m' f2 f3 f4 c.2.2 (by omega)).fr f2.ps
  · obtain ⟨m', f1, f2, f3⟩ := n.2 c
    rw [if_neg c, f1, bd_some, if_pos rfl]
    exact Cout_n rfl f2.ps f3
theorem c_end (h : CP mm t L W q) (ha : a ≤ q) {K : Int32 × Mem → Option (Int32 × Mem)} {k : Nat → OC} (go : ∀ m1, F73 mm m1 → CP m1 t L W (skp t L (q + 1)) → a ≤ skp t L (q + 1) → Cout (K (ii 1, m1)) m1 t L a (k (skp t L (q + 1)))) : Cout (bd (f4_takeEnd mm) (fun r => if r.1 = ii 0 then some (ii 0, r.2) else K r)) mm t L a (oend t L q k) := by
  have hl := h.1.2.2.1
  have kb := tkd_b (t := t) (L := L) (q := q)
  unfold oend f4_takeEnd
  rw [h.2.1.2.2.1, h.2.1.2.1, l2, l1, blame_ok, bd_some, bok_0]
  by_cases c : q < L ∧ t q = 59
  · obtain ⟨m', f1, f2, f3, f4⟩ := c_adv h
    rw [tnx_e c] at f4
    have e := skp_le (t := t) (L := L) (p := q + 1) (by omega)
    rw [if_pos c, if_pos (by rw [tkd_2.mpr c]), f1, bd_some, bd_some, if_neg (show ¬ ii 1 = ii 0 by decide)]
    exact (go m' f2 f4 (by omega)).fr f2.ps
  · rw [if_neg c, if_neg (ine (fun x => c (tkd_2.mp x)) (by omega) (by omega) (by omega) (by omega)), bd_some, if_pos rfl]
    exact Cout_n (m' := up2 mm 73 2 (ii (1 + 8 * (q : Int)))) rfl ((F73.rf mm).u 2 _).ps (up2_at _ _ _ _)
theorem c_fin (h : CP mm t L W q) (hw : WF W) (ha : a ≤ q) : Cout (bd (f4_takeEnd mm) (fun r => bok r.1 (some (r.1, r.2)))) mm t L a (oend t L q (okc W)) := by
  have g := c_end (K := fun r => some (ii 1, r.2)) h ha (k := okc W) (fun m1 f1 f2 f3 => Cout_y rfl (Fps.rf m1) f2 hw f3)
  have e : bd (f4_takeEnd mm) (fun r => bok r.1 (some (r.1, r.2))) = bd (f4_takeEnd mm) (fun r => if r.1 = ii 0 then some (ii 0, r.2) else some (ii 1, r.2)) := by
    unfold f4_takeEnd
    rw [h.2.1.2.2.1, h.2.1.2.1, l2, l1, blame_ok, bd_some, bok_0]
    by_cases c : ii (tkd t L q) = ii 2
    · obtain ⟨m', f1, f2, f3, f4⟩ := c_adv h
      rw [if_pos c, f1, bd_some, bd_some, bd_some, if_neg (show ¬ ii 1 = ii 0 by decide), bok_1]
    · rw [if_neg c, bd_some, bd_some, if_pos rfl, bok_0]
  rw [e]
  exact g
end
