/-! tell -/
def FT (mm m' : Mem) : Prop := ∀ c, c ≠ 0 → c ≠ 1 → c ≠ 13 → m' c = mm c
def fin' (s : ST) (W : WM) (f : Int) : ST := (W, s.2.1, s.2.2.1, s.2.2.2.1, s.2.2.2.2.1, s.2.2.2.2.2.1, 0, f)
theorem tkd_3 {t : Nat → Int} {L q : Nat} : tkd t L q = 3 ↔ ¬ q < L := by
  unfold tkd
  by_cases c : q < L
  · rw [if_pos c]
    refine ⟨fun h => ?_, fun h => absurd c h⟩
    by_cases d : 97 ≤ t q ∧ t q ≤ 122
    · rw [if_pos d] at h; omega
    · rw [if_neg d] at h
      by_cases e : 48 ≤ t q ∧ t q ≤ 57
      · rw [if_pos e] at h; omega
      · rw [if_neg e] at h
        by_cases f : t q = 59
        · rw [if_pos f] at h; omega
        · rw [if_neg f] at h; omega
  · rw [if_neg c]
    exact ⟨fun _ => c, fun _ => rfl⟩
section
variable {mm m' : Mem} {s : ST}
theorem FT.tr {a b c : Mem} (h : FT a b) (h2 : FT b c) : FT a c := fun q h3 h4 h5 => by rw [h2 q h3 h4 h5, h q h3 h4 h5]
theorem joint (hs : SW s) : ∀ (d : Nat) (W : WM) (q c : Nat), stl s - q ≤ d → c ≤ q → WF W → (∃ m, CP m (stp' s) (stl s) W q) → (∃ (W' : WM) (c' : Nat), WF W' ∧ c' ≤ 500 ∧ (∀ n m, d + 1 < n → CP m (stp' s) (stl s) W q → ∃ m' q', f4_tellAll_l16 n (ii c) m = some (ii c', m') ∧ Fps m m' ∧ CP m' (stp' s) (stl s) W' q') ∧ (∀ n m, d + 2 < n → RP m s W q → m 0 21 = ii c → ∃ m', f7_tell_l49 n (ii 1) m = f7_tell_j79 (ii 1) m' ∧ FT m m' ∧ RI m' (sset s W') ∧ m' 0 18 = ii 0 ∧ m' 0 21 = ii c')) ∨ (∃ f : Int, (∀ n m, d + 1 < n → CP m (stp' s) (stl s) W q → ∃ m', f4_tellAll_l16 n (ii c) m = some (ii (-1), m') ∧ Fps m m' ∧ m' 73 2 = ii f) ∧ (∀ n m, d + 2 < n → RP m s W q → m 0 21 = ii c → ∃ m' W'', f7_tell_l49 n (ii 1) m = f7_tell_j79 (ii 0) m' ∧ FT m m' ∧ RI m' (sset s W'') ∧ m' 0 18 = ii f)) := by
  have hl := hs.2.2.2.1
  intro d
  induction d with
  | zero =>
    intro W q c hd hc hw hm
    obtain ⟨m0, h0⟩ := hm
    have ql := h0.le
    left
    refine ⟨W, c, hw, by omega, fun n m hn h => ?_, fun n m hn h h21 => ?_⟩
    · obtain ⟨k, rfl⟩ : ∃ k, n = k + 1 := ⟨n - 1, by omega⟩
      refine ⟨m, q, ?_, Fps.rf m, h⟩
      rw [f4_tellAll_l16, h.2.1.2.2.1, l3, tkd_3.mpr (by omega), if_pos rfl]
    · obtain ⟨k, rfl⟩ : ∃ k, n = k + 1 := ⟨n - 1, by omega⟩
      obtain ⟨p, p1, p2, p3⟩ := h.2.1
      have A := h.at
      have ec : chr' (stp' s) (stl s) q = -1 := by unfold chr'; rw [if_neg (by omega)]
      refine ⟨up2 m 0 17 (ii q), ?_, A.2.ps.1, A.1.1, A.1.2.2, by rw [up2_k _ _ _ _ (by omega)]; exact h21⟩
      rw [f7_tell_l49, l0, if_neg (show ¬ ii 1 = ii 0 by decide), f7_here_ok (h.tr hs) p2 p1 p3, bd_some, lm1, ec, if_pos rfl]
  | succ d ih =>
    intro W q c hd hc hw hm
    obtain ⟨m0, h0⟩ := hm
    have ql := h0.le
    by_cases hq : q < stl s
    · have nx := (nxt_le (t := stp' s) ql).2 hq
      have tq := hs.2.2.2.2 q hq
      have kb := tkd_b (t := stp' s) (L := stl s) (q := q)
      have k3 : tkd (stp' s) (stl s) q ≠ 3 := fun x => (tkd_3.mp x) hq
      have ec : chr' (stp' s) (stl s) q = stp' s q := by unfold chr'; rw [if_pos hq]
      have CS : ∀ m, CP m (stp' s) (stl s) W q → Cout (f4_tellStatement m) m (stp' s) (stl s) (skp (stp' s) (stl s) (tnx (stp' s) (stl s) q)) (oStm (stp' s) (stl s) W q) := fun m h => c_statement h hw
      have RS : ∀ m, RP m s W q → Rout (f7_readStatement m) m s (oStm (stp' s) (stl s) W q) := fun m h => r_statement h hs hw
      have cst : ∀ (k : Nat) (m : Mem), CP m (stp' s) (stl s) W q → f4_tellAll_l16 (k + 1) (ii c) m = bd (f4_tellStatement m) (fun r4 => if r4.1 = ii 0 then some (ii (-1), r4.2) else nm (ii c + 1) (fun v5 => f4_tellAll_l16 k v5 r4.2)) := by
        intro k m h
        rw [f4_tellAll_l16, h.2.1.2.2.1, l3, if_neg (ine k3 (by omega) (by omega) (by omega) (by omega)), l500, if_pos (ilt (by omega) (by omega) (by omega)), l0, lm1]
      have rst : ∀ (k : Nat) (m : Mem), RP m s W q → f7_tell_l49 (k + 1) (ii 1) m = bd (f7_readStatement (up2 m 0 17 (ii q))) (fun r11 => nm (up2 r11.2 0 21 ((r11.2 0 21) + 1)) (fun m12 => f7_tell_l49 k r11.1 m12)) := by
        intro k m h
        obtain ⟨p, p1, p2, p3⟩ := h.2.1
        rw [f7_tell_l49, l0, if_neg (show ¬ ii 1 = ii 0 by decide), f7_here_ok (h.tr hs) p2 p1 p3, bd_some, lm1, ec, if_neg (show ¬ ii (stp' s q) = ii (-1) from ine (by omega) (by omega) (by omega) (by omega) (by omega))]
      generalize oStm (stp' s) (stl s) W q = o at CS RS
      obtain ⟨o1, o2⟩ := o
      cases o1 with
      | some x =>
        obtain ⟨m1, a1, a2, a3, a4, a5⟩ := (CS m0 h0).1 x rfl
        have xl := a3.le
        have IH := ih x.1 x.2 (c + 1) (by omega) (by omega) a4 ⟨m1, a3⟩
        have r2 : ∀ m, RP m s W q → m 0 21 = ii c → ∃ m', f7_readStatement (up2 m 0 17 (ii q)) = some (ii 1, m') ∧ FT m m' ∧ RP (up2 m' 0 21 (ii (c + 1 : Nat))) s x.1 x.2 ∧ m' 0 21 = ii c := by
          intro m h h21
          have A := h.at
          obtain ⟨m2, b1, b2, b3⟩ := (RS _ A.1).1 x rfl
          obtain ⟨p, p1, p2⟩ := b3.2.1
          refine ⟨m2, b1, FT.tr A.2.ps.1 b2.1, ⟨b3.1.u0 (by omega) _, ⟨p, by rw [up2_k _ _ _ _ (by omega)]; exact p1, p2⟩, by rw [up2_k _ _ _ _ (by omega)]; exact b3.2.2⟩, ?_⟩
          rw [b2.2, up2_k _ _ _ _ (by omega)]
          exact h21
        have ec1 : (c : Int) + 1 = ((c + 1 : Nat) : Int) := by omega
        rcases IH with ⟨W', c', i1, i2, i3, i4⟩ | ⟨f, i3, i4⟩
        · left
          refine ⟨W', c', i1, i2, fun n m hn h => ?_, fun n m hn h h21 => ?_⟩
          · obtain ⟨k, rfl⟩ : ∃ k, n = k + 1 := ⟨n - 1, by omega⟩
            obtain ⟨m2, b1, b2, b3, b4, b5⟩ := (CS m h).1 x rfl
            obtain ⟨m3, q', e1, e2, e3⟩ := i3 k m2 (by omega) b3
            refine ⟨m3, q', ?_, b2.tr e2, e3⟩
            rw [cst k m h, b1, bd_some, if_neg (show ¬ ii 1 = ii 0 by decide), l1, ii_add, nm_eq, ec1]
            exact e1
          · obtain ⟨k, rfl⟩ : ∃ k, n = k + 1 := ⟨n - 1, by omega⟩
            obtain ⟨m2, b1, b2, b3, b4⟩ := r2 m h h21
            obtain ⟨m3, e1, e2, e3⟩ := i4 k _ (by omega) b3 (up2_at _ _ _ _)
            refine ⟨m3, ?_, b2.tr (FT.tr (fun z h1 _ _ => by funext j; exact up2_c _ _ _ _ h1) e2), e3⟩
            rw [rst k m h, b1, bd_some]
            dsimp only
            rw [b4, l1, ii_add, nm_eq, ec1]
            exact e1
        · right
          refine ⟨f, fun n m hn h => ?_, fun n m hn h h21 => ?_⟩
          · obtain ⟨k, rfl⟩ : ∃ k, n = k + 1 := ⟨n - 1, by omega⟩
            obtain ⟨m2, b1, b2, b3, b4, b5⟩ := (CS m h).1 x rfl
            obtain ⟨m3, e1, e2, e3⟩ := i3 k m2 (by omega) b3
            refine ⟨m3, ?_, b2.tr e2, e3⟩
            rw [cst k m h, b1, bd_some, if_neg (show ¬ ii 1 = ii 0 by decide), l1, ii_add, nm_eq, ec1]
            exact e1
          · obtain ⟨k, rfl⟩ : ∃ k, n = k + 1 := ⟨n - 1, by omega⟩
            obtain ⟨m2, b1, b2, b3, b4⟩ := r2 m h h21
            obtain ⟨m3, W'', e1, e2, e3⟩ := i4 k _ (by omega) b3 (up2_at _ _ _ _)
            refine ⟨m3, W'', ?_, b2.tr (FT.tr (fun z h1 _ _ => by funext j; exact up2_c _ _ _ _ h1) e2), e3⟩
            rw [rst k m h, b1, bd_some]
            dsimp only
            rw [b4, l1, ii_add, nm_eq, ec1]
            exact e1
      | none =>
        right
        refine ⟨o2, fun n m hn h => ?_, fun n m hn h h21 => ?_⟩
        · obtain ⟨k, rfl⟩ : ∃ k, n = k + 1 := ⟨n - 1, by omega⟩
          obtain ⟨m2, b1, b2, b3⟩ := (CS m h).2 rfl
          refine ⟨m2, ?_, b2, b3⟩
          rw [cst k m h, b1, bd_some, if_pos rfl]
        · obtain ⟨k, rfl⟩ : ∃ k, n = k + 2 := ⟨n - 2, by omega⟩
          have A := h.at
          obtain ⟨m2, b1, b2, ⟨W'', b3⟩, b4⟩ := (RS _ A.1).2 rfl
          refine ⟨up2 m2 0 21 (m2 0 21 + 1), W'', ?_, FT.tr A.2.ps.1 (FT.tr b2.1 (fun z h1 _ _ => by funext j; exact up2_c _ _ _ _ h1)), b3.u0 (by omega) _, by rw [up2_k _ _ _ _ (by omega)]; exact b4⟩
          rw [rst (k + 1) m h, b1, bd_some]
          dsimp only
          rw [nm_eq, f7_tell_l49, l0, if_pos rfl]
    · have z := ih W q c (by omega) hc hw ⟨m0, h0⟩
      rcases z with ⟨W', c', i1, i2, i3, i4⟩ | ⟨f, i3, i4⟩
      · exact Or.inl ⟨W', c', i1, i2, fun n m hn h => i3 n m (by omega) h, fun n m hn h h21 => i4 n m (by omega) h h21⟩
      · exact Or.inr ⟨f, fun n m hn h => i3 n m (by omega) h, fun n m hn h h21 => i4 n m (by omega) h h21⟩
/-- the draft's start -/
theorem c_start (h : CI mm s) (hs : SW s) : ∃ m1 m3, f1_copyFrom mm 76 16 = some m1 ∧ f4_tellAll m1 = f4_tellAll_l16 FU (ii 0) m3 ∧ Fps mm m3 ∧ CP m3 (stp' s) (stl s) (sM s) (skp (stp' s) (stl s) 0) := by
  have ob : Ob 77 5 ∧ Ob 84 2 := ⟨⟨by decide, by decide⟩, ⟨by decide, by decide⟩⟩
  obtain ⟨m1, f1, f2, f3⟩ := m_copy (q0 := 76) (q1 := 16) h.1 ob.1 ob.2 (by unfold apt; omega)
  have T : TP m1 (stp' s) (stl s) := ⟨by rw [f1 74 (by omega)]; exact h.2.2.2.2.2.1, fun i hi => by rw [f1 75 (by omega)]; exact h.2.2.2.2.2.2.1 i hi, hs.2.2.2.1, hs.2.2.2.2⟩
  have T2 := (T.u 2 (ii 0)).u 6 (ii 0)
  obtain ⟨m3, g1, g2, g3, g4⟩ := f4_advance_ok T2 (p := 0) (by omega) (up2_at _ _ _ _)
  have F : F73 m1 m3 := (((F73.rf m1).u 2 (ii 0)).u 6 (ii 0)).tr g2
  refine ⟨m1, m3, f3, ?_, fun c h1 h2 => by rw [F c h1, f1 c (by omega)], T.fr F, g4, zk_fr f2.1 (fun c hc => F _ (by omega)), ok_fr f2.2 (fun c hc => F _ (by omega)), by rw [g3 2 (by omega), up2_k _ _ _ _ (by omega), up2_at]⟩
  unfold f4_tellAll
  rw [l0, nm_eq, nm_eq, g1, bd_some]
theorem tl7 : ∀ (d j n : Nat) (m : Mem), j + d = 235 → d < n → (∀ i, i < j → m 4 i = m 1 i) → ∃ m1, (∀ c, c ≠ 4 → m1 c = m c) ∧ (∀ i, i < 235 → m1 4 i = m 1 i) ∧ f7_tell_l7 n (ii j) m = f7_tell_l49 FU (ii 1) (up2 (up2 (up2 m1 0 21 (ii 0)) 0 17 (ii 0)) 0 18 (ii 0)) := by
  intro d
  induction d with
  | zero =>
    intro j n m hj hdn hp
    obtain ⟨k, rfl⟩ : ∃ k, n = k + 1 := ⟨n - 1, by omega⟩
    refine ⟨m, fun _ _ => rfl, fun i hi => hp i (by omega), ?_⟩
    rw [f7_tell_l7, l235, if_neg (inlt (by omega) (by omega) (by omega)), l0, l1, nm_eq, nm_eq, nm_eq]
  | succ d ih =>
    intro j n m hj hdn hp
    obtain ⟨k, rfl⟩ : ∃ k, n = k + 1 := ⟨n - 1, by omega⟩
    obtain ⟨m1, f1, f2, f3⟩ := ih (j + 1) k (up2 m 4 j (m 1 j)) (by omega) (by omega) (fun i hi => by
      rw [up2_c (c := 1) m _ _ _ (by omega)]
      by_cases e : i = j
      · rw [e, up2_at]
      · rw [up2_k _ _ _ _ e]; exact hp i (by omega))
    refine ⟨m1, fun c hc => by rw [f1 c hc]; funext i; exact up2_c _ _ _ _ hc, fun i hi => by rw [f2 i hi, up2_c (c := 1) m _ _ _ (by omega)], ?_⟩
    rw [f7_tell_l7, l235, if_pos (ilt (by omega) (by omega) (by omega)), rdq m lnR.1 (k := j) (by omega) (by omega) rfl, wrq m lnR.2.2.2.1 (k := j) (by omega) (by omega) rfl, iSu, nm_eq]
    exact f3
theorem tl94 : ∀ (d j n : Nat) (m : Mem), j + d = 235 → d < n → (∀ i, i < j → m 1 i = m 4 i) → ∃ m1, (∀ c, c ≠ 1 → m1 c = m c) ∧ (∀ i, i < 235 → m1 1 i = m 4 i) ∧ f7_tell_l94 n (ii 0) (ii j) m = some (ii (-1), m1) := by
  intro d
  induction d with
  | zero =>
    intro j n m hj hdn hp
    obtain ⟨k, rfl⟩ : ∃ k, n = k + 1 := ⟨n - 1, by omega⟩
    refine ⟨m, fun _ _ => rfl, fun i hi => hp i (by omega), ?_⟩
    unfold f7_tell_l94 f7_tell_j123
    rw [l235, if_neg (inlt (by omega) (by omega) (by omega)), l0, lm1, if_pos rfl]
  | succ d ih =>
    intro j n m hj hdn hp
    obtain ⟨k, rfl⟩ : ∃ k, n = k + 1 := ⟨n - 1, by omega⟩
    obtain ⟨m1, f1, f2, f3⟩ := ih (j + 1) k (up2 m 1 j (m 4 j)) (by omega) (by omega) (fun i hi => by
      rw [up2_c (c := 4) m _ _ _ (by omega)]
      by_cases e : i = j
      · rw [e, up2_at]
      · rw [up2_k _ _ _ _ e]; exact hp i (by omega))
    refine ⟨m1, fun c hc => by rw [f1 c hc]; funext i; exact up2_c _ _ _ _ hc, fun i hi => by rw [f2 i hi, up2_c (c := 4) m _ _ _ (by omega)], ?_⟩
    rw [f7_tell_l94, l235, if_pos (ilt (by omega) (by omega) (by omega)), l0, if_pos rfl, rdq m lnR.2.2.2.1 (k := j) (by omega) (by omega) rfl, wrq m lnR.1 (k := j) (by omega) (by omega) rfl, iSu, nm_eq]
    exact f3
theorem t_tell (h : CI mm s) (hr : RI mm s) (hs : SW s) : Stq mm (f6_tell mm) (fun m => f7_tell m) := by
  have hl := hs.2.2.2.1
  obtain ⟨ma, mb, a1, a2, a3, a4⟩ := c_start h hs
  have sk := skp_le (t := stp' s) (L := stl s) (p := 0) (by omega)
  have J := joint hs (stl s) (sM s) (skp (stp' s) (stl s) 0) 0 (by omega) (by omega) hs.1 ⟨mb, a4⟩
  have R0 : ∀ m, RI m s → ∃ m1, f7_tell m = f7_tell_l49 FU (ii 1) m1 ∧ (∀ c, c ≠ 0 → c ≠ 4 → m1 c = m c) ∧ (∀ i, i < 235 → m1 4 i = ii (sM s i)) ∧ RP m1 s (sM s) (skp (stp' s) (stl s) 0) ∧ m1 0 21 = ii 0 := by
    intro m hm
    have h0 := hm.u0 (k := 0) (by omega) (ii 0)
    obtain ⟨m1, f1, f2, f3⟩ := tl7 235 0 FU (up2 m 0 0 (ii 0)) (by omega) (by unfold FU; omega) (fun i hi => by omega)
    have h1 : RI m1 s := h0.fr (fun c hc => f1 c (by omega)) (by rw [f1 0 (by omega)]) (by rw [f1 0 (by omega)])
    have h4 := ((h1.u0 (k := 21) (by omega) (ii 0)).u0 (k := 17) (by omega) (ii 0)).u0 (k := 18) (by omega) (ii 0)
    refine ⟨_, ?_, fun c hc hc4 => by funext j; rw [up2_c _ _ _ _ hc, up2_c _ _ _ _ hc, up2_c _ _ _ _ hc, f1 c hc4, up2_c _ _ _ _ hc], fun i hi => by rw [up2_c _ _ _ _ (by omega), up2_c _ _ _ _ (by omega), up2_c _ _ _ _ (by omega), f2 i hi]; exact h0.1 i hi, ⟨h4, ⟨0, by rw [up2_k _ _ _ _ (by omega), up2_at]; rfl, by omega, rfl⟩, up2_at _ _ _ _⟩, by rw [up2_k _ _ _ _ (by omega), up2_k _ _ _ _ (by omega), up2_at]⟩
    unfold f7_tell
    rw [l0, nm_eq]
    exact f3
  have FC : ∀ (m2 : Mem), Fps mm m2 → ∀ c, (c < 73 ∨ 94 < c) → m2 c = mm c := fun m2 hf c hc => hf c (by omega) (by omega)
  have S : ∀ (W' : WM) (f : Int), WF W' → SW (fin' s W' f) := fun W' f hw => ⟨hw, hs.2.1, hs.2.2.1, by show 0 ≤ 500; omega, fun i hi => absurd hi (by show ¬ i < 0; omega)⟩
  have CIf : ∀ (m2 : Mem) (W' : WM) (f : Int), MK m2 16 W' → (∀ c, (c = 14 ∨ 94 < c) → m2 c = mm c) → m2 73 2 = ii f → CI (up2 m2 74 1 (ii 0)) (fin' s W' f) := by
    intro m2 W' f hk hf h73
    have F : ∀ c, c ≠ 74 → up2 m2 74 1 (ii 0) c = m2 c := fun c hc => by funext j; exact up2_c _ _ _ _ hc
    obtain ⟨q1, q2, q3, q4, q5, q6, q7, q8⟩ := h
    refine ⟨hk.fr (fun c h1 h2 => F c (by omega)), fun b => (q2 b).fr (fun c h1 h2 => by rw [F c (by omega), hf c (by omega)]), fun b => (q3 b).fr (fun c h1 h2 => by rw [F c (by omega), hf c (by omega)]), by rw [F 14 (by omega), hf 14 (by omega)]; exact q4, by rw [F 14 (by omega), hf 14 (by omega)]; exact q5, up2_at _ _ _ _, fun i hi => absurd hi (by show ¬ i < 0; omega), by rw [F 73 (by omega)]; exact h73⟩
  have RIf : ∀ (m2 : Mem) (W0 W' : WM) (f : Int), RI m2 (sset s W0) → (∀ i, i < 235 → m2 1 i = ii (W' i)) → m2 0 18 = ii f → RI (up2 (up2 m2 0 15 (ii 0)) 0 16 (ii f)) (fin' s W' f) := by
    intro m2 W0 W' f hR hk h18
    have F : ∀ c, c ≠ 0 → up2 (up2 m2 0 15 (ii 0)) 0 16 (ii f) c = m2 c := fun c hc => by funext j; rw [up2_c _ _ _ _ hc, up2_c _ _ _ _ hc]
    obtain ⟨q1, q2, q3, q4, q5, q6, q7, q8⟩ := hR
    exact ⟨fun j hj => by rw [F 1 (by omega)]; exact hk j hj, fun b j hj => by rw [F 2 (by omega)]; exact q2 b j hj, fun b j hj => by rw [F 2 (by omega)]; exact q3 b j hj, by rw [F 3 (by omega)]; exact q4, by rw [F 3 (by omega)]; exact q5, by rw [up2_k _ _ _ _ (by omega), up2_at]; rfl, fun i hi => absurd hi (by show ¬ i < 0; omega), up2_at _ _ _ _⟩
  rcases J with ⟨W', c', i1, i2, i3, i4⟩ | ⟨f, i3, i4⟩
  · obtain ⟨mc, q', e1, e2, e3⟩ := i3 FU mb (by unfold FU; omega) a4
    have ob : Ob 17 5 ∧ Ob 24 2 := ⟨ob_17, ob_24⟩
    have mk : MK mc 76 W' := ⟨e3.2.2.1, e3.2.2.2.1⟩
    obtain ⟨md, g1, g2, g3⟩ := m_copy (q0 := 16) (q1 := 76) mk ob.1 ob.2 (by unfold apt; omega)
    have P := a3.tr e2
    refine stp_mk (v := ii c') (s' := fin' s W' 0) hr (S W' 0 i1) ⟨up2 md 74 1 (ii 0), ?_, fun c hc => by funext j; rw [up2_c _ _ _ _ (by omega), g1 c (by omega), P c (by omega) (by omega)], CIf md W' 0 g2 (fun c hc => by rw [g1 c (by omega), P c (by omega) (by omega)]) (by rw [g1 73 (by omega)]; exact e3.2.2.2.2)⟩ (fun m hm => ?_)
    · have e1' : f4_tellAll_l16 FU (ii 0) mb = some (ii c', mc) := e1
      unfold f6_tell f6_tell_j47
      rw [a1, bd_some, a2, e1', bd_some, lm1, if_neg (show ¬ ii (c' : Int) = ii (-1) from ine (by omega) (by omega) (by omega) (by omega) (by omega))]
      dsimp only
      rw [g3, bd_some, l0, nm_eq]
    · obtain ⟨m1, b1, b2, b3, b4, b5⟩ := R0 m hm
      obtain ⟨m2, k1, k2, k3, k4, k5⟩ := i4 FU m1 (by unfold FU; omega) b4 b5
      refine ⟨up2 (up2 m2 0 15 (ii 0)) 0 16 (ii 0), ?_, fun c hc => by funext j; rw [up2_c _ _ _ _ (by omega), up2_c _ _ _ _ (by omega), k2 c (by omega) (by omega) (by omega), b2 c (by omega) (by omega)], RIf m2 W' W' 0 k3 k3.1 k4⟩
      show f7_tell m = _
      rw [b1, k1]
      unfold f7_tell_j79 FU
      rw [l0, nm_eq, up2_k _ _ _ _ (by omega), k4, nm_eq]
      show f7_tell_l94 (19999 + 1) _ _ _ = _
      unfold f7_tell_l94 f7_tell_j123
      rw [l0, l235, if_pos (ilt (by omega) (by omega) (by omega)), if_neg (show ¬ ii 1 = ii 0 by decide), if_neg (show ¬ ii 1 = ii 0 by decide), up2_k _ _ _ _ (by omega), up2_k _ _ _ _ (by omega), k5]
  · obtain ⟨mc, e1, e2, e3⟩ := i3 FU mb (by unfold FU; omega) a4
    have P := a3.tr e2
    refine stp_mk (v := ii (-1)) (s' := fin' s (sM s) f) hr (S _ f hs.1) ⟨up2 mc 74 1 (ii 0), ?_, fun c hc => by funext j; rw [up2_c _ _ _ _ (by omega), P c (by omega) (by omega)], CIf mc (sM s) f (h.1.fr (fun c h1 h2 => P c (by omega) (by omega))) (fun c hc => P c (by omega) (by omega)) e3⟩ (fun m hm => ?_)
    · have e1' : f4_tellAll_l16 FU (ii 0) mb = some (ii (-1), mc) := e1
      unfold f6_tell f6_tell_j47
      rw [a1, bd_some, a2, e1', bd_some, lm1, if_pos rfl, l0, nm_eq]
    · obtain ⟨m1, b1, b2, b3, b4, b5⟩ := R0 m hm
      obtain ⟨m2, W'', k1, k2, k3, k4⟩ := i4 FU m1 (by unfold FU; omega) b4 b5
      obtain ⟨m3, j1, j2, j3⟩ := tl94 235 0 FU (up2 (up2 m2 0 15 (ii 0)) 0 16 (ii f)) (by omega) (by unfold FU; omega) (fun i hi => by omega)
      have r4 : ∀ i, i < 235 → m3 1 i = ii (sM s i) := fun i hi => by
        rw [j2 i hi, up2_c _ _ _ _ (by omega), up2_c _ _ _ _ (by omega), k2 4 (by omega) (by omega) (by omega), b3 i hi]
      refine ⟨m3, ?_, fun c hc => by rw [j1 c (by omega)]; funext j; rw [up2_c _ _ _ _ (by omega), up2_c _ _ _ _ (by omega), k2 c (by omega) (by omega) (by omega), b2 c (by omega) (by omega)], ?_⟩
      · show f7_tell m = _
        rw [b1, k1]
        unfold f7_tell_j79
        rw [l0, nm_eq, up2_k _ _ _ _ (by omega), k4, nm_eq]
        exact j3
      · have w := RIf m2 W'' W'' f k3 k3.1 k4
        obtain ⟨q1, q2, q3, q4, q5, q6, q7, q8⟩ := w
        exact ⟨r4, fun b j hj => by rw [j1 2 (by omega)]; exact q2 b j hj, fun b j hj => by rw [j1 2 (by omega)]; exact q3 b j hj, by rw [j1 3 (by omega)]; exact q4, by rw [j1 3 (by omega)]; exact q5, by rw [j1 0 (by omega)]; exact q6, fun i hi => absurd hi (by show ¬ i < 0; omega), by rw [j1 0 (by omega)]; exact q8⟩
end
