/-! markets that agree where clearing looks clear alike -/
def DA (D E : DT) : Prop := dn D = dn E ∧ dm D = dm E ∧ (∀ z, z < dn D → dou D z = dou E z ∧ din D z = din E z ∧ dot D z = dot E z ∧ ∀ p, dW D z p = dW E z p) ∧ (∀ r, r < dm D → dz D r = dz E r) ∧ (∀ i, i < 4 * dm D → dU D i = dU E i ∧ dJ D i = dJ E i)
section
variable {D E : DT}
theorem DA_ow (h : DA D E) (z : Nat) (p : Int) : ow D z p = ow E z p := by
  unfold ow
  rw [h.2.1]
  refine sm_congr (fun i hi => ?_)
  rw [← h.2.1] at hi
  rw [h.2.2.2.1 (i / 4) (by omega), (h.2.2.2.2 i hi).1, (h.2.2.2.2 i hi).2]
theorem DA_cu (h : DA D E) {z : Nat} (hz : z < dn D) (a : Int) : cu D z a = cu E z a := by
  have q := h.2.2.1 z hz
  unfold cu
  rw [q.2.1, q.2.2.1]
theorem DA_lvf (h : DA D E) (p : Int) : ∀ (d z : Nat), z < dn D → lvf D p d z = lvf E p d z := by
  intro d
  induction d with
  | zero => intro z hz; rfl
  | succ d ih =>
    intro z hz
    rw [lvf, lvf, DA_ow h, (h.2.2.1 z hz).2.2.2, h.1]
    congr 1
    refine sm_congr (fun c hc => ?_)
    rw [← h.1] at hc
    rw [(h.2.2.1 c hc).1, ih c hc, DA_cu h hc]
theorem DA_Lz (h : DA D E) {z : Nat} (hz : z < dn D) (p : Int) : Lz D z p = Lz E z p := DA_lvf h p 6 z hz
theorem DA_lp (h : DA D E) {z : Nat} (hz : z < dn D) (nt : Int) : lp D z nt = lp E z nt := by
  unfold lp
  have e : (fun q : Nat => nt ≤ Lz D z ((q : Int) + 1)) = (fun q : Nat => nt ≤ Lz E z ((q : Int) + 1)) := by
    funext q
    rw [DA_Lz h hz]
  simp only [DA_Lz h hz]
theorem DA_room (h : DA D E) {z : Nat} (hz : z < dn D) (p : Int) : room D z p = room E z p := by
  unfold room
  rw [DA_Lz h hz, DA_Lz h hz, DA_cu h hz, DA_cu h hz]
theorem DA_la (h : DA D E) (y : Nat) (p a : Int) {i : Nat} (hi : i ≤ 4 * dm D) : la D y p a i = la E y p a i := by
  induction i with
  | zero => rfl
  | succ i ih =>
    rw [la, la, ih (by omega), h.2.2.2.1 (i / 4) (by omega), (h.2.2.2.2 i (by omega)).1, (h.2.2.2.2 i (by omega)).2]
theorem DA_lb (h : DA D E) (y : Nat) (p a : Int) {c : Nat} (hc : c ≤ dn D) : lb D y p a c = lb E y p a c := by
  induction c with
  | zero => rfl
  | succ c ih =>
    rw [lb, lb, ih (by omega), (h.2.2.1 c (by omega)).1, DA_room h (by omega)]
theorem DA_lft (h : DA D E) {y : Nat} (hy : y < dn D) (p n : Int) : lft D y p n = lft E y p n := by
  unfold lft
  rw [DA_Lz h hy, DA_la h y p _ (Nat.le_refl _), h.2.1]
theorem DA_nof (h : DA D E) {y z : Nat} (hy : y < dn D) (hz : z < dn D) (p n : Int) : nof D y p n z = nof E y p n z := by
  unfold nof
  rw [DA_lft h hy, DA_lb h y p _ (by omega), DA_room h hz, DA_Lz h hz, DA_cu h hz]
theorem DA_pnf (h : DA D E) (hD : WD D) : ∀ (d z : Nat), z < dn D → pnf D d z = pnf E d z := by
  have hn := hD.n
  intro d
  induction d with
  | zero => intro z hz; rfl
  | succ d ih =>
    intro z hz
    by_cases e : z = 0
    · subst e
      rw [pnf_0, pnf_0, DA_lp h hz]
    · have ho := hD.ou (z := z) (by omega) hz
      have e1 := (h.2.2.1 z hz).1
      rw [pnf_s D d e, pnf_s E d e, ih (dou D z) (by omega)]
      rw [e1]
      rw [e1] at ho
      unfold pst
      rw [e1, DA_nof h (by omega) hz]
      simp only [DA_Lz h hz, DA_lp h hz]
theorem DA_PN (h : DA D E) (hD : WD D) {z : Nat} (hz : z < dn D) : Pz D z = Pz E z ∧ Nz D z = Nz E z := by
  unfold Pz Nz
  rw [DA_pnf h hD 6 z hz]
  exact ⟨rfl, rfl⟩
theorem DA_S (h : DA D E) (hD : WD D) {z : Nat} (hz : z < dn D) : Sz D z = Sz E z := by
  unfold Sz
  rw [(DA_PN h hD hz).1, (DA_PN h hD hz).2, (h.2.2.1 z hz).2.2.2, DA_lft h hz, DA_lb h z _ _ (Nat.le_refl _), h.1]
theorem DA_T (h : DA D E) (hD : WD D) {i : Nat} (hi : i < 4 * dm D) (hz : dz D (i / 4) < dn D) : Tz D i = Tz E i := by
  have e := h.2.2.2.1 (i / 4) (by omega)
  have u := h.2.2.2.2 i hi
  have pn := DA_PN h hD hz
  rw [lq_T i rfl, lq_T i rfl]
  unfold lq
  rw [← e, u.1, u.2, ← pn.1, ← pn.2, DA_Lz h hz, DA_la h _ _ _ (by omega)]
theorem DA_tko (h : DA D E) (hD : WD D) {r : Nat} (hr : r < dm D) (hz : dz D r < dn D) : tko D r = tko E r := by
  have e : ∀ k, k < 4 → Tz D (4 * r + k) = Tz E (4 * r + k) := fun k hk => DA_T h hD (by omega) (by rw [show (4 * r + k) / 4 = r by omega]; exact hz)
  have a := e 0 (by omega)
  unfold tko
  simp only [Nat.add_zero] at a
  rw [a, e 1 (by omega), e 2 (by omega), e 3 (by omega)]
end
theorem ffl_cg (t u : Nat → Prop) [DecidablePred t] [DecidablePred u] : ∀ (d k : Nat), (∀ i, k ≤ i → i < k + d → (t i ↔ u i)) → ffl t d k = ffl u d k := by
  intro d
  induction d with
  | zero => intro k _; rfl
  | succ d ih =>
    intro k h
    unfold ffl
    have a := h k (Nat.le_refl _) (by omega)
    have b := ih (k + 1) (fun i h1 h2 => h i (by omega) (by omega))
    by_cases e : t k
    · rw [if_pos e, if_pos (a.mp e)]
    · rw [if_neg e, if_neg (fun x => e (a.mpr x)), b]
theorem Wt_c {M M' : WM} {z : Nat} (h : ∀ j, 7 + 12 * z ≤ j → j < 19 + 12 * z → M' j = M j) (hw : ZW M z) (p : Int) : Wt M' z p = Wt M z p := by
  have hn := npt_le hw
  have e := npt_cg h
  have g : gk M' z p = gk M z p := by
    unfold gk
    rw [e]
    exact ffl_cg _ _ _ _ (fun i _ hi => by
      show pp M' z i < p ↔ pp M z i < p
      rw [(pu_c (by omega) h).2])
  have gl := gk_le M z p
  unfold Wt
  rw [g, e]
  by_cases c : gk M z p = npt M z
  · rw [if_pos c, if_pos c]
    unfold wan
    rw [e]
    by_cases d : npt M z = 0
    · rw [if_pos d, if_pos d]
    · rw [if_neg d, if_neg d, (pu_c (by omega) h).1]
  · rw [if_neg c, if_neg c]
    by_cases d : gk M z p = 0
    · rw [if_pos d, if_pos d]
    · rw [if_neg d, if_neg d]
      unfold wsg
      rw [(pu_c (k := gk M z p) (by omega) h).1, (pu_c (k := gk M z p) (by omega) h).2, (pu_c (k := gk M z p - 1) (by omega) h).1, (pu_c (k := gk M z p - 1) (by omega) h).2]
/-- two markets, with resources gone and floors or not, that clear alike -/
theorem DA_of {M M' : WM} {g g' : Int32} {nf nf' : Bool} (hM : WF M) (h0 : M' 0 = M 0) (h1 : M' 1 = M 1) (hz : ∀ z, z < zn M → ∀ j, 7 + 12 * z ≤ j → j < 19 + 12 * z → M' j = M j) (hr : ∀ r, r < rn M → M' (79 + 13 * r) = M (79 + 13 * r)) (hl : ∀ r k, r < rn M → k < 4 → (if gb g' r = true then 0 else lu M' r k) = (if gb g r = true then 0 else lu M r k) ∧ ((if gb g r = true then 0 else lu M r k) ≠ 0 → li M' r k (if nf' = true then 0 else flr M' r) = li M r k (if nf = true then 0 else flr M r))) : DA (Dg M' g' nf') (Dg M g nf) := by
  have ez : zn M' = zn M := by unfold zn; rw [h0]
  have er : rn M' = rn M := by unfold rn; rw [h1]
  refine ⟨ez, er, fun z hzz => ?_, fun r hrr => ?_, fun i hi => ?_⟩
  · have hzz : z < zn M := by rw [← ez]; exact hzz
    have q := hz z hzz
    refine ⟨?_, q (8 + 12 * z) (by omega) (by omega), q (9 + 12 * z) (by omega) (by omega), fun p => Wt_c q (wwz hM.1 hzz) p⟩
    show (M' (7 + 12 * z)).toNat = (M (7 + 12 * z)).toNat
    rw [q _ (by omega) (by omega)]
  · have hrr : r < rn M := by rw [← er]; exact hrr
    show (M' (79 + 13 * r)).toNat = (M (79 + 13 * r)).toNat
    rw [hr r hrr]
  · have hi : i < 4 * rn M := by rw [← er]; exact hi
    have q := hl (i / 4) (i % 4) (by omega) (by omega)
    have eU : Ug M' g' i = Ug M g i := by
      unfold Ug
      rw [er, if_pos hi, if_pos hi, q.1]
    refine ⟨eU, ?_⟩
    show Jg M' g' nf' i = Jg M g nf i
    unfold Jg
    rw [eU]
    by_cases c : Ug M g i = 0
    · rw [if_pos c, if_pos c]
    · rw [if_neg c, if_neg c]
      have e : Ug M g i = if gb g (i / 4) = true then 0 else lu M (i / 4) (i % 4) := by
        unfold Ug
        rw [if_pos hi]
      exact q.2 (by rw [← e]; exact c)
/-! bits of those gone -/
theorem gb1 : ∀ r : Nat, r < 12 → ∀ q : Nat, q < 12 → gb (ii 1 <<< (ii r &&& 31)) q = decide (q = r) := by decide +kernel
theorem and1 (x : Int32) : x &&& ii 1 = ii 0 ∨ x &&& ii 1 = ii 1 := by
  have e : (x &&& ii 1).toBitVec = x.toBitVec &&& 1#32 := rfl
  rw [BitVec.and_one_eq_setWidth_ofBool_getLsbD] at e
  cases h : x.toBitVec.getLsbD 0 with
  | false => left; apply Int32.toBitVec_inj.mp; rw [e, h]; rfl
  | true => right; apply Int32.toBitVec_inj.mp; rw [e, h]; rfl
theorem gb_or (g h : Int32) (q : Nat) : gb (g ||| h) q = (gb g q || gb h q) := by
  have e : ((g ||| h) >>> (ii q &&& 31)) &&& ii 1 = ((g >>> (ii q &&& 31)) &&& ii 1) ||| ((h >>> (ii q &&& 31)) &&& ii 1) := by
    rw [Int32.shiftRight_or]
    apply Int32.toBitVec_inj.mp
    exact BitVec.and_or_distrib_right
  unfold gb
  rw [e]
  rcases and1 (g >>> (ii q &&& 31)) with a | a <;> rcases and1 (h >>> (ii q &&& 31)) with b | b <;> rw [a, b] <;> decide
