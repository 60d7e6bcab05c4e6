/-! the script's rows, the making of an object of the class, the pure side of it -/
def ScL : Ev2 → Nat → Nat → (Nat → Int32) → Prop
  | (_, _, _, _, s, _, _, _, _, _, _, K, _, _, _, _, _), b, L, xs => va_X b L xs s s.heap ∧ b < s.heap.size ∧ ¬ Ax K b
theorem v_slen {E : Ev2} {b9 : Nat} {own : String} {tb : Tb} {nL : Nat} {ret : Option FieldType} {pc n1 nx : Nat} {lv : Lv} {st : List Value} {mm : Mem} {A : AS} {dm : DM} {L : Nat} {xs : Nat → Int32} (hs : ScL E b9 L xs) (B : Bx2 E own tb nL ret) (i i2 : Nat) (h : tb[i]? = some (pc, .aload_n 0, 1, n1)) (h2 : tb[i2]? = some (n1, .arraylength, 1, nx)) (k : GL E b9 nL nx lv (.int (nI L) :: st) mm A dm) : GL E b9 nL pc lv st mm A dm := by
  obtain ⟨p, l, e, R, s, m, args, below, meth, c, Q, K, A0, res, mo, fA, fd⟩ := E
  obtain ⟨hd, hn⟩ := Bx2.dec B h
  obtain ⟨hd2, hn2⟩ := Bx2.dec B h2
  subst hn
  subst hn2
  intro H locs ls hg hP hS hl
  exact lv_aload_n B.1 rfl hd rfl (lv_at hl 0 rfl) (va_slen B.1 rfl hs.1 hs.2.1 hs.2.2 hS hd2 (k H locs ls hg hP hS hl))
theorem v_sld {E : Ev2} {b9 : Nat} {own : String} {tb : Tb} {nL : Nat} {ret : Option FieldType} {pc n1 n2 nx : Nat} {lv : Lv} {st : List Value} {mm : Mem} {A : AS} {dm : DM} {L : Nat} {xs : Nat → Int32} {kk : Fin 4} {x : Int32} (hs : ScL E b9 L xs) (B : Bx2 E own tb nL ret) (i i2 i3 : Nat) (h : tb[i]? = some (pc, .aload_n 0, 1, n1)) (h2 : tb[i2]? = some (n1, .iload_n kk, 1, n2)) (h3 : tb[i3]? = some (n2, .iaload, 1, nx)) (q j : Nat) (hq : (kk : Nat) = q) (hj : lv[j]? = some (q, .int x)) (hx : inb x L = true) (k : GL E b9 nL nx lv (.int (xs x.toNatClampNeg) :: st) mm A dm) : GL E b9 nL pc lv st mm A dm := by
  obtain ⟨p, l, e, R, s, m, args, below, meth, c, Q, K, A0, res, mo, fA, fd⟩ := E
  obtain ⟨hd, hn⟩ := Bx2.dec B h
  obtain ⟨hd2, hn2⟩ := Bx2.dec B h2
  obtain ⟨hd3, hn3⟩ := Bx2.dec B h3
  subst hn
  subst hn2
  subst hn3
  intro H locs ls hg hP hS hl
  exact lv_aload_n B.1 rfl hd rfl (lv_at hl 0 rfl) (lv_iload_n B.1 rfl hd2 hq (lv_at hl (j + 1) (lvmL hj)) (va_sld B.1 rfl hs.1 hs.2.1 hs.2.2 hS (inb_in hx) hd3 (k H locs ls hg hP hS hl)))
/-- an object of the class is made: its 119 cells are the newest, the one before is let go -/
def nwZ (A : AS) : AS := (A.1 + 119, A.2.1 + 2166, fun c => if A.1 < c then (0, 0) else A.2.2.1 c, A.1 + 1)
theorem lvl_nwZ (A : AS) : lvl (nwZ A) = lvl A := by
  unfold lvl
  show (List.range (A.1 + 119 + 1)).filter (liv (nwZ A)) = (List.range (A.1 + 1)).filter (liv A)
  rw [show A.1 + 119 + 1 = (A.1 + 1) + 119 by omega, List.range_add, List.filter_append]
  have h1 : (List.range (A.1 + 1)).filter (liv (nwZ A)) = (List.range (A.1 + 1)).filter (liv A) := by
    apply List.filter_congr
    intro c hc
    have hc' := List.mem_range.mp hc
    have h1 : liv (nwZ A) c = true ↔ liv A c = true := by
      rw [liv_iff, liv_iff]
      show (1 ≤ c ∧ c ≤ A.1 + 119 ∧ (if A.1 < c then (0, 0) else A.2.2.1 c).1 ≠ 0) ↔ _
      rw [if_neg (by omega)]
      constructor
      · rintro ⟨a, -, b⟩
        exact ⟨a, by omega, b⟩
      · rintro ⟨a, b, c⟩
        exact ⟨a, by omega, c⟩
    cases h2 : liv A c <;> cases h3 : liv (nwZ A) c <;> first | rfl | (exfalso; rw [h2, h3] at h1; simp at h1)
  have h2 : ((List.range 119).map (A.1 + 1 + ·)).filter (liv (nwZ A)) = [] := by
    rw [List.filter_eq_nil_iff]
    intro c hc h3
    obtain ⟨k, -, rfl⟩ := List.mem_map.mp hc
    have h4 := (liv_iff.mp h3).2.2
    apply h4
    show (if A.1 < A.1 + 1 + k then (0, 0) else A.2.2.1 (A.1 + 1 + k)).1 = 0
    rw [if_pos (by omega)]
  rw [h1, h2, List.append_nil]
theorem owv_nwZ (K : KF) (A : AS) (dm : DM) : owv K (nwZ A) dm = owv K A dm := by
  unfold owv
  rw [lvl_nwZ]
  apply List.map_congr_left
  intro c hc
  have := (liv_iff.mp (lvl_mem.mp hc)).2.1
  show (adr K c, cld K (if A.1 < c then (0, 0) else A.2.2.1 c) (dm c)) = _
  rw [if_neg (by omega)]
theorem okA_nwZ (A : AS) : okA (nwZ A) := by
  refine ⟨by show 1 ≤ A.1 + 1; omega, by show A.1 + 1 + 118 ≤ A.1 + 119; omega, fun c h1 h2 => ?_, Or.inr (by show A.1 + 119 = A.1 + 1 + 118; omega)⟩
  have h1 : A.1 + 1 ≤ c := h1
  show (if A.1 < c then (0, 0) else A.2.2.1 c).1 = 0
  rw [if_pos (by omega)]
/-- what the cells of a new object are -/
def HZ (K : KF) : Prop := ∀ (N : Nat) (H : Heap), va_P K.2.2.1 zcls (wsn (K.1 + N) (bN6 K.2.2.2.1 K.2.2.2.2.1 K.2.2.2.2.2)) H → va_P K.2.2.1 zcls (wl (cfg K (N + 1)) mem0) H
theorem v_newZ {E : Ev2} {b9 : Nat} {own : String} {tb : Tb} {nL : Nat} {ret : Option FieldType} {pc n1 n2 nx : Nat} {lv : Lv} {st : List Value} {mm : Mem} {A : AS} {dm : DM} {l : Launch} {K : KF} {fr0 lo0 idx idx2 : Nat} {r0 : Option Value} {mo0 : Mem} {fA0 : AS} {fd0 : DM} {q : Nat} {A1 : AS} (X : Ec2 E l K fr0 lo0) (hz9 : HZ K) (B : Bx2 E own tb nL ret) (i i2 i3 : Nat) (h : tb[i]? = some (pc, .new idx, 3, n1)) (h2 : tb[i2]? = some (n1, .dup, 1, n2)) (h3 : tb[i3]? = some (n2, .invokespecial idx2, 3, nx)) (hr : Rs2 E r0 mo0 fA0 fd0) (hgd : A.1 + 119 ≤ fA0.1 ∧ A.2.1 + 2166 ≤ fA0.2.1) (hq : q = A.1 + 1) (hA : A1 = nwZ A) (hw : Cond.classLink own idx "ZoneCapacity" ∈ TW ∧ Cond.instantiable "ZoneCapacity" 7 ∈ TW ∧ Cond.initialized "ZoneCapacity" ∈ TW) (hw2 : Cond.methodLink own idx2 yX6_init ∈ TW ∧ Cond.instanceMethod yX6_init ∈ TW) (hR : 4 + 1 ≤ fr0 ∧ 8 + (1 + 11) + 92 ≤ lo0) (hW : (st.map fun v => v.category).sum ≤ 7) (k : GL E b9 nL nx lv (.ref q :: st) mem0 A1 dm) : GL E b9 nL pc lv st mm A dm := by
  subst hq hA
  obtain ⟨p, l', e, R, s, m, args, below, meth, c, Q, K', A0, res, mo, fA, fd⟩ := E
  obtain ⟨rfl, rfl, rfl, rfl⟩ := X
  obtain ⟨hd, hn⟩ := Bx2.dec B h
  obtain ⟨hd2, hn2⟩ := Bx2.dec B h2
  obtain ⟨hd3, hn3⟩ := Bx2.dec B h3
  subst hn
  subst hn2
  subst hn3
  intro H locs ls hg hP hS hl
  obtain ⟨-, -, rfl, -⟩ := hr
  refine w_hz B hg hP fun hz => ?_
  have hrm := B.rm
  have hA0 := hg.2.1
  have hA1 := hg.2.2
  have hx : zcls[6]? = some ("ZoneCapacity", TX6, 7) := rfl
  obtain ⟨hws, hN, hty, hnm⟩ := zcls_ok hx
  have hKn := B.kk.1 6 _ hx
  refine W.newcK B.1 rfl B.hown (B.tw _ hw.1) (B.tw _ hw.2.1) (B.tw _ hw.2.2) rfl hd (by omega) (by omega) hKn.2.1 rfl fun H1 kC hkC e1 z1 o1 => ?_
  have hkp : ∀ (k : Nat) (x : Nat × va_E), (w2 K' mm A dm)[k]? = some x → H1[x.1]? = H[x.1]? := fun k x hx => o1 x.1 ((hP k x hx).lt)
  have hPl : va_P K'.2.2.1 zcls (wsn H.size [.inr (6, [.null, .null, .null, .null, .null, .int 0, .int 0])]) H1 := by
    intro k x hx2
    obtain ⟨y, hy, rfl⟩ := wsn_at hx2
    have hz0 : k < 1 := (List.getElem?_eq_some_iff.mp hy).1
    rw [show k = 0 by omega] at hy ⊢
    cases hy
    refine ⟨_, hx, ?_⟩
    have hfs : ∀ j, j < 7 → defaultValue (tyA 6 j) = vp_V (([.null, .null, .null, .null, .null, .int 0, .int 0] : List Value).map (shv 0)) j := by decide +kernel
    exact (u_born (tyA 6) B.tw hws hKn hkC e1 hty).to hfs
  have hS1 : va_S (Ax K') s.heap H1 locs := ⟨Nat.le_trans hS.1 (by omega), fun x h1 h2 => (o1 x (Nat.lt_of_lt_of_le h1 hS.1)).trans (hS.2.1 x h1 h2), hS.2.2⟩
  refine lv_dup B.1 rfl hd2 rfl ?_
  have hrl : ((Value.ref H.size :: st.map (cvv (kc K'))).map (fun v => v.category)).sum ≤ 8 := by
    have e9 : (st.map (cvv (kc K'))).map (fun v => v.category) = st.map (fun v => v.category) := by rw [List.map_map]; congr 1; funext v; exact cvv_cat (kc K') v
    rw [List.map_cons, List.sum_cons, e9]
    show 1 + _ ≤ 8
    omega
  have hrun := va_runI (As := []) (b := H.size) (rest := .ref H.size :: st.map (cvv (kc K'))) (g := F0 m (pc + 3 + 1) ls (.ref H.size :: .ref H.size :: st.map (cvv (kc K')))) (cells := A.1 - A0.1 + 1) (slots := A.2.1 - A0.2.1 + 7) (locs := locs) (H := H1) (e := e) (below := below) (meth := meth) ⟨B.1, rfl, B.ml, B.hown, B.tw⟩ (ctN6 (l := l') (D := K'.2.2.1) (cI := K'.2.2.2.1) (cZ := K'.2.2.2.2.1) (cJ := K'.2.2.2.2.2) H.size) ⟨callB_of 0 B.tw (tw_good miN6.1) rfl rfl rfl (B.tw _ miN6.2.2.2) (B.tw _ hw2.1) miN6.2.2.1 hR, rfl, B.tw _ hw2.2⟩ ⟨fun a U g mk q => ⟨q.1, q.2.1, q.2.2.1, va_K.moved (u := U) (U := U.calling g mk a) (Vm.Alike.refl U.vm) q.2.2.2.1, fun x m => va_Nw.same rfl (u := U) (U := U.calling g mk a) rfl (q.2.2.2.2 x m)⟩, fun U hU hW => ⟨rfl, by rw [hU, z1], by rw [hU]; exact hPl, va_K.moved hW.alike B.kk, fun x m => (B.sx.1 x m).warmM hW⟩⟩ rfl rfl hl.1 rfl (lv_room hrl) hd3 (by omega)
  intro T hT Y
  obtain ⟨v, st₀, t, T', L, h0, X', hL, e1', e2, ⟨hv, hP1, hz1, hF⟩, hst⟩ := hrun T hT Y
  cases hv
  have hlen : (bN6 K'.2.2.2.1 K'.2.2.2.2.1 K'.2.2.2.2.2).length = 119 := bN6_len _ _ _
  rw [hlen] at hz1
  have hAA : ∀ q, (H.size ≤ q) → Ax K' q := fun q h => by show K'.1 ≤ q; omega
  obtain ⟨g1, g2, hS2⟩ := kp_keep h0 e1' hS1 (fun q _ h => hAA q h) hAA hL hF
  have hP2 : va_P K'.2.2.1 zcls (w2 K' mem0 (nwZ A) dm) T'.heap := by
    unfold w2
    refine va_P.app ?_ ?_
    · show va_P K'.2.2.1 zcls (wl (cfg K' (A.1 + 1)) mem0) T'.heap
      refine hz9 A.1 _ ?_
      rw [← hz, e1']
      exact hP1
    · rw [owv_nwZ]
      intro k9 x hx2
      have hx3 : (w2 K' mm A dm)[119 + k9]? = some x := by
        unfold w2
        rw [List.getElem?_append_right (by rw [wl_len]; omega), wl_len, show 119 + k9 - 119 = k9 by omega]
        exact hx2
      have h5 := hP _ x hx3
      refine (h5.kept (hkp _ x hx3)).kept ?_
      have h6 := h5.lt
      exact g2 x.1 (by omega) (by show ¬ _ ≤ _; omega)
  have hgo := k T'.heap (locs ++ L) ls ⟨okA_nwZ A, ⟨by show _ ≤ A.1 + 119; omega, by show _ ≤ A.2.1 + 2166; omega⟩, by show A.1 + 119 ≤ _; omega, by show A.2.1 + 2166 ≤ _; omega⟩ hP2 hS2 hl
  have e8 : (nwZ A).1 - A0.1 = A.1 - A0.1 + 1 + 118 := by show A.1 + 119 - A0.1 = _; omega
  have e9 : (nwZ A).2.1 - A0.2.1 = A.2.1 - A0.2.1 + 7 + 2159 := by show A.2.1 + 2166 - A0.2.1 = _; omega
  rw [e8, e9] at hgo
  have e10 : cvv (kc K') (.ref (A.1 + 1)) = .ref H.size := by show Value.ref (adr K' (A.1 + 1)) = _; rw [adr_pos (by omega), hz]; rfl
  rw [List.map_cons, e10] at hgo
  obtain ⟨t2, a1, b1⟩ := hgo T' rfl X'
  exact ⟨t2, hst t2 a1, b1⟩
def azc {β : Type} (pr : β → AS) (A : AS) (t : Nat → AS → Option β) : Option β := match t (A.1 + 1) (nwZ A) with
  | some x => if A.1 + 119 ≤ (pr x).1 ∧ A.2.1 + 2166 ≤ (pr x).2.1 then some x else none
  | none => none
theorem azc_e {β : Type} {pr : β → AS} {A : AS} {t : Nat → AS → Option β} {x : β} (h : azc pr A t = some x) : ∃ q A1, q = A.1 + 1 ∧ A1 = nwZ A ∧ (A.1 + 119 ≤ (pr x).1 ∧ A.2.1 + 2166 ≤ (pr x).2.1) ∧ t q A1 = some x := by
  unfold azc at h
  cases ht : t (A.1 + 1) (nwZ A) with
  | none => rw [ht] at h; cases h
  | some y =>
    rw [ht] at h
    dsimp only at h
    by_cases c : A.1 + 119 ≤ (pr y).1 ∧ A.2.1 + 2166 ≤ (pr y).2.1
    · rw [if_pos c] at h
      cases h
      exact ⟨_, _, rfl, rfl, c, ht⟩
    · rw [if_neg c] at h
      cases h
theorem go_azc {β : Type} {pr : β → AS} {A : AS} {P : β → Prop} {t : Nat → AS → Option β} (h : Go (t (A.1 + 1) (nwZ A)) pr (nwZ A) P) : Go (azc pr A t) pr A P := by
  obtain ⟨y, g1, g2, g3⟩ := h
  have h1 : A.1 + 119 ≤ (pr y).1 := g2.1
  have h2 : A.2.1 + 2166 ≤ (pr y).2.1 := g2.2
  refine ⟨y, ?_, ⟨by omega, by omega⟩, g3⟩
  unfold azc
  rw [g1]
  dsimp only
  rw [if_pos ⟨h1, h2⟩]
def gsc {β : Type} (L : Nat) (i : Int32) (k : Option β) : Option β := if inb i L = true then k else none
theorem gsc_e {β : Type} {L : Nat} {i : Int32} {k : Option β} {y : β} (h : gsc L i k = some y) : inb i L = true ∧ k = some y := by
  unfold gsc at h
  by_cases hc : inb i L = true
  · exact ⟨hc, (if_pos hc).symm.trans h⟩
  · rw [if_neg hc] at h; cases h
