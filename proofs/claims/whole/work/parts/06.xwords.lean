/-! the component by words: sets of lists -/
section
variable {rc cw ak : Int32} {ow kd fp sq sz wn : Nat → Int32} {co ho fo al : Nat → Int64}
theorem qg_cb_1 {s m v : Nat} (h : s / 2 ^ v % 2 = 1) : qg_cb s m v = if m.testBit v = true then 1 else 0 := by
  unfold qg_cb
  rw [(qg_tb s v).mpr h, Bool.true_and]
theorem qg_cb_0 {s m v : Nat} (h : ¬ s / 2 ^ v % 2 = 1) : qg_cb s m v = 0 := by
  unfold qg_cb
  have e : s.testBit v = false := by
    cases z : s.testBit v with
    | false => rfl
    | true => exact absurd ((qg_tb s v).mp z) h
  rw [e, Bool.false_and]
  rfl
theorem qg_X_al57 {post : Int64 → SX → Prop} {J : Int32 → (Nat → Int32) → (Nat → Int32) → (Nat → Int32) → (Nat → Int32) → (Nat → Int32) → (Nat → Int32) → (Nat → Int64) → (Nat → Int64) → (Nat → Int64) → (Nat → Int64) → Prop} {x1 : Int32} {s w v : Nat} (hs : s / 2 ^ v % 2 = 1) (hw : w < 4) (hv : v < 8) (hco : qg_col co)
    (hI : ∀ c b, c ≤ 8 → b < 64 → qg_l (al c) b = decide (c ≤ qg_pop (s &&& (64 * w + b)) v))
    (hp : ∀ al', (∀ c b, c ≤ 8 → b < 64 → qg_l (al' c) b = decide (c ≤ qg_pop (s &&& (64 * w + b)) (v + 1))) → J (nI (v + 1)) ow kd fp sq sz wn co ho fo al') : ∃ n, wX_withAtLeast_57 post J x1 (nI s) (nI w) (nI v) rc cw ak n 8 ow kd fp sq sz wn co ho fo al := by
  refine ⟨9, pk_loopD (σ := Nat → Int64) (fun n j f => wX_withAtLeast_57 post J x1 (nI s) (nI w) (nI v) rc cw ak n (nI j) ow kd fp sq sz wn co ho fo f) (fun j f => j ≤ 8 ∧ ∀ c b, c ≤ 8 → b < 64 → qg_l (f c) b = decide (c ≤ (if j < c then qg_pop (s &&& (64 * w + b)) (v + 1) else qg_pop (s &&& (64 * w + b)) v))) ?_ ?_ 8 al ⟨Nat.le_refl 8, ?_⟩⟩
  · intro n f h
    refine br_t (by decide) (nm_r (nI_1 v) (hp f ?_))
    intro c b hc hb
    rw [h.2 c b hc hb]
    by_cases z : 0 < c
    · rw [if_pos z]
    · have e : c = 0 := by omega
      subst e
      rw [decide_eq_true (Nat.zero_le _), decide_eq_true (Nat.zero_le _)]
  · intro n j f h hn
    have hj := h.1
    show wX_withAtLeast_57 post J x1 (nI s) (nI w) (nI v) rc cw ak (n + 1) (nI (j + 1)) ow kd fp sq sz wn co ho fo f
    have e1 : nI (j + 1) - 1 = nI j := nI_pred j
    have e2 : (nI v * 4) + nI w = nI (v * 4 + w) := by
      show (nI v * nI 4) + nI w = _
      rw [pk_mul, nI_add]
    have k1 : (nI (j + 1)).toNatClampNeg = j + 1 := nI_clamp (by omega)
    have k2 : (nI j).toNatClampNeg = j := nI_clamp (by omega)
    have k3 : (nI (v * 4 + w)).toNatClampNeg = v * 4 + w := nI_clamp (by omega)
    refine br_f (nI_nlt (b := 1) (by omega) (by omega)) ?_
    rw [e1, e2, k1, k2, k3]
    refine ⟨vp_in_nI (by omega) (by decide), vp_in_nI (by omega) (by decide), vp_in_nI (by omega) (by decide), vp_in_nI (by omega) (by decide), nm_e (nm_r (pk_m1 j) (hn _ ⟨by omega, ?_⟩))⟩
    intro c b hc hb
    by_cases z : c = j + 1
    · subst z
      rw [pk_uLs, qg_l_or, qg_l_and, h.2 (j + 1) b hc hb, h.2 j b (by omega) hb, if_neg (Nat.lt_irrefl _), if_neg (by omega), if_pos (Nat.lt_succ_self j), hco v w b hv hw hb, qg_pop_s, qg_cb_1 hs]
      exact qg_al_step (c := j + 1) (by omega) _
    · rw [pk_uLn z, h.2 c b hc hb]
      by_cases y : j < c
      · rw [if_pos y, if_pos (by omega)]
      · rw [if_neg y, if_neg (by omega)]
  · intro c b hc hb
    rw [if_neg (by omega)]
    exact hI c b hc hb
theorem qg_X_al36 {post : Int64 → SX → Prop} {N s w : Nat} (hN : N ≤ 8) (hs : s < 256) (hw : w < 4) (hco : qg_col co)
    (h0 : ∀ c b, c ≤ 8 → b < 64 → qg_l (al c) b = decide (c ≤ 0))
    (hp : ∀ r al', (∀ b, b < 64 → qg_l r b = decide (N ≤ qg_pop (s &&& (64 * w + b)) 8)) → post r (rc, cw, ak, ow, kd, fp, sq, sz, wn, co, ho, fo, al')) : ∃ n, wX_withAtLeast_36 post (nI N) (nI s) (nI w) rc cw ak n 0 ow kd fp sq sz wn co ho fo al := by
  refine pk_loop (σ := Nat → Int64) (fun n v f => wX_withAtLeast_36 post (nI N) (nI s) (nI w) rc cw ak n (nI v) ow kd fp sq sz wn co ho fo f) (fun v f => ∀ c b, c ≤ 8 → b < 64 → qg_l (f c) b = decide (c ≤ qg_pop (s &&& (64 * w + b)) v)) 8 0 al (Nat.zero_le _) h0 ?_ ?_
  · intro n f hI
    refine br_t (by decide) ?_
    rw [nI_clamp (show N < 2 ^ 31 by omega)]
    exact ⟨vp_in_nI (by omega) (by decide), hp _ _ (fun b hb => hI N b hN hb)⟩
  · intro n v f hv hI hn
    refine br_f (nI_ge (b := 8) hv (by decide)) (ek_if (qg_t1 (by omega) (by omega)) (fun z => ?_) (fun z => ?_))
    · exact qg_X_al57 z hw hv hco hI (fun al' h => hn al' h)
    · refine nm_r (nI_1 v) (hn f ?_)
      intro c b hc hb
      rw [hI c b hc hb, qg_pop_s, qg_cb_0 z, Nat.add_zero]
theorem qg_X_al {post : Int64 → SX → Prop} {N s w : Nat} (hN : N ≤ 8) (hs : s < 256) (hw : w < 4) (hco : qg_col co)
    (hp : ∀ r al', (∀ b, b < 64 → qg_l r b = decide (N ≤ qg_pop (s &&& (64 * w + b)) 8)) → post r (rc, cw, ak, ow, kd, fp, sq, sz, wn, co, ho, fo, al')) : wpX_withAtLeast post (rc, cw, ak, ow, kd, fp, sq, sz, wn, co, ho, fo, al) (nI N) (nI s) (nI w) := by
  unfold wpX_withAtLeast
  dsimp only
  refine nm_e ?_
  refine pk_loop (σ := Nat → Int64) (fun n i f => wX_withAtLeast_12 post (nI N) (nI s) (nI w) rc cw ak n (nI i) ow kd fp sq sz wn co ho fo f) (fun i f => 1 ≤ i ∧ f 0 = -1 ∧ ∀ c, 1 ≤ c → c < i → f c = 0) 9 1 _ (by decide) ⟨Nat.le_refl 1, pk_uLs, fun c h1 h2 => by omega⟩ ?_ ?_
  · intro n f hI
    refine br_t (by decide) (qg_X_al36 hN hs hw hco ?_ hp)
    intro c b hc hb
    by_cases z : c = 0
    · subst z
      rw [hI.2.1, qg_l_m1 b hb]
      rfl
    · rw [hI.2.2 c (by omega) (by omega), qg_l_0, decide_eq_false (by omega)]
  · intro n i f hi hI hn
    have h1 := hI.1
    have k1 : (nI i).toNatClampNeg = i := nI_clamp (by omega)
    refine br_f (nI_nlt (a := 8) (by omega) (by omega)) ?_
    rw [k1]
    refine ⟨vp_in_nI hi (by decide), nm_e (nm_r (nI_1 i) (hn _ ⟨by omega, ?_, ?_⟩))⟩
    · rw [pk_uLn (by omega)]
      exact hI.2.1
    · intro c h1 h2
      by_cases y : c = i
      · rw [y, pk_uLs]
      · rw [pk_uLn y]
        exact hI.2.2 c h1 (by omega)
theorem qg_X_odd {post : Int64 → Prop} {s w : Nat} (hs : s < 256) (hw : w < 4) (hco : qg_col co)
    (hp : ∀ r, (∀ b, b < 64 → qg_l r b = decide (qg_pop (s &&& (64 * w + b)) 8 % 2 = 1)) → post r) : wpX_withOddNumber post (rc, cw, ak, ow, kd, fp, sq, sz, wn, co, ho, fo, al) (nI s) (nI w) := by
  unfold wpX_withOddNumber
  dsimp only
  refine pk_loop (σ := Int64) (fun n v l => wX_withOddNumber_5 post (nI s) (nI w) rc cw ak ow kd fp sq sz wn co ho fo al n l (nI v)) (fun v l => ∀ b, b < 64 → qg_l l b = decide (qg_pop (s &&& (64 * w + b)) v % 2 = 1)) 8 0 0 (Nat.zero_le _) (fun b _ => qg_l_0 b) ?_ ?_
  · intro n l hI
    exact br_t (by decide) (hp l hI)
  · intro n v l hv hI hn
    refine br_f (nI_ge (b := 8) hv (by decide)) (ek_if (qg_t1 (by omega) (by omega)) (fun z => ?_) (fun z => ?_))
    · have e2 : (nI v * 4) + nI w = nI (v * 4 + w) := by
        show (nI v * nI 4) + nI w = _
        rw [pk_mul, nI_add]
      rw [e2, nI_clamp (show v * 4 + w < 2 ^ 31 by omega)]
      refine ⟨vp_in_nI (by omega) (by decide), nm_e (nm_r (nI_1 v) (hn _ ?_))⟩
      intro b hb
      rw [qg_l_xor, hI b hb, hco v w b hv hw hb, qg_pop_s, qg_cb_1 z]
      exact qg_odd_step _ _
    · refine nm_r (nI_1 v) (hn l ?_)
      intro b hb
      rw [hI b hb, qg_pop_s, qg_cb_0 z, Nat.add_zero]
theorem qg_X_ruleWord {post : Int64 → SX → Prop} {i w : Nat} (hi : i < 12) (hw : w < 4) (hok : qg_ok (kd i) (fp i) (sq i)) (hsz : ∀ s, s < 256 → sz s = nI (qg_pop s 8)) (hco : qg_col co)
    (hp : ∀ r al', (∀ b, b < 64 → qg_l r b = qg_rh (kd i) (fp i) (sq i) (64 * w + b)) → post r (rc, cw, ak, ow, kd, fp, sq, sz, wn, co, ho, fo, al')) : wpX_ruleWord post (rc, cw, ak, ow, kd, fp, sq, sz, wn, co, ho, fo, al) (nI i) (nI w) := by
  obtain ⟨K, P, Q, eK, eP, eQ, hK, hP, hQ, h0, h1, h2⟩ := hok
  have hp2 : ∀ r al', (∀ b, b < 64 → qg_l r b = qg_rn K P Q (64 * w + b)) → post r (rc, cw, ak, ow, kd, fp, sq, sz, wn, co, ho, fo, al') := by
    intro r al' h
    refine hp r al' (fun b hb => ?_)
    rw [eK, eP, eQ, qg_rh_n hK hP hQ]
    exact h b hb
  have hin : vp_in (nI i) 12 := vp_in_nI hi (by decide)
  have ci : (nI i).toNatClampNeg = i := nI_clamp (by omega)
  have cP : (nI P).toNatClampNeg = P := nI_clamp (by omega)
  have vP : vp_in (nI P) 256 := vp_in_nI hP (by decide)
  have lP := qg_pop_le P 8
  unfold wpX_ruleWord
  dsimp only
  rw [ci]
  refine ⟨hin, nm_r eP ⟨hin, nm_r eQ ⟨hin, nm_r eK ?_⟩⟩⟩
  rcases qg_four hK with rfl | rfl | rfl | rfl
  · have hq := h0 rfl
    have lQ := qg_pop_le Q 8
    refine br_f (by decide) (br_f (by decide) (br_t (by decide) ?_))
    refine qg_X_al (N := 1) (by decide) hP hw hco (fun r1 al1 g1 => ?_)
    dsimp only
    rw [nI_clamp (show Q < 2 ^ 31 by omega), hsz Q hq]
    refine ⟨vp_in_nI hq (by decide), qg_X_al (by omega) hq hw hco (fun r2 al2 g2 => ?_)⟩
    refine hp2 _ _ (fun b hb => ?_)
    rw [qg_l_or, qg_l_not _ hb, g1 b hb, g2 b hb, qg_rn_0]
    by_cases z : qg_pop (P &&& (64 * w + b)) 8 = 0
    · rw [decide_eq_false (not_not_intro z), decide_eq_false (show ¬ 1 ≤ qg_pop (P &&& (64 * w + b)) 8 by omega), decide_not]
    · rw [decide_eq_true z, decide_eq_true (show 1 ≤ qg_pop (P &&& (64 * w + b)) 8 by omega), Bool.true_or, Bool.true_or]
  · have hq := h1 rfl
    refine br_f (by decide) (br_f (by decide) (br_f (by decide) (br_t (by decide) ?_)))
    refine ek_if (nI_eq (b := 1) (by omega) (by decide)) (fun z => ?_) (fun z => ?_)
    · refine qg_X_odd hP hw hco (fun r g => hp2 _ _ (fun b hb => ?_))
      rw [g b hb, qg_rn_1, z]
    · refine qg_X_odd hP hw hco (fun r g => hp2 _ _ (fun b hb => ?_))
      have e : Q = 0 := by omega
      rw [qg_l_not _ hb, g b hb, qg_rn_1, e]
      by_cases y : qg_pop (P &&& (64 * w + b)) 8 % 2 = 1
      · rw [decide_eq_true y, decide_eq_false (by omega)]; rfl
      · rw [decide_eq_false y, decide_eq_true (by omega)]; rfl
  · have hq := h2 rfl
    refine br_f (by decide) (br_f (by decide) (br_f (by decide) (br_f (by decide) (br_t (by decide) ?_))))
    rw [nI_1]
    refine qg_X_al (by omega) hP hw hco (fun r g => ?_)
    intro g
    refine hp2 _ _ (fun b hb => ?_)
    rw [qg_l_not _ hb, g b hb, qg_rn_2]
    by_cases y : Q + 1 ≤ qg_pop (P &&& (64 * w + b)) 8
    · rw [decide_eq_true y, decide_eq_false (by omega)]; rfl
    · rw [decide_eq_false y, decide_eq_true (by omega)]; rfl
  · refine br_f (by decide) (br_t (by decide) ?_)
    rw [cP, hsz P hP]
    refine ⟨vP, qg_X_al (by omega) hP hw hco (fun r1 al1 g1 => ?_)⟩
    refine qg_X_al (N := 1) (by decide) hP hw hco (fun r2 al2 g2 => ?_)
    refine hp2 _ _ (fun b hb => ?_)
    rw [qg_l_or, qg_l_not _ hb, g1 b hb, g2 b hb, qg_rn_3, Bool.or_comm]
    congr 1
    by_cases z : qg_pop (P &&& (64 * w + b)) 8 = 0
    · rw [decide_eq_true z, decide_eq_false (show ¬ 1 ≤ qg_pop (P &&& (64 * w + b)) 8 by omega)]; rfl
    · rw [decide_eq_false z, decide_eq_true (show 1 ≤ qg_pop (P &&& (64 * w + b)) 8 by omega)]; rfl
end
