/-! the component: one rule, all asked rules, one by one -/
theorem qg_rn_0 (P Q m : Nat) : qg_rn 0 P Q m = (decide (¬ qg_pop (P &&& m) 8 = 0) || decide (¬ qg_pop Q 8 ≤ qg_pop (Q &&& m) 8)) := if_pos rfl
theorem qg_rn_1 (P Q m : Nat) : qg_rn 1 P Q m = decide (qg_pop (P &&& m) 8 % 2 = Q) := by
  unfold qg_rn
  rw [if_neg (by decide), if_pos rfl]
theorem qg_rn_2 (P Q m : Nat) : qg_rn 2 P Q m = decide (qg_pop (P &&& m) 8 ≤ Q) := by
  unfold qg_rn
  rw [if_neg (by decide), if_neg (by decide), if_pos rfl]
theorem qg_rn_3 (P Q m : Nat) : qg_rn 3 P Q m = (decide (qg_pop (P &&& m) 8 = 0) || decide (qg_pop P 8 ≤ qg_pop (P &&& m) 8)) := by
  unfold qg_rn
  rw [if_neg (by decide), if_neg (by decide), if_neg (by decide)]
theorem qg_four {K : Nat} (h : K < 4) : K = 0 ∨ K = 1 ∨ K = 2 ∨ K = 3 := by omega
theorem qg_selI (ak : Int32) (i : Nat) : ((ak >>> (nI i &&& 31)) &&& 1) = 1 ↔ qg_sel ak i = true := by
  unfold qg_sel
  rw [decide_eq_true_eq]
section
variable {rc cw ak : Int32} {ow kd fp sq sz wn : Nat → Int32} {co ho fo al : Nat → Int64}
theorem qg_X_ruleHolds {post : Int32 → Prop} {i m : Nat} (hi : i < 12) (hok : qg_ok (kd i) (fp i) (sq i)) (hsz : ∀ s, s < 256 → sz s = nI (qg_pop s 8)) (hp : post (qg_b (qg_rh (kd i) (fp i) (sq i) m))) : wpX_ruleHolds post (rc, cw, ak, ow, kd, fp, sq, sz, wn, co, ho, fo, al) (nI i) (nI m) := by
  obtain ⟨K, P, Q, eK, eP, eQ, hK, hP, hQ, h0, h1, h2⟩ := hok
  rw [eK, eP, eQ, qg_rh_n hK hP hQ] at hp
  have hin : vp_in (nI i) 12 := vp_in_nI hi (by decide)
  have ci : (nI i).toNatClampNeg = i := nI_clamp (by omega)
  have hlt : P &&& m < 256 := qg_and_lt hP
  have hpl := qg_pop_le (P &&& m) 8
  have hx : nI m &&& nI P = nI (P &&& m) := by rw [nx_and, Nat.and_comm]
  have t1 : qg_rn K P Q m = true → post 1 := fun e => by rw [e] at hp; exact hp
  have t0 : qg_rn K P Q m = false → post 0 := fun e => by rw [e] at hp; exact hp
  have cx : (nI (P &&& m)).toNatClampNeg = P &&& m := nI_clamp (by omega)
  have vx : vp_in (nI (P &&& m)) 256 := vp_in_nI hlt (by decide)
  unfold wpX_ruleHolds
  dsimp only
  rw [ci]
  refine ⟨hin, nm_r eP ⟨hin, nm_r eQ (nm_r hx ⟨hin, nm_r eK ?_⟩)⟩⟩
  rcases qg_four hK with rfl | rfl | rfl | rfl
  · refine br_f (by decide) (br_f (by decide) (br_t (by decide) ?_))
    exact ek_if (qg_nI0 hlt) (fun z => ek_if (qg_com (h0 rfl)) (fun z2 => t0 (by rw [qg_rn_0, decide_eq_false (not_not_intro z), decide_eq_false (not_not_intro z2)]; rfl)) (fun z2 => t1 (by rw [qg_rn_0, decide_eq_true z2, Bool.or_true]))) (fun z => t1 (by rw [qg_rn_0, decide_eq_true z, Bool.true_or]))
  · refine br_f (by decide) (br_f (by decide) (br_f (by decide) (br_t (by decide) ⟨vx, ?_⟩)))
    have hq := h1 rfl
    rw [cx, hsz _ hlt, pk_andN (by omega) 1 (by decide), Nat.pow_one]
    exact ek_if (nI_eq (by omega) (by omega)) (fun z => t1 (by rw [qg_rn_1]; exact decide_eq_true z)) (fun z => t0 (by rw [qg_rn_1]; exact decide_eq_false z))
  · refine br_f (by decide) (br_f (by decide) (br_f (by decide) (br_f (by decide) (br_t (by decide) ⟨vx, ?_⟩))))
    have hq := h2 rfl
    rw [cx, hsz _ hlt]
    exact ek_if (nI_ltI (by omega) (by omega)) (fun z => t0 (by rw [qg_rn_2]; exact decide_eq_false (by omega))) (fun z => t1 (by rw [qg_rn_2]; exact decide_eq_true (by omega)))
  · refine br_f (by decide) (br_t (by decide) ?_)
    exact ek_if (qg_nI0 hlt) (fun z => t1 (by rw [qg_rn_3, decide_eq_true z, Bool.true_or])) (fun z => ek_if (nI_eq (by omega) (by omega)) (fun z2 => t1 (by rw [qg_rn_3, decide_eq_true ((qg_sub hP).mp z2), Bool.or_true])) (fun z2 => t0 (by rw [qg_rn_3, decide_eq_false z, decide_eq_false (fun y => z2 ((qg_sub hP).mpr y))]; rfl)))
theorem qg_X_hobo {post : Int32 → Prop} {c m : Nat} (hc : c ≤ 12) (hok : ∀ i, i < c → qg_ok (kd i) (fp i) (sq i)) (hsz : ∀ s, s < 256 → sz s = nI (qg_pop s 8)) (hp : post (qg_b (qg_H kd fp sq c ak m))) : wpX_holdOneByOne post ((nI c), cw, ak, ow, kd, fp, sq, sz, wn, co, ho, fo, al) (nI m) := by
  have t1 : (∀ i, i < c → qg_sel ak i = true → qg_rh (kd i) (fp i) (sq i) m = true) → post 1 := fun e => by
    unfold qg_H at hp; rw [decide_eq_true e] at hp; exact hp
  have t0 : ¬ (∀ i, i < c → qg_sel ak i = true → qg_rh (kd i) (fp i) (sq i) m = true) → post 0 := fun e => by
    unfold qg_H at hp; rw [decide_eq_false e] at hp; exact hp
  unfold wpX_holdOneByOne
  dsimp only
  refine pk_loop (σ := Unit) (fun n i _ => wX_holdOneByOne_2 post (nI m) (nI c) cw ak ow kd fp sq sz wn co ho fo al n (nI i)) (fun i _ => ∀ j, j < i → qg_sel ak j = true → qg_rh (kd j) (fp j) (sq j) m = true) c 0 () (Nat.zero_le _) (fun j hj => absurd hj (Nat.not_lt_zero j)) ?_ ?_
  · intro n _ hI
    exact br_t (nI_le (Nat.le_refl c) (by omega)) (t1 hI)
  · intro n i _ hi hI hn
    refine br_f (nI_ge hi (by omega)) (ek_if (qg_selI ak i) (fun hs => ?_) (fun hs => ?_))
    · refine qg_X_ruleHolds (by omega) (hok i hi) hsz ?_
      cases hr : qg_rh (kd i) (fp i) (sq i) m with
      | false => exact br_t rfl (t0 (fun e => by rw [e i hi hs] at hr; cases hr))
      | true =>
        refine br_f (by decide) (nm_r (nI_1 i) (hn () (fun j hj hsj => ?_)))
        rcases Nat.lt_or_ge j i with z | z
        · exact hI j z hsj
        · have e : j = i := by omega
          rw [e]; exact hr
    · refine nm_r (nI_1 i) (hn () (fun j hj hsj => ?_))
      rcases Nat.lt_or_ge j i with z | z
      · exact hI j z hsj
      · have e : j = i := by omega
        rw [e] at hsj
        exact absurd hsj hs
/-! the table -/
theorem qg_nar (b : Bool) : vp_nar .boolean (qg_b b) = qg_b b := by cases b <;> rfl
theorem qg_narrow (b : Bool) : narrow .boolean (.int (qg_b b)) = .int (qg_b b) := by cases b <;> rfl
theorem qg_p2 {j : Nat} (h : j ≤ 8) : 1 ≤ 2 ^ j ∧ 2 ^ j ≤ 256 := ⟨Nat.two_pow_pos j, Nat.pow_le_pow_right (n := 2) (by decide) h⟩
def qg_T (ow : Nat → Int32) (H : Nat → Bool) (f : Nat → Int32) (j : Nat) : Prop := ∀ k x, j ≤ k → k ≤ 8 → x < 2 ^ k → f (2 ^ k + x) = qg_b (qg_V ow H k x)
theorem qg_T_step {ow : Nat → Int32} {H : Nat → Bool} {f : Nat → Int32} {j : Nat} (hT : qg_T ow H f (j + 1)) (h : ∀ x, x < 2 ^ j → f (2 ^ j + x) = qg_b (qg_V ow H j x)) : qg_T ow H f j := by
  intro k x hk hk8 hx
  rcases Nat.lt_or_ge j k with z | z
  · exact hT k x z hk8 hx
  · have e : k = j := by omega
    subst e
    exact h x hx
theorem qg_X_tab43 {post : SX → Prop} {J : Int32 → (Nat → Int32) → (Nat → Int32) → (Nat → Int32) → (Nat → Int32) → (Nat → Int32) → (Nat → Int32) → (Nat → Int64) → (Nat → Int64) → (Nat → Int64) → (Nat → Int64) → Prop} {H : Nat → Bool} {j : Nat} (hj : j < 8) (hT : qg_T ow H wn (j + 1)) (hp : ∀ wn', qg_T ow H wn' j → J (nI j + (-1)) ow kd fp sq sz wn' co ho fo al) : ∃ n, wX_fillTable_43 post J (nI j) (nI (2 ^ j)) rc cw ak n 0 ow kd fp sq sz wn co ho fo al := by
  have ha := qg_p2 (Nat.le_of_lt hj)
  have ha2 : 2 ^ j ≤ 128 := Nat.pow_le_pow_right (n := 2) (by decide) (show j ≤ 7 by omega)
  have es : 2 ^ (j + 1) = 2 * 2 ^ j := by rw [Nat.pow_succ, Nat.mul_comm]
  refine pk_loop (σ := Nat → Int32) (fun n i s => wX_fillTable_43 post J (nI j) (nI (2 ^ j)) rc cw ak n (nI i) ow kd fp sq sz s co ho fo al) (fun i s => qg_T ow H s (j + 1) ∧ ∀ x, x < i → s (2 ^ j + x) = qg_b (qg_V ow H j x)) (2 ^ j) 0 wn (Nat.zero_le _) ⟨hT, fun x hx => absurd hx (Nat.not_lt_zero x)⟩ ?_ ?_
  · intro n s hI
    exact br_t (nI_le (Nat.le_refl _) (by omega)) (nm_e (hp s (qg_T_step hI.1 hI.2)))
  · intro n i s hi hI hn
    have e1 : (2 * nI (2 ^ j)) + nI i = nI (2 * 2 ^ j + i) := by
      show (nI 2 * nI (2 ^ j)) + nI i = _
      rw [pk_mul, nI_add]
    have e2 : ((2 * nI (2 ^ j)) + nI (2 ^ j)) + nI i = nI (2 * 2 ^ j + 2 ^ j + i) := by
      show ((nI 2 * nI (2 ^ j)) + nI (2 ^ j)) + nI i = _
      rw [pk_mul, nI_add, nI_add]
    have e3 : nI (2 ^ j) + nI i = nI (2 ^ j + i) := nI_add _ _
    have r1 : s (2 * 2 ^ j + i) = qg_b (qg_V ow H (j + 1) i) := by
      have h := hI.1 (j + 1) i (Nat.le_refl _) (by omega) (by omega)
      rw [es] at h
      exact h
    have r2 : s (2 * 2 ^ j + 2 ^ j + i) = qg_b (qg_V ow H (j + 1) (i + 2 ^ j)) := by
      have h := hI.1 (j + 1) (i + 2 ^ j) (Nat.le_refl _) (by omega) (by omega)
      rw [es] at h
      rw [← h]
      congr 1
      omega
    have leaf : ∀ b : Bool, qg_V ow H j i = b → (vp_in (nI (2 ^ j + i)) 512 ∧ ∀ w', w' = upd s (2 ^ j + i) (vp_nar .boolean (qg_b b)) → ∀ y, y = nI i + 1 → wX_fillTable_43 post J (nI j) (nI (2 ^ j)) rc cw ak n y ow kd fp sq sz w' co ho fo al) := by
      intro b hb
      refine ⟨vp_in_nI (by omega) (by decide), nm_e (nm_r (nI_1 i) (hn _ ⟨?_, ?_⟩))⟩
      · intro k x hk hk8 hx
        have hle : 2 ^ (j + 1) ≤ 2 ^ k := Nat.pow_le_pow_right (n := 2) (by decide) hk
        rw [pk_un (by omega)]
        exact hI.1 k x hk hk8 hx
      · intro x hx
        by_cases z : x = i
        · rw [z, pk_us, qg_nar, hb]
        · rw [pk_un (by omega)]
          exact hI.2 x (by omega)
    have c1 : (nI (2 * 2 ^ j + i)).toNatClampNeg = 2 * 2 ^ j + i := nI_clamp (by omega)
    have c2 : (nI (2 * 2 ^ j + 2 ^ j + i)).toNatClampNeg = 2 * 2 ^ j + 2 ^ j + i := nI_clamp (by omega)
    have c3 : (nI (2 ^ j + i)).toNatClampNeg = 2 ^ j + i := nI_clamp (by omega)
    have c4 : (nI j).toNatClampNeg = j := nI_clamp (by omega)
    refine br_f (nI_ge hi (by omega)) ?_
    rw [e1, e2, e3, c1, c2, c3, c4]
    refine ⟨vp_in_nI (by omega) (by decide), nm_r r1 ⟨vp_in_nI (by omega) (by decide), nm_r r2 ⟨vp_in_nI hj (by decide), ?_⟩⟩⟩
    have hV := qg_Vk (own := ow) (H := H) (x := i) hj
    by_cases z : ow j = 0
    · rw [if_pos z] at hV
      refine br_t z ?_
      cases hA : qg_V ow H (j + 1) i with
      | true => exact br_f (by decide) (leaf true (by rw [hV, hA]; rfl))
      | false =>
        cases hB : qg_V ow H (j + 1) (i + 2 ^ j) with
        | true => exact br_t rfl (br_f (by decide) (leaf true (by rw [hV, hA, hB]; rfl)))
        | false => exact br_t rfl (br_t rfl (leaf false (by rw [hV, hA, hB]; rfl)))
    · rw [if_neg z] at hV
      refine br_f z ?_
      cases hA : qg_V ow H (j + 1) i with
      | false => exact br_t rfl (leaf false (by rw [hV, hA]; rfl))
      | true =>
        cases hB : qg_V ow H (j + 1) (i + 2 ^ j) with
        | true => exact br_f (by decide) (br_f (by decide) (leaf true (by rw [hV, hA, hB]; rfl)))
        | false => exact br_f (by decide) (br_t rfl (leaf false (by rw [hV, hA, hB]; rfl)))
theorem qg_X_tab33 {post : SX → Prop} {H : Nat → Bool} (hT : qg_T ow H wn 8) (hp : ∀ wn', qg_T ow H wn' 0 → post (rc, cw, ak, ow, kd, fp, sq, sz, wn', co, ho, fo, al)) : ∃ n, wX_fillTable_33 post rc cw ak n 7 ow kd fp sq sz wn co ho fo al := by
  refine ⟨9, pk_loopD (σ := Nat → Int32) (fun n j s => wX_fillTable_33 post rc cw ak n (nI j + (-1)) ow kd fp sq sz s co ho fo al) (fun j s => j ≤ 8 ∧ qg_T ow H s j) ?_ ?_ 8 wn ⟨Nat.le_refl 8, hT⟩⟩
  · intro n s hI
    exact br_t (by decide) (hp s hI.2)
  · intro n j s hI hn
    show wX_fillTable_33 post rc cw ak (n + 1) (nI (j + 1) + (-1)) ow kd fp sq sz s co ho fo al
    rw [pk_m1]
    exact br_f (nI_pos (by omega)) (nm_r (qg_1s j (by omega)) (qg_X_tab43 (by omega) hI.2 (fun wn' h => hn wn' ⟨by omega, h⟩)))
theorem qg_X_fillTable {post : SX → Prop} {c : Nat} (hc : c ≤ 12) (hok : ∀ i, i < c → qg_ok (kd i) (fp i) (sq i)) (hsz : ∀ s, s < 256 → sz s = nI (qg_pop s 8)) (hp : ∀ wn', qg_T ow (qg_H kd fp sq c ak) wn' 0 → post ((nI c), cw, ak, ow, kd, fp, sq, sz, wn', co, ho, fo, al)) : wpX_fillTable post ((nI c), cw, ak, ow, kd, fp, sq, sz, wn, co, ho, fo, al) := by
  unfold wpX_fillTable
  dsimp only
  refine pk_loop (σ := Nat → Int32) (fun n i s => wX_fillTable_2 post (nI c) cw ak n (nI i) ow kd fp sq sz s co ho fo al) (fun i s => ∀ x, x < i → s (256 + x) = qg_b (qg_H kd fp sq c ak x)) 256 0 wn (Nat.zero_le _) (fun x hx => absurd hx (Nat.not_lt_zero x)) ?_ ?_
  · intro n s hI
    refine br_t (by decide) (qg_X_tab33 (H := qg_H kd fp sq c ak) ?_ hp)
    intro k x hk hk8 hx
    have e : k = 8 := by omega
    subst e
    exact hI x hx
  · intro n i s hi hI hn
    refine br_f (nI_ge (b := 256) hi (by decide)) (qg_X_hobo hc hok hsz ?_)
    have e : 256 + nI i = nI (256 + i) := nI_add 256 i
    rw [e, nI_clamp (show 256 + i < 2 ^ 31 by omega)]
    refine ⟨vp_in_nI (by omega) (by decide), nm_e (nm_r (nI_1 i) (hn _ ?_))⟩
    intro x hx
    by_cases z : x = i
    · rw [z, pk_us, qg_nar]
    · rw [pk_un (by omega)]
      exact hI x (by omega)
end
