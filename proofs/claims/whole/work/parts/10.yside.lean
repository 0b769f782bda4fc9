/-! the reference -/
theorem qg_eqs_s (j : Nat) (f g : Nat → Bool) : qg_eqs (j + 1) f g = if f j = g j then qg_eqs j f g else false := by
  by_cases z : f j = g j
  · rw [if_pos z]
    refine decide_eq_decide.mpr ⟨fun h x hx => h x (by omega), fun h x hx => ?_⟩
    rcases Nat.lt_or_ge x j with y | y
    · exact h x y
    · have e : x = j := by omega
      rw [e]; exact z
  · rw [if_neg z]
    exact qg_eqs_f (Nat.lt_succ_self j) z
theorem qg_Y_in {post : Int32 → Prop} {u : SY} {x lo hi : Int32} (h1 : ¬ x < lo → ¬ hi < x → post 1) (h0 : (x < lo ∨ hi < x) → post 0) : wpY_in post u x lo hi := by
  obtain ⟨a1, a2, a3, a4, a5, a6, a7⟩ := u
  exact br_c (fun z => h0 (Or.inl z)) (fun z => br_c (fun y => h0 (Or.inr y)) (fun y => h1 z y))
def qg_YT (ow : Nat → Int32) (H : Nat → Bool) (f : Nat → Int32) (j : Nat) : Prop := ∀ k x, j ≤ k → k ≤ 8 → x < 2 ^ k → f (256 * k + x) = qg_b (qg_V ow H k x)
theorem qg_YT_step {ow : Nat → Int32} {H : Nat → Bool} {f : Nat → Int32} {j : Nat} (hT : qg_YT ow H f (j + 1)) (h : ∀ x, x < 2 ^ j → f (256 * j + x) = qg_b (qg_V ow H j x)) : qg_YT ow H f j := by
  intro k x hk hk8 hx
  rcases Nat.lt_or_ge j k with z | z
  · exact hT k x z hk8 hx
  · have e : k = j := by omega
    subst e
    exact h x hx
section
variable {rc : Int32} {kd fp sq ow tr aa : Nat → Int32}
theorem qg_Y_size {post : Int32 → Prop} {s : Nat} (hs : s < 256) (hp : post (nI (qg_pop s 8))) : wpY_sizeOf post (rc, kd, fp, sq, ow, tr, aa) (nI s) := by
  unfold wpY_sizeOf
  dsimp only
  refine pk_loop (σ := Unit) (fun n v _ => wY_sizeOf_4 post (nI s) rc kd fp sq ow tr aa n (nI (qg_pop s v)) (nI v)) (fun _ _ => True) 8 0 () (Nat.zero_le _) trivial ?_ ?_
  · intro n _ _
    exact br_t (by decide) hp
  · intro n v _ hv _ hn
    refine br_f (nI_ge (b := 8) hv (by decide)) (nm_r ?_ (nm_r (nI_1 v) (hn () trivial)))
    rw [qg_tst (by omega) (by omega), nI_add]
    rfl
theorem qg_Y_isKept {post : Int32 → Prop} {i m : Nat} (hi : i < 12) (hok : qg_ok (kd i) (fp i) (sq i)) (hp : post (qg_b (qg_rh (kd i) (fp i) (sq i) m))) : wpY_isKept post (rc, kd, fp, sq, ow, tr, aa) (nI i) (nI m) := by
  obtain ⟨K, P, Q, eK, eP, eQ, hK, hP, hQ, h0, h1, h2⟩ := hok
  rw [eK, eP, eQ, qg_rh_n hK hP hQ] at hp
  have hin : vp_in (nI i) 12 := vp_in_nI hi (by decide)
  have ci : (nI i).toNatClampNeg = i := nI_clamp (by omega)
  have hlt : P &&& m < 256 := qg_and_lt hP
  have hpl := qg_pop_le (P &&& m) 8
  have t1 : qg_rn K P Q m = true → post 1 := fun e => by rw [e] at hp; exact hp
  have t0 : qg_rn K P Q m = false → post 0 := fun e => by rw [e] at hp; exact hp
  unfold wpY_isKept
  dsimp only
  rw [ci, eK, eP, eQ, nx_and]
  refine ⟨hin, nm_e ⟨hin, ?_⟩⟩
  rcases qg_four hK with rfl | rfl | rfl | rfl
  · refine br_t (by decide) ?_
    have hc : (nI Q &&& (nI m ^^^ (-1)) = 0) ↔ qg_pop Q 8 ≤ qg_pop (Q &&& m) 8 := by
      rw [Int32.and_comm]
      exact qg_com (h0 rfl)
    exact ek_if (qg_nI0 hlt) (fun z => ⟨hin, ek_if hc (fun z2 => t0 (by rw [qg_rn_0, decide_eq_false (not_not_intro z), decide_eq_false (not_not_intro z2)]; rfl)) (fun z2 => t1 (by rw [qg_rn_0, decide_eq_true z2, Bool.or_true]))⟩) (fun z => t1 (by rw [qg_rn_0, decide_eq_true z, Bool.true_or]))
  · have hq := h1 rfl
    refine br_f (by decide) ⟨hin, br_t (by decide) (qg_Y_size hlt ⟨by decide, hin, ?_⟩)⟩
    have er : nI (qg_pop (P &&& m) 8) - nI (qg_pop (P &&& m) 8) / 2 * 2 = nI (qg_pop (P &&& m) 8 % 2) := pk_rem (d := 2) (by omega) (by decide) (by decide)
    rw [er]
    exact ek_if (nI_eq (by omega) (by omega)) (fun z => t1 (by rw [qg_rn_1]; exact decide_eq_true z)) (fun z => t0 (by rw [qg_rn_1]; exact decide_eq_false z))
  · have hq := h2 rfl
    refine br_f (by decide) ⟨hin, br_f (by decide) ⟨hin, br_t (by decide) (qg_Y_size hlt ⟨hin, ?_⟩)⟩⟩
    exact ek_if (nI_ltI (by omega) (by omega)) (fun z => t0 (by rw [qg_rn_2]; exact decide_eq_false (by omega))) (fun z => t1 (by rw [qg_rn_2]; exact decide_eq_true (by omega)))
  · refine br_f (by decide) ⟨hin, br_f (by decide) ⟨hin, br_f (by decide) ?_⟩⟩
    exact ek_if (qg_nI0 hlt) (fun z => t1 (by rw [qg_rn_3, decide_eq_true z, Bool.true_or])) (fun z => ⟨hin, ek_if (nI_eq (by omega) (by omega)) (fun z2 => t1 (by rw [qg_rn_3, decide_eq_true ((qg_sub hP).mp z2), Bool.or_true])) (fun z2 => t0 (by rw [qg_rn_3, decide_eq_false z, decide_eq_false (fun y => z2 ((qg_sub hP).mpr y))]; rfl))⟩)
theorem qg_Y_areKept {post : Int32 → Prop} {c m : Nat} {mask : Int32} (hc : c ≤ 12) (hok : ∀ i, i < c → qg_ok (kd i) (fp i) (sq i)) (hp : post (qg_b (qg_H kd fp sq c mask m))) : wpY_areKept post ((nI c), kd, fp, sq, ow, tr, aa) mask (nI m) := by
  have t1 : (∀ i, i < c → qg_sel mask i = true → qg_rh (kd i) (fp i) (sq i) m = true) → post 1 := fun e => by
    unfold qg_H at hp; rw [decide_eq_true e] at hp; exact hp
  have t0 : ¬ (∀ i, i < c → qg_sel mask i = true → qg_rh (kd i) (fp i) (sq i) m = true) → post 0 := fun e => by
    unfold qg_H at hp; rw [decide_eq_false e] at hp; exact hp
  unfold wpY_areKept
  dsimp only
  refine pk_loop (σ := Unit) (fun n i _ => wY_areKept_2 post mask (nI m) (nI c) kd fp sq ow tr aa n (nI i)) (fun i _ => ∀ j, j < i → qg_sel mask j = true → qg_rh (kd j) (fp j) (sq j) m = true) c 0 () (Nat.zero_le _) (fun j hj => absurd hj (Nat.not_lt_zero j)) ?_ ?_
  · intro n _ hI
    exact br_t (nI_le (Nat.le_refl c) (by omega)) (t1 hI)
  · intro n i _ hi hI hn
    refine br_f (nI_ge hi (by omega)) (ek_if (qg_selI mask i) (fun hs => ?_) (fun hs => ?_))
    · refine qg_Y_isKept (by omega) (hok i hi) ?_
      cases hr : qg_rh (kd i) (fp i) (sq i) m with
      | false => exact br_t rfl (t0 (fun e => by rw [e i hi hs] at hr; cases hr))
      | true =>
        refine br_f (by decide) (nm_r (nI_1 i) (hn () (fun j hj hsj => ?_)))
        rcases Nat.lt_or_ge j i with z | z
        · exact hI j z hsj
        · have e : j = i := by omega
          rw [e]; exact hr
    · refine nm_r (nI_1 i) (hn () (fun j hj hsj => ?_))
      rcases Nat.lt_or_ge j i with z | z
      · exact hI j z hsj
      · have e : j = i := by omega
        rw [e] at hsj
        exact absurd hsj hs
theorem qg_Y_grow40 {post : SY → Prop} {J : Int32 → (Nat → Int32) → (Nat → Int32) → (Nat → Int32) → (Nat → Int32) → (Nat → Int32) → (Nat → Int32) → Prop} {H : Nat → Bool} {j : Nat} (hj : j < 8) (hT : qg_YT ow H tr (j + 1)) (hp : ∀ tr', qg_YT ow H tr' j → J (nI j + (-1)) kd fp sq ow tr' aa) : ∃ n, wY_grow_40 post J (nI j) rc n 0 kd fp sq ow tr aa := by
  have ha := qg_p2 (Nat.le_of_lt hj)
  have ha2 : 2 ^ j ≤ 128 := Nat.pow_le_pow_right (n := 2) (by decide) (show j ≤ 7 by omega)
  have es : 2 ^ (j + 1) = 2 * 2 ^ j := by rw [Nat.pow_succ, Nat.mul_comm]
  refine pk_loop (σ := Nat → Int32) (fun n i s => wY_grow_40 post J (nI j) rc n (nI i) kd fp sq ow s aa) (fun i s => qg_YT ow H s (j + 1) ∧ ∀ x, x < i → s (256 * j + x) = qg_b (qg_V ow H j x)) (2 ^ j) 0 tr (Nat.zero_le _) ⟨hT, fun x hx => absurd hx (Nat.not_lt_zero x)⟩ ?_ ?_
  · intro n s hI
    refine br_t ?_ (nm_e (hp s (qg_YT_step hI.1 hI.2)))
    rw [qg_1s j (by omega)]
    exact nI_le (Nat.le_refl _) (by omega)
  · intro n i s hi hI hn
    have e1 : (256 * (nI j + 1)) + nI i = nI (256 * (j + 1) + i) := by
      show (nI 256 * (nI j + 1)) + nI i = _
      rw [nI_1, pk_mul, nI_add]
    have e2 : (256 * (nI j + 1)) + nI (i + 2 ^ j) = nI (256 * (j + 1) + (i + 2 ^ j)) := by
      show (nI 256 * (nI j + 1)) + nI (i + 2 ^ j) = _
      rw [nI_1, pk_mul, nI_add]
    have e3 : (256 * nI j) + nI i = nI (256 * j + i) := by
      show (nI 256 * nI j) + nI i = _
      rw [pk_mul, nI_add]
    have r1 := hI.1 (j + 1) i (Nat.le_refl _) (by omega) (by omega)
    have r2 := hI.1 (j + 1) (i + 2 ^ j) (Nat.le_refl _) (by omega) (by omega)
    have leaf : ∀ b : Bool, qg_V ow H j i = b → (vp_in (nI (256 * j + i)) 2304 ∧ ∀ w', w' = upd s (256 * j + i) (vp_nar .boolean (qg_b b)) → ∀ y, y = nI i + 1 → wY_grow_40 post J (nI j) rc n y kd fp sq ow w' aa) := by
      intro b hb
      refine ⟨vp_in_nI (by omega) (by decide), nm_e (nm_r (nI_1 i) (hn _ ⟨?_, ?_⟩))⟩
      · intro k x hk hk8 hx
        rw [pk_un (by omega)]
        exact hI.1 k x hk hk8 hx
      · intro x hx
        by_cases z : x = i
        · rw [z, pk_us, qg_nar, hb]
        · rw [pk_un (by omega)]
          exact hI.2 x (by omega)
    have c1 : (nI (256 * (j + 1) + i)).toNatClampNeg = 256 * (j + 1) + i := nI_clamp (by omega)
    have c2 : (nI (256 * (j + 1) + (i + 2 ^ j))).toNatClampNeg = 256 * (j + 1) + (i + 2 ^ j) := nI_clamp (by omega)
    have c3 : (nI (256 * j + i)).toNatClampNeg = 256 * j + i := nI_clamp (by omega)
    have c4 : (nI j).toNatClampNeg = j := nI_clamp (by omega)
    refine br_f ?_ ?_
    · rw [qg_1s j (by omega)]
      exact nI_ge hi (by omega)
    rw [qg_or hj hi, e1, e2, e3, c1, c2, c3, c4]
    refine ⟨vp_in_nI (by omega) (by decide), nm_r r1 ⟨vp_in_nI (by omega) (by decide), nm_r r2 ⟨vp_in_nI hj (by decide), ?_⟩⟩⟩
    have hV := qg_Vk (own := ow) (H := H) (x := i) hj
    by_cases z : ow j = 0
    · rw [if_pos z] at hV
      refine br_t z ?_
      cases hA : qg_V ow H (j + 1) i with
      | true => exact br_f (by decide) (leaf true (by rw [hV, hA]; rfl))
      | false =>
        cases hB : qg_V ow H (j + 1) (i + 2 ^ j) with
        | true => exact br_t rfl (br_f (by decide) (leaf true (by rw [hV, hA, hB]; rfl)))
        | false => exact br_t rfl (br_t rfl (leaf false (by rw [hV, hA, hB]; rfl)))
    · rw [if_neg z] at hV
      refine br_f z ?_
      cases hA : qg_V ow H (j + 1) i with
      | false => exact br_t rfl (leaf false (by rw [hV, hA]; rfl))
      | true =>
        cases hB : qg_V ow H (j + 1) (i + 2 ^ j) with
        | true => exact br_f (by decide) (br_f (by decide) (leaf true (by rw [hV, hA, hB]; rfl)))
        | false => exact br_f (by decide) (br_t rfl (leaf false (by rw [hV, hA, hB]; rfl)))
theorem qg_Y_grow34 {post : SY → Prop} {H : Nat → Bool} (hT : qg_YT ow H tr 8) (hp : ∀ tr', qg_YT ow H tr' 0 → post (rc, kd, fp, sq, ow, tr', aa)) : ∃ n, wY_grow_34 post rc n 7 kd fp sq ow tr aa := by
  refine ⟨9, pk_loopD (σ := Nat → Int32) (fun n j s => wY_grow_34 post rc n (nI j + (-1)) kd fp sq ow s aa) (fun j s => j ≤ 8 ∧ qg_YT ow H s j) ?_ ?_ 8 tr ⟨Nat.le_refl 8, hT⟩⟩
  · intro n s hI
    exact br_t (by decide) (hp s hI.2)
  · intro n j s hI hn
    show wY_grow_34 post rc (n + 1) (nI (j + 1) + (-1)) kd fp sq ow s aa
    rw [pk_m1]
    have h8 : j + 1 ≤ 8 := hI.1
    exact br_f (nI_pos (by omega)) (qg_Y_grow40 h8 hI.2 (fun tr' h => hn tr' ⟨by omega, h⟩))
theorem qg_Y_grow {post : SY → Prop} {c : Nat} {mask : Int32} (hc : c ≤ 12) (hok : ∀ i, i < c → qg_ok (kd i) (fp i) (sq i)) (hp : ∀ tr', qg_YT ow (qg_H kd fp sq c mask) tr' 0 → post ((nI c), kd, fp, sq, ow, tr', aa)) : wpY_grow post ((nI c), kd, fp, sq, ow, tr, aa) mask := by
  unfold wpY_grow
  dsimp only
  refine pk_loop (σ := Nat → Int32) (fun n i s => wY_grow_2 post mask (nI c) n (nI i) kd fp sq ow s aa) (fun i s => ∀ x, x < i → s (2048 + x) = qg_b (qg_H kd fp sq c mask x)) 256 0 tr (Nat.zero_le _) (fun x hx => absurd hx (Nat.not_lt_zero x)) ?_ ?_
  · intro n s hI
    refine br_t (by decide) (qg_Y_grow34 (H := qg_H kd fp sq c mask) ?_ hp)
    intro k x hk hk8 hx
    have e : k = 8 := by omega
    subst e
    exact hI x hx
  · intro n i s hi hI hn
    refine br_f (nI_ge (b := 256) hi (by decide)) (qg_Y_areKept hc hok ?_)
    have e : 2048 + nI i = nI (2048 + i) := nI_add 2048 i
    rw [e, nI_clamp (show 2048 + i < 2 ^ 31 by omega)]
    refine ⟨vp_in_nI (by omega) (by decide), nm_e (nm_r (nI_1 i) (hn _ ?_))⟩
    intro x hx
    by_cases z : x = i
    · rw [z, pk_us, qg_nar]
    · rw [pk_un (by omega)]
      exact hI x (by omega)
theorem qg_Y_growAll {post : SY → Prop} {c : Nat} (hc : c ≤ 12) (hok : ∀ i, i < c → qg_ok (kd i) (fp i) (sq i)) (hp : ∀ tr', qg_YT ow (qg_H kd fp sq c (qg_all c)) tr' 0 → post ((nI c), kd, fp, sq, ow, tr', aa)) : wpY_growAll post ((nI c), kd, fp, sq, ow, tr, aa) := by
  unfold wpY_growAll wpY_everyRule
  dsimp only
  exact qg_Y_grow (mask := qg_all c) hc hok hp
theorem qg_Y_end {H : Nat → Bool} (hT : qg_YT ow H tr 0) {x : Nat} (hx : x < 256) : tr (2048 + x) = qg_b (H x) := hT 8 x (by omega) (Nat.le_refl 8) hx
theorem qg_Y_best {post : Int32 → Prop} {H : Nat → Bool} {k x : Nat} (hT : qg_YT ow H tr 0) (hk : k < 8) (hx : x < 2 ^ k) (hp : post (qg_ch ow (qg_V ow H) k x)) : wpY_best post (rc, kd, fp, sq, ow, tr, aa) (nI k) (nI x) := by
  have hk2 : 2 ^ (k + 1) = 2 * 2 ^ k := by rw [Nat.pow_succ, Nat.mul_comm]
  have hk3 := qg_p2 (show k + 1 ≤ 8 by omega)
  have e1 : (256 * (nI k + 1)) + nI x = nI (256 * (k + 1) + x) := by
    show (nI 256 * (nI k + 1)) + nI x = _
    rw [nI_1, pk_mul, nI_add]
  have e2 : (256 * (nI k + 1)) + nI (x + 2 ^ k) = nI (256 * (k + 1) + (x + 2 ^ k)) := by
    show (nI 256 * (nI k + 1)) + nI (x + 2 ^ k) = _
    rw [nI_1, pk_mul, nI_add]
  have key : ∀ us : Bool, decide (ow k = 0) = us → wY_best_14 post (nI k) (nI x) (qg_b us) rc kd fp sq ow tr aa := by
    intro us hus
    unfold wY_best_14
    unfold qg_ch at hp
    rw [hus] at hp
    rw [qg_or hk hx, e1, e2, nI_clamp (show 256 * (k + 1) + x < 2 ^ 31 by omega), nI_clamp (show 256 * (k + 1) + (x + 2 ^ k) < 2 ^ 31 by omega), hT (k + 1) x (Nat.zero_le _) (by omega) (by omega), hT (k + 1) (x + 2 ^ k) (Nat.zero_le _) (by omega) (by omega)]
    refine ⟨vp_in_nI (by omega) (by decide), ek_if (qg_b_i _ _) (fun z => ?_) (fun z => ⟨vp_in_nI (by omega) (by decide), ek_if (qg_b_i _ _) (fun y => ?_) (fun y => ?_)⟩)⟩
    · rw [if_pos z] at hp
      exact hp
    · rw [if_neg z, if_pos y] at hp
      exact hp
    · rw [if_neg z, if_neg y] at hp
      exact hp
  unfold wpY_best
  dsimp only
  rw [nI_clamp (show k < 2 ^ 31 by omega)]
  refine ⟨vp_in_nI hk (by decide), ?_⟩
  by_cases z : ow k = 0
  · exact br_t z (key true (decide_eq_true z))
  · exact br_f z (key false (decide_eq_false z))
theorem qg_Y_count {post : Int32 → SY → Prop} {c : Nat} (hc : c ≤ 12) (hok : ∀ i, i < c → qg_ok (kd i) (fp i) (sq i)) (hp : ∀ tr', post (nI (qg_cnt (qg_H kd fp sq c (qg_all c)) 256)) ((nI c), kd, fp, sq, ow, tr', aa)) : wpY_count post ((nI c), kd, fp, sq, ow, tr, aa) := by
  unfold wpY_count wpY_countEnds
  dsimp only
  refine qg_Y_growAll hc hok (fun tr' hT => ?_)
  refine pk_loop (σ := Unit) (fun n i _ => wY_countEnds_4 (fun r => post r ((nI c), kd, fp, sq, ow, tr', aa)) (nI c) kd fp sq ow tr' aa n (nI (qg_cnt (qg_H kd fp sq c (qg_all c)) i)) (nI i)) (fun _ _ => True) 256 0 () (Nat.zero_le _) trivial ?_ ?_
  · intro n _ _
    exact br_t (by decide) (hp tr')
  · intro n i _ hi _ hn
    refine br_f (nI_ge (b := 256) hi (by decide)) ?_
    have e0 : 2048 + nI i = nI (2048 + i) := nI_add 2048 i
    rw [e0, nI_clamp (show 2048 + i < 2 ^ 31 by omega), qg_Y_end hT hi]
    have e : qg_cnt (qg_H kd fp sq c (qg_all c)) (i + 1) = qg_cnt (qg_H kd fp sq c (qg_all c)) i + (if qg_H kd fp sq c (qg_all c) i = true then 1 else 0) := rfl
    have h := hn () trivial
    refine ⟨vp_in_nI (by omega) (by decide), ?_⟩
    cases hz : qg_H kd fp sq c (qg_all c) i with
    | false =>
      rw [e, hz, if_neg (by decide), Nat.add_zero] at h
      exact br_t rfl (nm_r (nI_1 i) h)
    | true =>
      rw [e, hz, if_pos rfl] at h
      exact br_f (by decide) (nm_r (nI_1 _) (nm_r (nI_1 i) h))
theorem qg_Y_idle {post : Int32 → SY → Prop} {c : Nat} (hc : c ≤ 12) (hok : ∀ i, i < c → qg_ok (kd i) (fp i) (sq i)) (hp : ∀ tr', post (qg_set (qg_I (qg_H kd fp sq c (qg_all c))) 8) ((nI c), kd, fp, sq, ow, tr', aa)) : wpY_idle post ((nI c), kd, fp, sq, ow, tr, aa) := by
  unfold wpY_idle
  dsimp only
  refine qg_Y_growAll hc hok (fun tr' hT => ?_)
  refine pk_loop (σ := Unit) (fun n v _ => wY_idle_8 post (nI c) kd fp sq ow tr' aa n (qg_set (qg_I (qg_H kd fp sq c (qg_all c))) v) (nI v)) (fun _ _ => True) 8 0 () (Nat.zero_le _) trivial ?_ ?_
  · intro n _ _
    exact br_t (by decide) (hp tr')
  · intro n v _ hv _ hn
    refine br_f (nI_ge (b := 8) hv (by decide)) ?_
    have h := hn () trivial
    have e : qg_set (qg_I (qg_H kd fp sq c (qg_all c))) (v + 1) = if qg_I (qg_H kd fp sq c (qg_all c)) v = true then qg_set (qg_I (qg_H kd fp sq c (qg_all c))) v ||| ((1 : Int32) <<< (nI v &&& 31)) else qg_set (qg_I (qg_H kd fp sq c (qg_all c))) v := rfl
    refine pk_loop (σ := Unit) (fun n2 j _ => wY_idle_19 post (wY_idle_8 post (nI c) kd fp sq ow tr' aa n) (qg_set (qg_I (qg_H kd fp sq c (qg_all c))) v) (nI v) (nI c) kd fp sq ow tr' aa n2 (qg_b (qg_eqs j (qg_H kd fp sq c (qg_all c)) (fun x => qg_H kd fp sq c (qg_all c) (x ^^^ 2 ^ v)))) (nI j)) (fun _ _ => True) 256 0 () (Nat.zero_le _) trivial ?_ ?_
    · intro n2 _ _
      refine br_t (by decide) ?_
      have eI : qg_eqs 256 (qg_H kd fp sq c (qg_all c)) (fun x => qg_H kd fp sq c (qg_all c) (x ^^^ 2 ^ v)) = qg_I (qg_H kd fp sq c (qg_all c)) v := rfl
      rw [eI]
      cases hz : qg_I (qg_H kd fp sq c (qg_all c)) v with
      | false =>
        rw [e, hz, if_neg (by decide)] at h
        exact br_t rfl (nm_r (nI_1 v) h)
      | true =>
        rw [e, hz, if_pos rfl] at h
        exact br_f (by decide) (nm_e (nm_r (nI_1 v) h))
    · intro n2 j _ hj _ hn2
      have g := hn2 () trivial
      rw [qg_eqs_s] at g
      refine br_f (nI_ge (b := 256) hj (by decide)) ?_
      have e0 : 2048 + nI j = nI (2048 + j) := nI_add 2048 j
      have e1 : nI j ^^^ ((1 : Int32) <<< (nI v &&& 31)) = nI (j ^^^ 2 ^ v) := by rw [qg_1s v (by omega), nx_xor]
      have hx := qg_xl hj hv
      have e2 : 2048 + nI (j ^^^ 2 ^ v) = nI (2048 + (j ^^^ 2 ^ v)) := nI_add 2048 _
      rw [e1, e0, e2, nI_clamp (show 2048 + j < 2 ^ 31 by omega), nI_clamp (show 2048 + (j ^^^ 2 ^ v) < 2 ^ 31 by omega), qg_Y_end hT hj, qg_Y_end hT hx]
      refine ⟨vp_in_nI (by omega) (by decide), vp_in_nI (by omega) (by decide), ek_if (qg_b_i _ _) (fun z => ?_) (fun z => ?_)⟩
      · rw [if_pos z] at g
        exact nm_r (nI_1 j) g
      · rw [if_neg z] at g
        exact nm_r (nI_1 j) g
end
