/-! rule and drop -/
theorem qg_rng {x : Int32} {M : Nat} (hM : M < 2 ^ 31) (a : ¬ x < 0) (b : ¬ nI M < x) : ∃ Q, x = nI Q ∧ Q < M + 1 := by
  obtain ⟨Q, hQ, rfl⟩ := nI_of a
  rw [nI_ltI hM hQ] at b
  exact ⟨Q, rfl, by omega⟩
theorem qg_rngN {x : Int32} {M : Nat} (hM : M < 2 ^ 31 - 1) (h : x < 0 ∨ nI M < x) : ¬ ∃ Q, x = nI Q ∧ Q < M + 1 := by
  rintro ⟨Q, rfl, hQ⟩
  rcases h with h | h
  · exact absurd h (nI_pos (by omega))
  · exact absurd h (nI_nlt (by omega) (by omega))
theorem qg_Y_rg {post : Int32 → Prop} {u : SY} {x : Int32} (M : Nat) (hM : M < 2 ^ 31 - 1) (h1 : ∀ Q, x = nI Q → Q < M + 1 → post 1) (h0 : (¬ ∃ Q, x = nI Q ∧ Q < M + 1) → post 0) : wpY_in post u x 0 (nI M) :=
  qg_Y_in (fun a b => by
    obtain ⟨Q, e, hQ⟩ := qg_rng (by omega) a b
    exact h1 Q e hQ) (fun z => h0 (qg_rngN hM z))
theorem qg_X_isSet {post : Int32 → Prop} {x : Int32} (h1 : ∀ n, x = nI n → n < 256 → post 1) (h0 : (¬ ∃ n, x = nI n ∧ n < 256) → post 0) : wpX_isSet post x := by
  unfold wpX_isSet
  refine br_c (fun a => h0 ?_) (fun a => br_c (fun b => h0 ?_) (fun b => ?_))
  · rintro ⟨n, rfl, hn⟩
    exact absurd a (nI_pos (by omega))
  · rintro ⟨n, rfl, hn⟩
    exact absurd b (nI_ge (b := 256) hn (by decide))
  · obtain ⟨n, hn, rfl⟩ := nI_of a
    have h : ¬ nI 256 ≤ nI n := b
    rw [nI_leI (by decide) hn] at h
    exact h1 n rfl (by omega)
def qg_gd (v1 v2 v3 : Int32) : Prop := ∃ K P, v1 = nI K ∧ v2 = nI P ∧ K < 4 ∧ P < 256 ∧ (K = 0 → ∃ Q, v3 = nI Q ∧ Q < 256) ∧ (K = 1 → (∃ Q, v3 = nI Q ∧ Q < 2) ∧ qg_pop P 8 ≤ 4) ∧ (K = 2 → (∃ Q, v3 = nI Q ∧ Q < 5) ∧ qg_pop P 8 ≤ 5)
theorem qg_gd_i {K P : Nat} {v3 : Int32} (hK : K < 4) (hP : P < 256) : qg_gd (nI K) (nI P) v3 ↔ ((K = 0 → ∃ Q, v3 = nI Q ∧ Q < 256) ∧ (K = 1 → (∃ Q, v3 = nI Q ∧ Q < 2) ∧ qg_pop P 8 ≤ 4) ∧ (K = 2 → (∃ Q, v3 = nI Q ∧ Q < 5) ∧ qg_pop P 8 ≤ 5)) := by
  constructor
  · rintro ⟨K', P', e1, e2, h1, h2, h⟩
    have a : K = K' := (nI_eq (by omega) (by omega)).mp e1
    have b : P = P' := (nI_eq (by omega) (by omega)).mp e2
    subst a b
    exact h
  · exact fun h => ⟨K, P, rfl, rfl, hK, hP, h⟩
theorem qg_gd_ok {v1 v2 v3 : Int32} (h : qg_gd v1 v2 v3) : qg_ok v1 v2 v3 := by
  obtain ⟨K, P, rfl, rfl, hK, hP, h0, h1, h2⟩ := h
  rcases qg_four hK with rfl | rfl | rfl | rfl
  · obtain ⟨Q, rfl, hQ⟩ := h0 rfl
    exact ⟨0, P, Q, rfl, rfl, rfl, hK, hP, by omega, fun _ => hQ, fun z => by omega, fun z => by omega⟩
  · obtain ⟨⟨Q, rfl, hQ⟩, _⟩ := h1 rfl
    exact ⟨1, P, Q, rfl, rfl, rfl, hK, hP, by omega, fun z => by omega, fun _ => hQ, fun z => by omega⟩
  · obtain ⟨⟨Q, rfl, hQ⟩, _⟩ := h2 rfl
    exact ⟨2, P, Q, rfl, rfl, rfl, hK, hP, by omega, fun z => by omega, fun z => by omega, fun _ => hQ⟩
  · obtain ⟨Q, hQ, rfl⟩ := wb_of32 v3
    exact ⟨3, P, Q, rfl, rfl, rfl, hK, hP, hQ, fun z => by omega, fun z => by omega, fun z => by omega⟩
section
variable {rc cw ak : Int32} {ow kd fp sq sz wn tr aa : Nat → Int32} {co ho fo al : Nat → Int64}
theorem qg_X_isRule {post : Int32 → Prop} {v1 v2 v3 : Int32} (hsz : ∀ s, s < 256 → sz s = nI (qg_pop s 8)) (h1 : qg_gd v1 v2 v3 → post 1) (h0 : ¬ qg_gd v1 v2 v3 → post 0) : wpX_isRule post (rc, cw, ak, ow, kd, fp, sq, sz, wn, co, ho, fo, al) v1 v2 v3 := by
  unfold wpX_isRule
  dsimp only
  refine qg_X_isSet (fun P eP hP => ?_) (fun z => br_t rfl (h0 ?_))
  · subst eP
    have hpl := qg_pop_le P 8
    have cP : (nI P).toNatClampNeg = P := nI_clamp (by omega)
    have vP : vp_in (nI P) 256 := vp_in_nI hP (by decide)
    refine br_f (by decide) (br_c (fun a => h0 ?_) (fun a => br_c (fun b => h0 ?_) (fun b => ?_)))
    · rintro ⟨K, P', rfl, _, hK, _⟩
      exact absurd a (nI_pos (by omega))
    · rintro ⟨K, P', rfl, _, hK, _⟩
      exact absurd b (nI_nlt (a := 3) (by omega) (by decide))
    · obtain ⟨K, rfl, hK⟩ := qg_rng (M := 3) (by decide) a b
      rw [qg_gd_i hK hP] at h1 h0
      rw [cP, hsz P hP]
      rcases qg_four hK with rfl | rfl | rfl | rfl
      · refine br_t rfl (qg_X_isSet (fun Q eQ hQ => ⟨qg_narrow true, h1 ⟨fun _ => ⟨Q, eQ, hQ⟩, fun z => by omega, fun z => by omega⟩⟩) (fun z => ⟨qg_narrow false, h0 (fun h => z (h.1 rfl))⟩))
      · refine br_f (by decide) (br_t (by decide) (br_c (fun d => h0 (fun h => qg_rngN (M := 1) (by decide) (Or.inl d) (h.2.1 rfl).1)) (fun d => br_c (fun e => h0 (fun h => qg_rngN (M := 1) (by decide) (Or.inr e) (h.2.1 rfl).1)) (fun e => ⟨vP, ?_⟩))))
        refine ek_if (nI_ltI (a := 4) (by decide) (by omega)) (fun y => h0 (fun h => ?_)) (fun y => h1 ⟨fun z => by omega, fun _ => ⟨qg_rng (M := 1) (by decide) d e, by omega⟩, fun z => by omega⟩)
        have h3 := (h.2.1 rfl).2
        omega
      · refine br_f (by decide) (br_f (by decide) (br_t (by decide) (br_c (fun d => h0 (fun h => qg_rngN (M := 4) (by decide) (Or.inl d) (h.2.2 rfl).1)) (fun d => br_c (fun e => h0 (fun h => qg_rngN (M := 4) (by decide) (Or.inr e) (h.2.2 rfl).1)) (fun e => ⟨vP, ?_⟩)))))
        refine ek_if (nI_ltI (a := 5) (by decide) (by omega)) (fun y => h0 (fun h => ?_)) (fun y => h1 ⟨fun z => by omega, fun z => by omega, fun _ => ⟨qg_rng (M := 4) (by decide) d e, by omega⟩⟩)
        have h3 := (h.2.2 rfl).2
        omega
      · exact br_f (by decide) (br_f (by decide) (br_f (by decide) (br_t (by decide) (h1 ⟨fun z => by omega, fun z => by omega, fun z => by omega⟩))))
  · rintro ⟨K, P, _, e, _, hP, _⟩
    exact z ⟨P, e, hP⟩
theorem qg_Y_r106 {post : Int32 → SY → Prop} {c : Nat} {v1 v2 v3 : Int32} (hc : c < 12) (h1 : post (nI (c + 1)) (nI (c + 1), upd kd c v1, upd fp c v2, upd sq c v3, ow, tr, aa)) : wY_rule_106 post v1 v2 v3 (nI c) kd fp sq ow tr aa := by
  unfold wY_rule_106
  have v : vp_in (nI c) 12 := vp_in_nI hc (by decide)
  rw [nI_clamp (show c < 2 ^ 31 by omega)]
  exact ⟨v, nm_e ⟨v, nm_e ⟨v, nm_e (nm_r (nI_1 c) h1)⟩⟩⟩
theorem qg_Y_rule {post : Int32 → SY → Prop} {c : Nat} {v1 v2 v3 : Int32} (hc : c < 12) (h1 : qg_gd v1 v2 v3 → post (nI (c + 1)) (nI (c + 1), upd kd c v1, upd fp c v2, upd sq c v3, ow, tr, aa)) (h0 : ¬ qg_gd v1 v2 v3 → post (-1) ((nI c), kd, fp, sq, ow, tr, aa)) : wpY_rule post ((nI c), kd, fp, sq, ow, tr, aa) v1 v2 v3 := by
  unfold wpY_rule
  dsimp only
  refine br_f (fun z => ?_) (qg_Y_rg 3 (by decide) (fun K eK hK => ?_) (fun z => br_t rfl (h0 ?_)))
  · have h : nI c = nI 12 := z
    rw [nI_eq (by omega) (by decide)] at h
    omega
  · refine br_f (by decide) (qg_Y_rg 255 (by decide) (fun P eP hP => ?_) (fun z => br_t rfl (h0 ?_)))
    · subst eK eP
      have hpl := qg_pop_le P 8
      rw [qg_gd_i hK hP] at h1 h0
      refine br_f (by decide) ?_
      rcases qg_four hK with rfl | rfl | rfl | rfl
      · refine br_t rfl (qg_Y_rg 255 (by decide) (fun Q eQ hQ => ?_) (fun z => br_t rfl (h0 (fun h => z (h.1 rfl)))))
        exact br_f (by decide) (br_f (by decide) (br_f (by decide) (qg_Y_r106 hc (h1 ⟨fun _ => ⟨Q, eQ, hQ⟩, fun z => by omega, fun z => by omega⟩))))
      · refine br_f (by decide) (br_t (by decide) (qg_Y_rg 1 (by decide) (fun Q eQ hQ => ?_) (fun z => br_t rfl (h0 (fun h => z (h.2.1 rfl).1)))))
        refine br_f (by decide) (qg_Y_size hP (ek_if (nI_leI (b := 4) (by omega) (by decide)) (fun y => ?_) (fun y => h0 (fun h => y (h.2.1 rfl).2))))
        exact br_f (by decide) (qg_Y_r106 hc (h1 ⟨fun z => by omega, fun _ => ⟨⟨Q, eQ, hQ⟩, y⟩, fun z => by omega⟩))
      · refine br_f (by decide) (br_f (by decide) (br_t (by decide) (qg_Y_rg 4 (by decide) (fun Q eQ hQ => ?_) (fun z => br_t rfl (h0 (fun h => z (h.2.2 rfl).1))))))
        refine br_f (by decide) (qg_Y_size hP (ek_if (nI_leI (b := 5) (by omega) (by decide)) (fun y => ?_) (fun y => h0 (fun h => y (h.2.2 rfl).2))))
        exact qg_Y_r106 hc (h1 ⟨fun z => by omega, fun z => by omega, fun _ => ⟨⟨Q, eQ, hQ⟩, y⟩⟩)
      · exact br_f (by decide) (br_f (by decide) (br_f (by decide) (qg_Y_r106 hc (h1 ⟨fun z => by omega, fun z => by omega, fun z => by omega⟩))))
    · rintro ⟨K, P, _, e, _, hP, _⟩
      exact z ⟨P, e, hP⟩
  · rintro ⟨K, P, e, _, hK, _⟩
    exact z ⟨K, e, hK⟩
/-! drop -/
def qg_sh (f : Nat → Int32) (i : Nat) : Nat → (Nat → Int32)
  | 0 => f
  | d + 1 => upd (qg_sh f i d) (i + d) (qg_sh f i d (i + d + 1))
theorem qg_sh_v (f : Nat → Int32) (i : Nat) : ∀ d j, qg_sh f i d j = if i ≤ j ∧ j < i + d then f (j + 1) else f j
  | 0, j => by rw [if_neg (by omega)]; rfl
  | d + 1, j => by
    show upd (qg_sh f i d) (i + d) (qg_sh f i d (i + d + 1)) j = _
    by_cases z : j = i + d
    · subst z
      rw [pk_us, qg_sh_v f i d (i + d + 1), if_neg (by omega), if_pos (by omega)]
    · rw [pk_un z, qg_sh_v f i d j]
      by_cases y : i ≤ j ∧ j < i + d
      · rw [if_pos y, if_pos (by omega)]
      · rw [if_neg y, if_neg (by omega)]
theorem qg_sh_ok {c i d : Nat} (hok : ∀ j, j < c → qg_ok (kd j) (fp j) (sq j)) {j : Nat} (hj : j + 1 < c) : qg_ok (qg_sh kd i d j) (qg_sh fp i d j) (qg_sh sq i d j) := by
  rw [qg_sh_v, qg_sh_v, qg_sh_v]
  by_cases y : i ≤ j ∧ j < i + d
  · rw [if_pos y, if_pos y, if_pos y]
    exact hok (j + 1) hj
  · rw [if_neg y, if_neg y, if_neg y]
    exact hok j (by omega)
theorem qg_X_drop {post : Int32 → SX → Prop} {c i : Nat} (hc : c ≤ 12) (hi : i < c) (hp : post (nI (c - 1)) (nI (c - 1), cw, ak, ow, qg_sh kd i (c - 1 - i), qg_sh fp i (c - 1 - i), qg_sh sq i (c - 1 - i), sz, wn, co, ho, fo, al)) : ∃ n, wX_drop_16 post (nI c) cw ak n (nI i) ow kd fp sq sz wn co ho fo al := by
  have ec : nI c - 1 = nI (c - 1) := pk_sub (b := 1) (by omega)
  refine pk_loop (σ := Unit) (fun n d _ => wX_drop_16 post (nI c) cw ak n (nI (i + d)) ow (qg_sh kd i d) (qg_sh fp i d) (qg_sh sq i d) sz wn co ho fo al) (fun _ _ => True) (c - 1 - i) 0 () (Nat.zero_le _) trivial ?_ ?_
  · intro n _ _
    have e : i + (c - 1 - i) = c - 1 := by omega
    refine br_t ?_ (nm_r ec hp)
    rw [ec, e]
    exact nI_le (Nat.le_refl _) (by omega)
  · intro n d _ hd _ hn
    have h := hn () trivial
    have e1 : nI (i + d) + 1 = nI (i + d + 1) := nI_1 _
    have v1 : vp_in (nI (i + d + 1)) 12 := vp_in_nI (by omega) (by decide)
    have v0 : vp_in (nI (i + d)) 12 := vp_in_nI (by omega) (by decide)
    refine br_f ?_ ?_
    · rw [ec]
      exact nI_ge (by omega) (by omega)
    · rw [e1, nI_clamp (show i + d + 1 < 2 ^ 31 by omega), nI_clamp (show i + d < 2 ^ 31 by omega)]
      exact ⟨v1, v0, nm_e ⟨v1, v0, nm_e ⟨v1, v0, nm_e (nm_e h)⟩⟩⟩
theorem qg_Y_drop {post : Int32 → SY → Prop} {c i : Nat} (hc : c ≤ 12) (hi : i < c) (hp : post (nI (c - 1)) (nI (c - 1), qg_sh kd i (c - 1 - i), qg_sh fp i (c - 1 - i), qg_sh sq i (c - 1 - i), ow, tr, aa)) : ∃ n, wY_drop_16 post (nI c) n (nI i) kd fp sq ow tr aa := by
  have ec : nI c - 1 = nI (c - 1) := pk_sub (b := 1) (by omega)
  refine pk_loop (σ := Unit) (fun n d _ => wY_drop_16 post (nI c) n (nI (i + d)) (qg_sh kd i d) (qg_sh fp i d) (qg_sh sq i d) ow tr aa) (fun _ _ => True) (c - 1 - i) 0 () (Nat.zero_le _) trivial ?_ ?_
  · intro n _ _
    have e : i + (c - 1 - i) = c - 1 := by omega
    refine br_t ?_ (nm_r ec hp)
    rw [ec, e]
    exact nI_le (Nat.le_refl _) (by omega)
  · intro n d _ hd _ hn
    have h := hn () trivial
    have e1 : nI (i + d) + 1 = nI (i + d + 1) := nI_1 _
    have v1 : vp_in (nI (i + d + 1)) 12 := vp_in_nI (by omega) (by decide)
    have v0 : vp_in (nI (i + d)) 12 := vp_in_nI (by omega) (by decide)
    refine br_f ?_ ?_
    · rw [ec]
      exact nI_ge (by omega) (by omega)
    · rw [e1, nI_clamp (show i + d + 1 < 2 ^ 31 by omega), nI_clamp (show i + d < 2 ^ 31 by omega)]
      exact ⟨v1, v0, nm_e ⟨v1, v0, nm_e ⟨v1, v0, nm_e (nm_e h)⟩⟩⟩
end
