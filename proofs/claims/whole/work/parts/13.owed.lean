/-! what is owed -/
/-- the two states hold the same rules and owners; the rules are good ones; sizes and columns are what the constructor filled in; the way is one of three -/
def i_Rel (_ : Nat) (u : SX) (v : SY) : Prop := ∃ (c : Nat) (cw ak : Int32) (ow kd fp sq sz wn : Nat → Int32) (co ho fo al : Nat → Int64) (tr aa : Nat → Int32), qg_Inv c kd fp sq sz co ∧ qg_cw cw ∧ u = ((nI c), cw, ak, ow, kd, fp, sq, sz, wn, co, ho, fo, al) ∧ v = ((nI c), kd, fp, sq, ow, tr, aa)
theorem i_up {k : Nat} {u : SX} {v : SY} (h : i_Rel k u v) : i_Rel (k + 4) u v := h
theorem qg_rel {k c : Nat} {cw ak : Int32} {ow kd fp sq sz wn tr aa : Nat → Int32} {co ho fo al : Nat → Int64} (hI : qg_Inv c kd fp sq sz co) (hw : qg_cw cw) : i_Rel k ((nI c), cw, ak, ow, kd, fp, sq, sz, wn, co, ho, fo, al) ((nI c), kd, fp, sq, ow, tr, aa) := ⟨c, cw, ak, ow, kd, fp, sq, sz, wn, co, ho, fo, al, tr, aa, hI, hw, rfl, rfl⟩
theorem i_vc0 : wpX_init (fun u => wpY_init (fun v => i_Rel 0 u v)) :=
  qg_X_init (fun sz' co' h1 h2 => qg_rel (k := 0) (c := 0) (cw := 2) ⟨by decide, fun i hi => absurd hi (Nat.not_lt_zero i), h1, h2⟩ (Or.inr (Or.inr rfl)))
theorem i_vc_give {k : Nat} {u : SX} {v : SY} (I : i_Rel k u v) (hk : k + 4 ≤ 2048) (v1 : Int32) (v2 : Int32) : wpX_give (fun r u' => wpY_give (fun r' v' => r' = r ∧ i_Rel (k + 4) u' v') v v1 v2) u v1 v2 := by
  obtain ⟨c, cw, ak, ow, kd, fp, sq, sz, wn, co, ho, fo, al, tr, aa, hI, hw, rfl, rfl⟩ := I
  have no : (v1 < 0 ∨ nI 7 < v1) ∨ (v2 < 0 ∨ nI 1 < v2) → wpY_give (fun r' v' => r' = 0 ∧ i_Rel (k + 4) ((nI c), cw, ak, ow, kd, fp, sq, sz, wn, co, ho, fo, al) v') ((nI c), kd, fp, sq, ow, tr, aa) v1 v2 := by
    intro h
    unfold wpY_give
    dsimp only
    refine qg_Y_in (fun a b => br_f (by decide) (qg_Y_in (fun d e => ?_) (fun _ => br_t rfl ⟨rfl, qg_rel hI hw⟩))) (fun _ => br_t rfl ⟨rfl, qg_rel hI hw⟩)
    rcases h with (h | h) | (h | h)
    · exact absurd h a
    · exact absurd h b
    · exact absurd h d
    · exact absurd h e
  unfold wpX_give
  dsimp only
  refine br_c (fun a => no (Or.inl (Or.inl a))) (fun a => br_c (fun b => no (Or.inl (Or.inr ?_))) (fun b => br_c (fun d => no (Or.inr (Or.inl d))) (fun d => br_c (fun e => ?_) (fun e => no (Or.inr (Or.inr ?_))))))
  · obtain ⟨j, hj, rfl⟩ := nI_of a
    have h : nI 8 ≤ nI j := b
    rw [nI_leI (by decide) hj] at h
    exact nI_lt (by omega) hj
  · obtain ⟨j, hj, rfl⟩ := nI_of a
    obtain ⟨s, hs, rfl⟩ := nI_of d
    have h : ¬ nI 8 ≤ nI j := b
    have h2 : nI s ≤ nI 1 := e
    rw [nI_leI (by decide) hj] at h
    rw [nI_leI hs (by decide)] at h2
    have v8 : vp_in (nI j) 8 := vp_in_nI (by omega) (by decide)
    rw [nI_clamp hj]
    refine ⟨v8, nm_e ?_⟩
    unfold wpY_give
    dsimp only
    rw [nI_clamp hj]
    refine qg_Y_rg 7 (by decide) (fun _ _ _ => br_f (by decide) (qg_Y_rg 1 (by decide) (fun _ _ _ => br_f (by decide) ⟨v8, nm_e ⟨rfl, qg_rel hI hw⟩⟩) (fun z => ?_))) (fun z => ?_)
    · exact absurd ⟨s, rfl, by omega⟩ z
    · exact absurd ⟨j, rfl, by omega⟩ z
  · obtain ⟨s, hs, rfl⟩ := nI_of d
    have h2 : ¬ nI s ≤ nI 1 := e
    rw [nI_leI hs (by decide)] at h2
    exact nI_lt (by omega) hs
theorem i_vc_rule {k : Nat} {u : SX} {v : SY} (I : i_Rel k u v) (hk : k + 4 ≤ 2048) (v1 : Int32) (v2 : Int32) (v3 : Int32) : wpX_rule (fun r u' => wpY_rule (fun r' v' => r' = r ∧ i_Rel (k + 4) u' v') v v1 v2 v3) u v1 v2 v3 := by
  obtain ⟨c, cw, ak, ow, kd, fp, sq, sz, wn, co, ho, fo, al, tr, aa, hI, hw, rfl, rfl⟩ := I
  have hc := hI.1
  unfold wpX_rule
  dsimp only
  by_cases h12 : c < 12
  · refine br_t (nI_lt (b := 12) h12 (by decide)) (qg_X_isRule hI.2.2.1 (fun g => br_f (by decide) ?_) (fun g => br_t rfl ?_))
    · have v12 : vp_in (nI c) 12 := vp_in_nI h12 (by decide)
      rw [nI_clamp (show c < 2 ^ 31 by omega)]
      refine ⟨v12, nm_e ⟨v12, nm_e ⟨v12, nm_e (nm_r (nI_1 c) (qg_Y_rule h12 (fun _ => ⟨rfl, ?_⟩) (fun z => absurd g z)))⟩⟩⟩
      refine qg_rel (c := c + 1) ⟨h12, fun i hi => ?_, hI.2.2.1, hI.2.2.2⟩ hw
      by_cases z : i = c
      · subst z
        rw [pk_us, pk_us, pk_us]
        exact qg_gd_ok g
      · rw [pk_un z, pk_un z, pk_un z]
        exact hI.2.1 i (by omega)
    · exact qg_Y_rule h12 (fun z => absurd z g) (fun _ => ⟨rfl, qg_rel hI hw⟩)
  · have e : c = 12 := by omega
    subst e
    refine br_f (by decide) ?_
    unfold wpY_rule
    dsimp only
    exact br_t rfl ⟨rfl, qg_rel hI hw⟩
theorem i_vc_drop {k : Nat} {u : SX} {v : SY} (I : i_Rel k u v) (hk : k + 4 ≤ 2048) (v1 : Int32) : wpX_drop (fun r u' => wpY_drop (fun r' v' => r' = r ∧ i_Rel (k + 4) u' v') v v1) u v1 := by
  obtain ⟨c, cw, ak, ow, kd, fp, sq, sz, wn, co, ho, fo, al, tr, aa, hI, hw, rfl, rfl⟩ := I
  have hc := hI.1
  unfold wpX_drop
  dsimp only
  refine br_c (fun a => ?_) (fun a => br_c (fun b => ?_) (fun b => ?_))
  · unfold wpY_drop
    dsimp only
    exact br_t a ⟨rfl, qg_rel hI hw⟩
  · obtain ⟨i, hi, rfl⟩ := nI_of a
    have h := b
    rw [nI_ltI hi (by omega)] at h
    refine qg_X_drop hc h ?_
    unfold wpY_drop
    dsimp only
    refine br_f a (br_t b (qg_Y_drop hc h ⟨rfl, qg_rel (c := c - 1) ⟨by omega, fun j hj => qg_sh_ok hI.2.1 (by omega), hI.2.2.1, hI.2.2.2⟩ hw⟩))
  · unfold wpY_drop
    dsimp only
    exact br_f a (br_f b ⟨rfl, qg_rel hI hw⟩)
theorem i_vc_holds {k : Nat} {u : SX} {v : SY} (I : i_Rel k u v) (hk : k + 4 ≤ 2048) (v1 : Int32) : wpX_holds (fun r u' => wpY_holds (fun r' => r' = r ∧ i_Rel (k + 4) u' v) v v1) u v1 := by
  obtain ⟨c, cw, ak, ow, kd, fp, sq, sz, wn, co, ho, fo, al, tr, aa, hI, hw, rfl, rfl⟩ := I
  unfold wpX_holds
  dsimp only
  refine qg_X_isSet (fun n e hn => br_f (by decide) ?_) (fun z => br_t rfl ?_)
  · subst e
    refine qg_X_askAll hI hw (fun wn' ho' al' hR => qg_X_rh hI hw hR hn ⟨qg_narrow _, ?_⟩)
    unfold wpY_holds wpY_everyRule
    dsimp only
    refine qg_Y_rg 255 (by decide) (fun _ _ _ => br_f (by decide) ?_) (fun z => absurd ⟨n, rfl, hn⟩ z)
    exact qg_Y_areKept (mask := qg_all c) hI.1 hI.2.1 ⟨qg_narrow _, rfl, qg_rel hI hw⟩
  · unfold wpY_holds
    dsimp only
    exact qg_Y_rg 255 (by decide) (fun n e hn => absurd ⟨n, e, hn⟩ z) (fun _ => br_t rfl ⟨rfl, qg_rel hI hw⟩)
theorem i_vc_won {k : Nat} {u : SX} {v : SY} (I : i_Rel k u v) (hk : k + 4 ≤ 2048) (v1 : Int32) (v2 : Int32) : wpX_won (fun r u' => wpY_won (fun r' v' => r' = r ∧ i_Rel (k + 4) u' v') v v1 v2) u v1 v2 := by
  obtain ⟨c, cw, ak, ow, kd, fp, sq, sz, wn, co, ho, fo, al, tr, aa, hI, hw, rfl, rfl⟩ := I
  unfold wpX_won
  dsimp only
  refine qg_X_isStart (fun hs => br_f (by decide) ?_) (fun hs => br_t rfl ?_)
  · have hs' := hs
    obtain ⟨j, x, rfl, rfl, hj, hx⟩ := hs'
    have hj2 := qg_p2 hj
    refine qg_X_askAll hI hw (fun wn' ho' al' hR => qg_X_win hI hw hR hj hx (fun fo' => ?_))
    have key : ∀ b : Bool, qg_V ow (qg_H kd fp sq c (qg_all c)) j x = b → wpY_won (fun r' v' => r' = qg_b b ∧ i_Rel (k + 4) ((nI c), cw, (qg_all c), ow, kd, fp, sq, sz, wn', co, ho', fo', al') v') ((nI c), kd, fp, sq, ow, tr, aa) (nI j) (nI x) := by
      intro b hb
      refine qg_Y_won hI.1 hI.2.1 (fun j' x' tr' e1 e2 h1 h2 => ⟨?_, qg_rel hI hw⟩) (fun z => absurd hs z)
      have hj3 := qg_p2 h1
      have a1 : j = j' := (nI_eq (by omega) (by omega)).mp e1
      have a2 : x = x' := (nI_eq (by omega) (by omega)).mp e2
      subst a1 a2
      rw [hb]
    cases hz : qg_V ow (qg_H kd fp sq c (qg_all c)) j x with
    | false => exact br_t rfl (key false hz)
    | true => exact br_f (by decide) (key true hz)
  · exact qg_Y_won hI.1 hI.2.1 (fun j x tr' e1 e2 h1 h2 => absurd ⟨j, x, e1, e2, h1, h2⟩ hs) (fun _ => ⟨rfl, qg_rel hI hw⟩)
theorem i_vc_move {k : Nat} {u : SX} {v : SY} (I : i_Rel k u v) (hk : k + 4 ≤ 2048) (v1 : Int32) (v2 : Int32) : wpX_move (fun r u' => wpY_move (fun r' v' => r' = r ∧ i_Rel (k + 4) u' v') v v1 v2) u v1 v2 := by
  obtain ⟨c, cw, ak, ow, kd, fp, sq, sz, wn, co, ho, fo, al, tr, aa, hI, hw, rfl, rfl⟩ := I
  have no : ¬ qg_st v1 v2 7 → wpY_move (fun r' v' => r' = (-1) ∧ i_Rel (k + 4) ((nI c), cw, ak, ow, kd, fp, sq, sz, wn, co, ho, fo, al) v') ((nI c), kd, fp, sq, ow, tr, aa) v1 v2 := fun hs => qg_Y_move hI.1 hI.2.1 (fun j x tr' e1 e2 h1 h2 => absurd ⟨j, x, e1, e2, h1, h2⟩ hs) (fun _ => ⟨rfl, qg_rel hI hw⟩)
  unfold wpX_move
  dsimp only
  refine br_c (fun z => no ?_) (fun z => qg_X_isStart (fun hs => br_f (by decide) ?_) (fun hs => br_t rfl (no ?_)))
  · rintro ⟨j, x, rfl, _, hj, _⟩
    have h : nI j = nI 8 := z
    rw [nI_eq (by omega) (by decide)] at h
    omega
  · obtain ⟨j, x, rfl, rfl, hj, hx⟩ := hs
    have hj7 : j ≤ 7 := by
      have h : ¬ nI j = nI 8 := z
      rw [nI_eq (by omega) (by decide)] at h
      omega
    have hj2 := qg_p2 hj
    refine qg_X_askAll hI hw (fun wn' ho' al' hR => qg_X_choice hI hw hR (by omega) hx (fun fo' => ?_))
    refine qg_Y_move hI.1 hI.2.1 (fun j' x' tr' e1 e2 h1 h2 => ⟨?_, qg_rel hI hw⟩) (fun y => absurd ⟨j, x, rfl, rfl, hj7, hx⟩ y)
    have hj3 := qg_p2 (show j' ≤ 8 by omega)
    have a1 : j = j' := (nI_eq (by omega) (by omega)).mp e1
    have a2 : x = x' := (nI_eq (by omega) (by omega)).mp e2
    subst a1 a2
    rfl
  · rintro ⟨j, x, e1, e2, hj, hx⟩
    exact hs ⟨j, x, e1, e2, by omega, hx⟩
theorem i_vc_count {k : Nat} {u : SX} {v : SY} (I : i_Rel k u v) (hk : k + 4 ≤ 2048) : wpX_count (fun r u' => wpY_count (fun r' v' => r' = r ∧ i_Rel (k + 4) u' v') v) u := by
  obtain ⟨c, cw, ak, ow, kd, fp, sq, sz, wn, co, ho, fo, al, tr, aa, hI, hw, rfl, rfl⟩ := I
  exact qg_X_count hI hw (fun ak' wn' ho' al' => qg_Y_count hI.1 hI.2.1 (fun tr' => ⟨rfl, qg_rel hI hw⟩))
theorem i_vc_idle {k : Nat} {u : SX} {v : SY} (I : i_Rel k u v) (hk : k + 4 ≤ 2048) : wpX_idle (fun r u' => wpY_idle (fun r' v' => r' = r ∧ i_Rel (k + 4) u' v') v) u := by
  obtain ⟨c, cw, ak, ow, kd, fp, sq, sz, wn, co, ho, fo, al, tr, aa, hI, hw, rfl, rfl⟩ := I
  exact qg_X_idle hI hw (fun ak' wn' ho' al' => qg_Y_idle hI.1 hI.2.1 (fun tr' => ⟨rfl, qg_rel hI hw⟩))
theorem i_vc_openings {k : Nat} {u : SX} {v : SY} (I : i_Rel k u v) (hk : k + 4 ≤ 2048) : wpX_openings (fun r u' => wpY_openings (fun r' v' => r' = r ∧ i_Rel (k + 4) u' v') v) u := by
  obtain ⟨c, cw, ak, ow, kd, fp, sq, sz, wn, co, ho, fo, al, tr, aa, hI, hw, rfl, rfl⟩ := I
  exact qg_X_openings hI hw (fun ak' wn' ho' fo' al' => qg_Y_openings hI.1 hI.2.1 (fun tr' => ⟨rfl, qg_rel hI hw⟩))
theorem i_vc_blame {k : Nat} {u : SX} {v : SY} (I : i_Rel k u v) (hk : k + 4 ≤ 2048) : wpX_blame (fun r u' => wpY_blame (fun r' v' => r' = r ∧ i_Rel (k + 4) u' v') v) u := by
  obtain ⟨c, cw, ak, ow, kd, fp, sq, sz, wn, co, ho, fo, al, tr, aa, hI, hw, rfl, rfl⟩ := I
  exact qg_X_blame hI hw (fun ak' wn' ho' fo' al' => qg_Y_blame hI.1 hI.2.1 (fun tr' => ⟨rfl, qg_rel hI hw⟩))
theorem i_vc_decided {k : Nat} {u : SX} {v : SY} (I : i_Rel k u v) (hk : k + 4 ≤ 2048) : wpX_decided (fun r u' => wpY_decided (fun r' v' => r' = r ∧ i_Rel (k + 4) u' v') v) u := by
  obtain ⟨c, cw, ak, ow, kd, fp, sq, sz, wn, co, ho, fo, al, tr, aa, hI, hw, rfl, rfl⟩ := I
  exact qg_X_decided hI hw (fun ak' wn' ho' fo' al' => qg_Y_decided hI.1 hI.2.1 (fun tr' => ⟨rfl, qg_rel hI hw⟩))
theorem i_vc_needless {k : Nat} {u : SX} {v : SY} (I : i_Rel k u v) (hk : k + 4 ≤ 2048) : wpX_needless (fun r u' => wpY_needless (fun r' v' => r' = r ∧ i_Rel (k + 4) u' v') v) u := by
  obtain ⟨c, cw, ak, ow, kd, fp, sq, sz, wn, co, ho, fo, al, tr, aa, hI, hw, rfl, rfl⟩ := I
  exact qg_X_needless hI hw (fun ak' wn' ho' al' => qg_Y_needless hI.1 hI.2.1 (fun tr' aa' => ⟨rfl, qg_rel hI hw⟩))
theorem i_vc_way {k : Nat} {u : SX} {v : SY} (I : i_Rel k u v) (hk : k + 4 ≤ 2048) (v1 : Int32) : wpX_way (fun r u' => wpY_way (fun r' => r' = r ∧ i_Rel (k + 4) u' v) v v1) u v1 := by
  obtain ⟨c, cw, ak, ow, kd, fp, sq, sz, wn, co, ho, fo, al, tr, aa, hI, hw, rfl, rfl⟩ := I
  unfold wpX_way wpY_way
  dsimp only
  refine br_c (fun a => ?_) (fun a => br_c (fun b => ?_) (fun b => ?_))
  · exact qg_Y_in (fun z _ => absurd a z) (fun _ => ⟨qg_narrow false, rfl, qg_rel hI hw⟩)
  · obtain ⟨j, hj, rfl⟩ := nI_of a
    have h : nI j ≤ nI 2 := b
    rw [nI_leI hj (by decide)] at h
    refine qg_Y_rg 2 (by decide) (fun _ _ _ => ⟨qg_narrow true, rfl, qg_rel hI ?_⟩) (fun z => absurd ⟨j, rfl, by omega⟩ z)
    have h3 : j = 0 ∨ j = 1 ∨ j = 2 := by omega
    rcases h3 with rfl | rfl | rfl
    · exact Or.inl rfl
    · exact Or.inr (Or.inl rfl)
    · exact Or.inr (Or.inr rfl)
  · obtain ⟨j, hj, rfl⟩ := nI_of a
    have h : ¬ nI j ≤ nI 2 := b
    rw [nI_leI hj (by decide)] at h
    exact qg_Y_rg 2 (by decide) (fun Q e hQ => absurd ((nI_eq hj (by omega)).mp e) (by omega)) (fun _ => ⟨qg_narrow false, rfl, qg_rel hI hw⟩)
