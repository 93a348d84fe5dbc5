/-! what is owed -/
def i_Rel (k : Nat) (u : SX) (v : SY) : Prop := ∃ (H F : Nat) (L D : Nat → Nat) (xl xd yl yd yf yg yj : Nat → Int32), u = (nI H, nI F, xl, xd) ∧ v = (yl, yd, yf, yg, yj) ∧ jb_R H F L D xl xd yl yd yf
theorem i_up {k : Nat} {u : SX} {v : SY} (h : i_Rel k u v) : i_Rel (k + 4) u v := h
theorem jb_rel {k H F : Nat} {L D : Nat → Nat} {xl xd yl yd yf yg yj : Nat → Int32} (h : jb_R H F L D xl xd yl yd yf) : i_Rel k (nI H, nI F, xl, xd) (yl, yd, yf, yg, yj) :=
  ⟨H, F, L, D, xl, xd, yl, yd, yf, yg, yj, rfl, rfl, h⟩
theorem i_vc0 : wpX_init (fun u => wpY_init (fun v => i_Rel 0 u v)) := by
  have z : ∀ i, ¬ (0 : Nat).testBit i = true := fun i h => by rw [Nat.zero_testBit] at h; exact absurd h (by decide)
  have hR : jb_R 0 0 (fun _ => 0) (fun _ => 0) (fun _ => 0) (fun _ => 0) (fun _ => 0) (fun _ => 0) (fun _ => 0) :=
    ⟨by omega, fun i h => h, fun i h => absurd h (z i), fun i _ => ⟨rfl, Nat.zero_le _, fun h => absurd h (z i), fun _ => rfl⟩, fun i h => absurd h (z i), fun i h => absurd h (z i)⟩
  exact jb_rel (k := 0) (yg := fun _ => 0) (yj := fun _ => 0) hR
theorem i_vc_put {k : Nat} {u : SX} {v : SY} (I : i_Rel k u v) (hk : k + 4 ≤ 2048) (v1 : Int32) (v2 : Int32) (v3 : Int32) : wpX_put (fun r u' => wpY_put (fun r' v' => r' = r ∧ i_Rel (k + 4) u' v') v v1 v2 (lw_bz v3)) u v1 v2 (lw_bz v3) := by
  obtain ⟨H, F, L, D, xl, xd, yl, yd, yf, yg, yj, rfl, rfl, hR⟩ := I
  obtain ⟨hH, hF, ha, hl, hd, hf⟩ := id hR
  have hF2 : F < 2048 := Nat.lt_of_le_of_lt (jb_Sub_le hF) (by omega)
  have hb := lw_bz_01 v3
  generalize lw_bz v3 = c at hb ⊢
  unfold wpX_put
  dsimp only
  refine jx_sep hH (fun p hp hall hemp => ?_)
  have hc : (nI p).toNatClampNeg = p := nI_clamp (by omega)
  rcases Nat.lt_or_ge p 10 with h10 | h10
  · refine br_t (nI_lt (b := 10) h10 (by decide)) (jx_isJob (fun hJ => ?_) (fun hJ => ?_))
    · obtain ⟨l, d, rfl, rfl, b1, b2, b3⟩ := jb_J_nat hJ
      refine br_f jb_r1 ⟨vp_in_nI (by omega) (by decide), ?_⟩
      rw [hc]
      refine nm_e ⟨vp_in_nI (by omega) (by decide), nm_e (nm_r (jb_nad (by omega)) ?_)⟩
      refine jx_setFirm hF2 (by omega) ?_
      refine jy_put hl (fun z => absurd (z p h10) (hemp h10)) (fun z => absurd hJ z) (fun _ q hq q1 q2 => ?_)
      have e : q = p := by
        rcases Nat.lt_trichotomy q p with z | z | z
        · exact absurd (hall q z) q1
        · exact z
        · exact absurd (q2 p z) (hemp h10)
      subst e
      exact ⟨rfl, jb_rel (jb_R_put hR h10 hb b1 b2 b3)⟩
    · refine br_t rfl ?_
      exact jy_put hl (fun z => absurd (z p h10) (hemp h10)) (fun _ q hq q1 => ⟨rfl, jb_rel hR⟩) (fun z => absurd z hJ)
  · refine br_f (nI_nlt (b := 10) h10 (by omega)) ?_
    exact jy_put hl (fun _ => ⟨rfl, jb_rel hR⟩) (fun _ q hq q1 => absurd (hall q (by omega)) q1) (fun _ q hq q1 _ => absurd (hall q (by omega)) q1)
theorem i_vc_drop {k : Nat} {u : SX} {v : SY} (I : i_Rel k u v) (hk : k + 4 ≤ 2048) (v1 : Int32) : wpX_drop (fun r u' => wpY_drop (fun r' v' => r' = r ∧ i_Rel (k + 4) u' v') v v1) u v1 := by
  obtain ⟨H, F, L, D, xl, xd, yl, yd, yf, yg, yj, rfl, rfl, hR⟩ := I
  obtain ⟨hH, hF, ha, hl, hd, hf⟩ := id hR
  have hH2 : H < 2048 := by omega
  have hF2 : F < 2048 := Nat.lt_of_le_of_lt (jb_Sub_le hF) hH2
  unfold wpX_drop
  dsimp only
  refine jx_holdsJob hH (fun hA => ?_) (fun hA => br_t rfl ?_)
  · obtain ⟨i, hi, rfl, hb⟩ := id hA
    have hc : (nI i).toNatClampNeg = i := nI_clamp (by omega)
    have hR2 := jb_R_drop (p := i) hR
    have hs : jb_rm H i < 2048 := by have := jb_rm_lt hH2 hb; omega
    refine br_f jb_r1 (nm_r (jb_nrm hH2 (by omega)) (nm_r (jb_nrm hF2 (by omega)) ?_))
    refine jx_sizeOf hs ?_
    unfold wpY_drop
    dsimp only
    refine jy_isJob hl (fun _ => ?_) (fun z => absurd hA z)
    refine br_f jb_r1 ⟨vp_in_nI hi (by decide), ?_⟩
    rw [hc]
    exact nm_e (jy_jobs hR2.2.2.2.1 hR2.1 ⟨rfl, jb_rel hR2⟩)
  · unfold wpY_drop
    dsimp only
    exact jy_isJob hl (fun z => absurd z hA) (fun _ => br_t rfl ⟨rfl, jb_rel hR⟩)
theorem i_vc_makeFirm {k : Nat} {u : SX} {v : SY} (I : i_Rel k u v) (hk : k + 4 ≤ 2048) (v1 : Int32) (v2 : Int32) : wpX_makeFirm (fun r u' => wpY_makeFirm (fun r' v' => r' = r ∧ i_Rel (k + 4) u' v') v v1 (lw_bz v2)) u v1 (lw_bz v2) := by
  obtain ⟨H, F, L, D, xl, xd, yl, yd, yf, yg, yj, rfl, rfl, hR⟩ := I
  obtain ⟨hH, hF, ha, hl, hd, hf⟩ := id hR
  have hF2 : F < 2048 := Nat.lt_of_le_of_lt (jb_Sub_le hF) (by omega)
  have hb2 := lw_bz_01 v2
  generalize lw_bz v2 = c at hb2 ⊢
  unfold wpX_makeFirm
  dsimp only
  refine jx_holdsJob hH (fun hA => ?_) (fun hA => br_t rfl ?_)
  · obtain ⟨i, hi, rfl, hb⟩ := id hA
    have hc : (nI i).toNatClampNeg = i := nI_clamp (by omega)
    refine br_f jb_r1 (jx_setFirm hF2 (by omega) ?_)
    dsimp only
    unfold wpY_makeFirm
    dsimp only
    refine jy_isJob hl (fun _ => ?_) (fun z => absurd hA z)
    refine br_f jb_r1 ⟨vp_in_nI hi (by decide), ?_⟩
    rw [hc]
    exact nm_e ⟨rfl, jb_rel (jb_R_firm hR hb hb2)⟩
  · unfold wpY_makeFirm
    dsimp only
    exact jy_isJob hl (fun z => absurd z hA) (fun _ => br_t rfl ⟨rfl, jb_rel hR⟩)
theorem i_vc_jobs {k : Nat} {u : SX} {v : SY} (I : i_Rel k u v) (hk : k + 4 ≤ 2048) : wpX_jobs (fun r => wpY_jobs (fun r' => r' = r ∧ i_Rel (k + 4) u v) v) u := by
  obtain ⟨H, F, L, D, xl, xd, yl, yd, yf, yg, yj, rfl, rfl, hR⟩ := I
  obtain ⟨hH, hF, ha, hl, hd, hf⟩ := id hR
  unfold wpX_jobs
  dsimp only
  exact jx_sizeOf (by omega) (jy_jobs hl hH ⟨rfl, jb_rel hR⟩)
theorem i_vc_feasible {k : Nat} {u : SX} {v : SY} (I : i_Rel k u v) (hk : k + 4 ≤ 2048) (v1 : Int32) : wpX_feasible (fun r => wpY_feasible (fun r' v' => r' = r ∧ i_Rel (k + 4) u v') v v1) u v1 := by
  obtain ⟨H, F, L, D, xl, xd, yl, yd, yf, yg, yj, rfl, rfl, hR⟩ := I
  obtain ⟨hH, hF, ha, hl, hd, hf⟩ := id hR
  have hH2 : H < 2048 := by omega
  refine br_c (fun h => br_t h ⟨rfl, jb_rel hR⟩) (fun h0 => ?_)
  obtain ⟨j, hj, rfl⟩ := nI_of h0
  have hc : (nI j).toNatClampNeg = j := nI_clamp hj
  have YS : ∀ r : Int32, j < 1024 → (jb_FE H L D j → r = 1) → (¬ jb_FE H L D j → r = 0) → wpY_feasible (fun r' v' => r' = r ∧ i_Rel (k + 4) (nI H, nI F, xl, xd) v') (yl, yd, yf, yg, yj) (nI j) := by
    intro r hj2 ht hn
    refine br_f h0 (br_t (nI_le (b := 1023) (by omega) (by decide)) (jy_findGood hl hd (fun g hg => ?_)))
    dsimp only
    refine ⟨vp_in_nI hj2 (by decide), ?_⟩
    rw [hc]
    by_cases hfe : jb_FE H L D j
    · rw [(hg j hj2).1 hfe, ht hfe]
      exact ⟨rfl, rfl, jb_rel hR⟩
    · rw [(hg j hj2).2 hfe, hn hfe]
      exact ⟨rfl, rfl, jb_rel hR⟩
  refine pk_lt j 1024 (fun h1 => ?_) (fun h1 => ?_)
  · refine jx_isWithin (by omega) (fun h2 => br_f jb_r1 (jx_allInTime hH2 ha h2 (fun h3 => br_f jb_r1 (YS 1 h1 (fun _ => rfl) (fun z => absurd ⟨h2, h3⟩ z))) (fun h3 => br_t rfl (YS 0 h1 (fun z => absurd z.2 h3) (fun _ => rfl))))) (fun h2 => br_t rfl (YS 0 h1 (fun z => absurd z.1 h2) (fun _ => rfl)))
  · exact br_f h0 (pk_le j 1023 (fun z => absurd z (by omega)) (fun _ => ⟨rfl, jb_rel hR⟩))
theorem jy_mostInTime {post : Int32 → SY → Prop} {yl yd yf yg yj : Nat → Int32} {H F : Nat} {L D : Nat → Nat} (hl : jb_Yl H L yl) (hd : jb_Yd H D yd) (hf : jb_Yf H F yf) (hF : jb_Sub F H) (hH : H < 1024) (h : ∀ r g, jb_Ans (jb_Ok H L D F) r → post r (yl, yd, yf, g, yj)) : wpY_mostInTime post (yl, yd, yf, yg, yj) := by
  have hF1 : F < 1024 := Nat.lt_of_le_of_lt (jb_Sub_le hF) hH
  unfold wpY_mostInTime
  dsimp only
  refine jy_firmSet hl hf hF hH ?_
  exact jy_most hl hd hH hF1 (fun r g _ hr => h r g hr)
theorem i_vc_mostInTime {k : Nat} {u : SX} {v : SY} (I : i_Rel k u v) (hk : k + 4 ≤ 2048) : wpX_mostInTime (fun r => wpY_mostInTime (fun r' v' => r' = r ∧ i_Rel (k + 4) u v') v) u := by
  obtain ⟨H, F, L, D, xl, xd, yl, yd, yf, yg, yj, rfl, rfl, hR⟩ := I
  obtain ⟨hH, hF, ha, hl, hd, hf⟩ := id hR
  unfold wpX_mostInTime
  dsimp only
  refine jx_ggs (by omega) ha hF (fun r hr => ?_)
  exact jy_mostInTime hl hd hf hF hH (fun r' g hr' => ⟨jb_Ans_u hr hr', jb_rel hR⟩)
theorem i_vc_leastTime {k : Nat} {u : SX} {v : SY} (I : i_Rel k u v) (hk : k + 4 ≤ 2048) : wpX_leastTime (fun r => wpY_leastTime (fun r' v' => r' = r ∧ i_Rel (k + 4) u v') v) u := by
  obtain ⟨H, F, L, D, xl, xd, yl, yd, yf, yg, yj, rfl, rfl, hR⟩ := I
  obtain ⟨hH, hF, ha, hl, hd, hf⟩ := id hR
  have YS : ∀ r : Int32, jb_LAns (jb_Ok H L D F) L r → wpY_leastTime (fun r' v' => r' = r ∧ i_Rel (k + 4) (nI H, nI F, xl, xd) v') (yl, yd, yf, yg, yj) :=
    fun r hr => jy_leastTime hl hd hf hF hH (fun r' g hr' => ⟨jb_LAns_u hr hr', jb_rel hR⟩)
  unfold wpX_leastTime
  dsimp only
  refine jx_ggs (by omega) ha hF (fun r hr => ?_)
  rcases hr with ⟨a1, a2⟩ | ⟨m, a0, a1, a2⟩
  · exact br_t a2 (YS _ (Or.inl ⟨a1, rfl⟩))
  · subst a1
    refine br_f (jb_nn3 (by omega)) (jx_lgt hH ha hF a0 (fun l hex hl5 hmin => YS _ (Or.inr ⟨m, l, a2, rfl, ?_, hmin⟩)))
    rcases hex with e | hex
    · obtain ⟨⟨S, pS, zS⟩, _⟩ := a2
      have h1 := hmin S pS zS
      have hS := jb_Ok_lt hH pS
      have h2 : jb_tt L S ≤ 10 * 50 := by
        rw [jb_tt_10 hS]
        exact jb_sum_bd (c := 50) 10 (fun i hi hp => (hl i hi).2.1)
      exact ⟨S, pS, zS, by omega⟩
    · exact hex
