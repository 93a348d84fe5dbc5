/-! what is owed: affordable, welcome, elapse -/
theorem i_vc_affordable {k : Nat} {u : SX} {v : SY} (I : i_Rel k u v) (hk : k + 4 ≤ 2048) (v1 : Int32) : wpX_affordable (fun r => wpY_affordable (fun r' v' => r' = r ∧ i_Rel (k + 4) u v') v v1) u v1 := by
  obtain ⟨H, F, L, D, xl, xd, yl, yd, yf, yg, yj, rfl, rfl, hR⟩ := I
  obtain ⟨hH, hF, ha, hl, hd, hf⟩ := id hR
  have hH2 : H < 2048 := by omega
  unfold wpX_affordable
  dsimp only
  refine jx_holdsJob hH (fun hA => ?_) (fun hA => br_t rfl ?_)
  · obtain ⟨i, hi, rfl, hb⟩ := id hA
    have hF3 : jb_Sub (jb_ad F i) H := jb_ad_Sub hF hb
    have hF4 : jb_ad F i < 1024 := Nat.lt_of_le_of_lt (jb_Sub_le hF3) hH
    have YS : ∀ r : Int32, (∀ a b : Int32, jb_Ans (jb_Ok H L D F) a → jb_Ans (jb_Ok H L D (jb_ad F i)) b → (a = -3 → 0 = r) ∧ (¬ a = -3 → (a = b → 1 = r) ∧ (¬ a = b → 0 = r))) → wpY_affordable (fun r' v' => r' = r ∧ i_Rel (k + 4) (nI H, nI F, xl, xd) v') (yl, yd, yf, yg, yj) (nI i) := by
      intro r hr
      unfold wpY_affordable
      dsimp only
      refine jy_isJob hl (fun _ => ?_) (fun z => absurd hA z)
      refine br_f jb_r1 (jy_mostInTime hl hd hf hF hH (fun a g1 ha1 => ?_))
      dsimp only
      refine jy_firmSet hl hf hF hH ?_
      rw [jb_nad (by omega)]
      refine jy_most hl hd hH hF4 (fun b g2 _ hb1 => ?_)
      dsimp only
      obtain ⟨c1, c2⟩ := hr a b ha1 hb1
      exact br_c (fun h => ⟨c1 h, jb_rel hR⟩) (fun h => br_c (fun h2 => ⟨(c2 h).1 h2, jb_rel hR⟩) (fun h2 => ⟨(c2 h).2 h2, jb_rel hR⟩))
    refine br_f jb_r1 (jx_ggs hH2 ha hF (fun a ha1 => ?_))
    refine br_c (fun h => YS 0 (fun a' b' ha' _ => ?_)) (fun h => ?_)
    · have e := jb_Ans_u ha1 ha'
      exact ⟨fun _ => rfl, fun z => absurd (e.trans h) z⟩
    · rw [jb_nad (by omega)]
      refine jx_ggs hH2 ha hF3 (fun b hb1 => ?_)
      refine br_c (fun h2 => YS 1 (fun a' b' ha' hb' => ?_)) (fun h2 => YS 0 (fun a' b' ha' hb' => ?_))
      · have e := jb_Ans_u ha1 ha'
        have e2 := jb_Ans_u hb1 hb'
        rw [e, e2]
        exact ⟨fun z => absurd z h, fun _ => ⟨fun _ => rfl, fun z => absurd h2.symm z⟩⟩
      · have e := jb_Ans_u ha1 ha'
        have e2 := jb_Ans_u hb1 hb'
        rw [e, e2]
        exact ⟨fun z => absurd z h, fun _ => ⟨fun z => absurd z.symm h2, fun _ => rfl⟩⟩
  · unfold wpY_affordable
    dsimp only
    exact jy_isJob hl (fun z => absurd z hA) (fun _ => br_t rfl ⟨rfl, jb_rel hR⟩)
theorem i_vc_welcome {k : Nat} {u : SX} {v : SY} (I : i_Rel k u v) (hk : k + 4 ≤ 2048) (v1 : Int32) (v2 : Int32) : wpX_welcome (fun r u' => wpY_welcome (fun r' v' => r' = r ∧ i_Rel (k + 4) u' v') v v1 v2) u v1 v2 := by
  obtain ⟨H, F, L, D, xl, xd, yl, yd, yf, yg, yj, rfl, rfl, hR⟩ := I
  obtain ⟨hH, hF, ha, hl, hd, hf⟩ := id hR
  have hH2 : H < 2048 := by omega
  have hF1 : F < 1024 := Nat.lt_of_le_of_lt (jb_Sub_le hF) hH
  unfold wpX_welcome
  dsimp only
  refine jx_isJob (fun hJ => ?_) (fun hJ => br_t rfl ?_)
  · obtain ⟨l, d, rfl, rfl, b1, b2, b3⟩ := jb_J_nat hJ
    refine br_f jb_r1 (jx_ggs hH2 ha hF (fun r hr => ?_))
    rcases id hr with ⟨a1, a2⟩ | ⟨m, a0, a1, a2⟩
    · refine br_t a2 ?_
      unfold wpY_welcome
      dsimp only
      refine jy_fits (fun _ => ?_) (fun z => absurd hJ z)
      refine br_f jb_r1 (jy_firmSet hl hf hF hH ?_)
      refine jy_most hl hd hH hF1 (fun r' g _ hr' => ?_)
      dsimp only
      exact br_t ((jb_Ans_u hr hr').trans a2) ⟨rfl, jb_rel hR⟩
    · subst a1
      have hle : ∀ i, i < 10 → (fun i => if i = 10 then l else L i) i = L i := fun i hi => if_neg (by omega)
      have hde : ∀ i, i < 10 → (fun i => if i = 10 then d else D i) i = D i := fun i hi => if_neg (by omega)
      have hwel := jb_wel hH hF1 hle hde a2
      have YS : ∀ r' : Int32, ((∃ S, jb_Ok (jb_ad H 10) (fun i => if i = 10 then l else L i) (fun i => if i = 10 then d else D i) F S ∧ m < jb_sz S) → 1 = r') → ((¬ ∃ S, jb_Ok (jb_ad H 10) (fun i => if i = 10 then l else L i) (fun i => if i = 10 then d else D i) F S ∧ m < jb_sz S) → 0 = r') → wpY_welcome (fun r v' => r = r' ∧ i_Rel (k + 4) (nI H, nI F, upd xl 10 (nI l), upd xd 10 (nI d)) v') (yl, yd, yf, yg, yj) (nI l) (nI d) := by
        intro r' ht hn
        rw [hwel] at ht hn
        unfold wpY_welcome
        dsimp only
        refine jy_fits (fun _ => ?_) (fun z => absurd hJ z)
        refine br_f jb_r1 (jy_firmSet hl hf hF hH ?_)
        refine jy_most hl hd hH hF1 (fun r2 g hg hr2 => ?_)
        dsimp only
        have e := jb_Ans_u hr hr2
        subst e
        refine br_f (jb_nn3 (by omega)) ?_
        exact jy_wel (L' := fun i => if i = 10 then l else L i) (D' := fun i => if i = 10 then d else D i) hl hd hg hle hde b2 b3 hF1 a0 (fun j z => ⟨ht z, jb_rel (jb_R_guest hR)⟩) (fun j z => ⟨hn z, jb_rel (jb_R_guest hR)⟩)
      have e1024 : nI H ||| 1024 = nI (jb_ad H 10) := jb_nor H 1024
      refine br_f (jb_nn3 (by omega)) ?_
      intro xl1 ex1 xd1 ex2
      subst ex1
      subst ex2
      rw [e1024]
      refine jx_ggs (jb_ad_lt11 hH2 (by omega)) (jb_Arr_guest hH ha b2 b3) (jb_Sub_tr hF (jb_ad_sub H 10)) (fun r2 hr2 => ?_)
      rcases hr2 with ⟨c1, c2⟩ | ⟨m2, c0, c1, c2⟩
      · subst c2
        refine br_c (fun _ => YS 0 (fun ⟨S, hS, _⟩ => absurd hS (c1 S)) (fun _ => rfl)) (fun h => ?_)
        have h3 : (-3 : Int32) ≤ nI m := Int32.le_trans (by decide : (-3 : Int32) ≤ 0) (nI_pos' (by omega))
        exact absurd h3 h
      · subst c1
        refine pk_le m2 m (fun h => YS 0 (fun ⟨S, hS, hz⟩ => ?_) (fun _ => rfl)) (fun h => YS 1 (fun _ => rfl) (fun z => absurd ?_ z))
        · have h4 := c2.2 S hS
          omega
        · obtain ⟨⟨S, hS, hz⟩, _⟩ := c2
          exact ⟨S, hS, by omega⟩
  · unfold wpY_welcome
    dsimp only
    exact jy_fits (fun z => absurd z hJ) (fun _ => br_t rfl ⟨rfl, jb_rel hR⟩)
theorem i_vc_elapse {k : Nat} {u : SX} {v : SY} (I : i_Rel k u v) (hk : k + 4 ≤ 2048) (v1 : Int32) : wpX_elapse (fun r u' => wpY_elapse (fun r' v' => r' = r ∧ i_Rel (k + 4) u' v') v v1) u v1 := by
  obtain ⟨H, F, L, D, xl, xd, yl, yd, yf, yg, yj, rfl, rfl, hR⟩ := I
  obtain ⟨hH, hF, ha, hl, hd, hf⟩ := id hR
  refine br_c (fun h => br_t h ⟨rfl, jb_rel hR⟩) (fun h0 => br_c (fun h1 => ?_) (fun h1 => br_f h0 (br_f h1 ⟨rfl, jb_rel hR⟩)))
  obtain ⟨T, hT, rfl⟩ := nI_of h0
  have h2 : nI T ≤ nI 200 := h1
  rw [nI_leI hT (by omega)] at h2
  refine jx_elapse hH ha hF h2 (fun G E xd' hG hE hx => ?_)
  exact br_f h0 (br_t h1 (jy_elapse hl hd h2 hG (fun yl' yd' hYl hYd => ⟨rfl, jb_rel (jb_R_elapse hR hG hE hx hYl hYd)⟩)))
