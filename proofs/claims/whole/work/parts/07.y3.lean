/-! the reference's welcome, elapse and put -/
theorem jy_hasLastWith {post : Int32 → Prop} {yl yd yf yg yj : Nat → Int32} {H : Nat} {L D L' D' : Nat → Nat} {S : Nat} (hl : jb_Yl H L yl) (hd : jb_Yd H D yd) (hS : S < 1024) (hg : jb_Gd 1024 (jb_FE H L D) yg) (hle : ∀ i, i < 10 → L' i = L i) (hde : ∀ i, i < 10 → D' i = D i) (hL10 : L' 10 ≤ 50) (hD10 : D' 10 ≤ 200)
    (hj : jb_Gd S (fun R => jb_FE (jb_ad H 10) L' D' (jb_ad R 10)) yj) (t : jb_FE (jb_ad H 10) L' D' (jb_ad S 10) → post 1) (f : ¬ jb_FE (jb_ad H 10) L' D' (jb_ad S 10) → post 0) : wpY_hasLastWith post (yl, yd, yf, yg, yj) (nI S) (nI (L' 10)) (nI (D' 10)) := by
  have hS2 : S < 2048 := by omega
  have hbd := jb_Yl_bd hl hS
  have hcS : (nI S).toNatClampNeg = S := nI_clamp (by omega)
  have LOOP : ¬ (jb_FE H L D S ∧ jb_tt L S + L' 10 ≤ D' 10) → ∃ n, wY_hasLastWith_29 post (nI S) (nI (jb_tt L S + L' 10)) yl yd yf yg yj n 0 := by
    intro hno
    refine loop_0 (fun n i (_ : Unit) => wY_hasLastWith_29 post (nI S) (nI (jb_tt L S + L' 10)) yl yd yf yg yj n (nI i)) (fun i _ => ∀ j, j < i → ¬ (S.testBit j = true ∧ H.testBit j = true ∧ jb_tt L S + L' 10 ≤ D j ∧ jb_FE (jb_ad H 10) L' D' (jb_ad (jb_rm S j) 10))) 10 () (fun j hj => absurd hj (by omega)) ?_ ?_
    · intro n _ g
      refine br_t (nI_le (a := 10) (b := 10) (Nat.le_refl _) (by decide)) (f (fun z => ?_))
      rcases (jb_jstep hS hle hde).mp z with y | ⟨i, hi, a, b, c, d⟩
      · exact hno y
      · exact g i hi ⟨a, b, c, d⟩
    · intro n i _ hi g ih
      have hc : (nI i).toNatClampNeg = i := nI_clamp (by omega)
      have skip : ¬ (S.testBit i = true ∧ H.testBit i = true ∧ jb_tt L S + L' 10 ≤ D i ∧ jb_FE (jb_ad H 10) L' D' (jb_ad (jb_rm S i) 10)) → ∀ x, x = nI i + 1 → wY_hasLastWith_29 post (nI S) (nI (jb_tt L S + L' 10)) yl yd yf yg yj n x :=
        fun hk => nm_r (nI_1 i) (ih () (lt_s g hk))
      refine br_f (nI_ge (b := 10) hi (by decide)) (jy_in hS2 (by omega) (fun hb => ?_) (fun hb => br_t rfl (skip fun z => hb z.1)))
      obtain ⟨e1, e2, e3, e4⟩ := hl i hi
      refine br_f jb_r1 ⟨vp_in_nI hi (by decide), ?_⟩
      rw [hc, e1]
      refine pk_le (L i) 0 (fun hz => skip fun z => ?_) (fun hz => ⟨vp_in_nI hi (by decide), ?_⟩)
      · have h3 := e3 z.2.1
        omega
      · have hH := jb_H_of e4 hz
        obtain ⟨d1, d2⟩ := hd i hH
        have hr : jb_rm S i < S := jb_rm_lt hS2 hb
        have hcr : (nI (jb_rm S i)).toNatClampNeg = jb_rm S i := nI_clamp (by omega)
        have hg2 := hj (jb_rm S i) hr
        rw [d1]
        refine pk_lt (D i) (jb_tt L S + L' 10) (fun hlt => skip fun z => ?_) (fun hge => ?_)
        · have h3 := z.2.2.1
          omega
        · rw [jb_nrm hS2 (by omega), hcr]
          refine ⟨vp_in_nI (by omega) (by decide), ?_⟩
          by_cases hf : jb_FE (jb_ad H 10) L' D' (jb_ad (jb_rm S i) 10)
          · rw [hg2.1 hf]
            exact br_f jb_r1 (t ((jb_jstep hS hle hde).mpr (Or.inr ⟨i, hi, hb, hH, hge, hf⟩)))
          · rw [hg2.2 hf]
            exact br_t rfl (skip fun z => hf z.2.2.2)
  unfold wpY_hasLastWith
  dsimp only
  refine jy_timeOf hl hS ?_
  refine nm_r (nI_add _ _) ⟨vp_in_nI hS (by decide), ?_⟩
  rw [hcS]
  by_cases hfe : jb_FE H L D S
  · rw [(hg S hS).1 hfe]
    refine br_f jb_r1 ?_
    refine pk_lt (D' 10) (jb_tt L S + L' 10) (fun hlt => LOOP (fun z => ?_)) (fun hge => t ((jb_jstep hS hle hde).mpr (Or.inl ⟨hfe, hge⟩)))
    have h3 := z.2
    omega
  · rw [(hg S hS).2 hfe]
    exact br_t rfl (LOOP (fun z => hfe z.1))
theorem jy_wel {post : Int32 → SY → Prop} {yl yd yf yg yj : Nat → Int32} {H : Nat} {L D L' D' : Nat → Nat} {F m : Nat} (hl : jb_Yl H L yl) (hd : jb_Yd H D yd) (hg : jb_Gd 1024 (jb_FE H L D) yg) (hle : ∀ i, i < 10 → L' i = L i) (hde : ∀ i, i < 10 → D' i = D i) (hL10 : L' 10 ≤ 50) (hD10 : D' 10 ≤ 200) (hF : F < 1024) (hm : m ≤ 11)
    (t : ∀ j, (∃ S, S < 1024 ∧ jb_FE (jb_ad H 10) L' D' (jb_ad S 10) ∧ jb_Sub F S ∧ m < jb_sz S + 1) → post 1 (yl, yd, yf, yg, j))
    (f : ∀ j, ¬ (∃ S, S < 1024 ∧ jb_FE (jb_ad H 10) L' D' (jb_ad S 10) ∧ jb_Sub F S ∧ m < jb_sz S + 1) → post 0 (yl, yd, yf, yg, j)) : ∃ n, wY_welcome_35 post (nI (L' 10)) (nI (D' 10)) (nI F) (nI m) n 0 yl yd yf yg yj := by
  have hF2 : F < 2048 := by omega
  refine loop_0 (fun n i j => wY_welcome_35 post (nI (L' 10)) (nI (D' 10)) (nI F) (nI m) n (nI i) yl yd yf yg j) (fun i j => jb_Gd i (fun R => jb_FE (jb_ad H 10) L' D' (jb_ad R 10)) j ∧ ∀ S, S < i → ¬ (jb_FE (jb_ad H 10) L' D' (jb_ad S 10) ∧ jb_Sub F S ∧ m < jb_sz S + 1)) 1024 yj ⟨fun S z => absurd z (by omega), fun S z => absurd z (by omega)⟩ ?_ ?_
  · intro n j ⟨_, hn⟩
    exact br_t (nI_le (a := 1024) (b := 1024) (Nat.le_refl _) (by decide)) (f j (fun ⟨S, hS, z⟩ => hn S hS z))
  · intro n i j hi ⟨hj, hn⟩ ih
    have hc : (nI i).toNatClampNeg = i := nI_clamp (by omega)
    have hz := jb_sz_le i
    refine br_f (nI_ge (b := 1024) hi (by decide)) (jy_hasLastWith hl hd hi hg hle hde hL10 hD10 hj (fun hfe => ?_) (fun hfe => ?_))
    · refine ⟨vp_in_nI hi (by decide), ?_⟩
      rw [hc, jb_nb1]
      intro j1 ej
      subst ej
      refine ⟨vp_in_nI hi (by decide), ?_⟩
      rw [pk_us]
      have hj2 : jb_Gd (i + 1) (fun R => jb_FE (jb_ad H 10) L' D' (jb_ad R 10)) (upd j i 1) := jb_Gd_s hj (fun _ => rfl) (fun z => absurd hfe z)
      refine br_f jb_r1 (br_c (fun hw => ?_) (fun hw => nm_r (nI_1 i) (ih _ ⟨hj2, lt_s hn (fun z => hw ((jb_nsub hF2).mpr z.2.1))⟩)))
      have hw2 := (jb_nsub hF2).mp hw
      refine jy_sizeOf hi ?_
      refine pk_le (jb_sz i + 1) m (fun h1 => nm_r (nI_1 i) (ih _ ⟨hj2, lt_s hn (fun z => ?_)⟩)) (fun h1 => t _ ⟨i, hi, hfe, hw2, h1⟩) (nI_1 _)
      have h2 := z.2.2
      omega
    · refine ⟨vp_in_nI hi (by decide), ?_⟩
      rw [hc, jb_nb0]
      intro j1 ej
      subst ej
      refine ⟨vp_in_nI hi (by decide), ?_⟩
      rw [pk_us]
      exact br_t rfl (nm_r (nI_1 i) (ih _ ⟨jb_Gd_s hj (fun z => absurd z hfe) (fun _ => rfl), lt_s hn (fun z => hfe z.1)⟩))
/-! elapse -/
theorem jy_elapse {post : Int32 → SY → Prop} {yl yd yf yg yj : Nat → Int32} {H : Nat} {L D : Nat → Nat} {T G : Nat} (hl : jb_Yl H L yl) (hd : jb_Yd H D yd) (hT : T ≤ 200) (hG : jb_Left H D T 10 G)
    (h : ∀ yl' yd', jb_Yl G (fun j => if G.testBit j = true then L j else 0) yl' → jb_Yd G (fun j => D j - T) yd' → post (nI (jb_sz G)) (yl', yd', yf, yg, yj)) : ∃ n, wY_elapse_15 post (nI T) n 0 yl yd yf yg yj := by
  refine loop_0 (fun n i (s : (Nat → Int32) × (Nat → Int32)) => wY_elapse_15 post (nI T) n (nI i) s.1 s.2 yf yg yj) (fun i s => ∃ yl' yd', s = (yl', yd') ∧ (∀ j, j < i → H.testBit j = true → yd' j = nI (D j) - nI T) ∧ (∀ j, j < i → H.testBit j = true → T ≤ D j → yl' j = yl j) ∧ (∀ j, j < i → ¬ (H.testBit j = true ∧ T ≤ D j) → yl' j = 0) ∧ ∀ j, i ≤ j → yl' j = yl j ∧ yd' j = yd j) 10 (yl, yd) ⟨yl, yd, rfl, fun j z => absurd z (by omega), fun j z => absurd z (by omega), fun j z => absurd z (by omega), fun j _ => ⟨rfl, rfl⟩⟩ ?_ ?_
  · intro n s ⟨yl', yd', e, g1, g2, g3, g4⟩
    subst e
    show wY_elapse_15 post (nI T) (n + 1) (nI 10) yl' yd' yf yg yj
    have hYl : jb_Yl G (fun j => if G.testBit j = true then L j else 0) yl' := by
      intro i hi
      obtain ⟨e1, e2, e3, e4⟩ := hl i hi
      by_cases hb : G.testBit i = true
      · obtain ⟨a, b⟩ := (hG.2 i).mp hb
        have h5 := g2 i hi a (b hi)
        refine ⟨?_, ?_, ?_, fun z => absurd hb z⟩
        · show yl' i = nI (if G.testBit i = true then L i else 0)
          rw [if_pos hb, h5, e1]
        · show (if G.testBit i = true then L i else 0) ≤ 50
          rw [if_pos hb]; exact e2
        · intro _
          show 1 ≤ (if G.testBit i = true then L i else 0)
          rw [if_pos hb]; exact e3 a
      · have h5 := g3 i hi (fun z => hb ((hG.2 i).mpr ⟨z.1, fun _ => z.2⟩))
        refine ⟨?_, ?_, fun z => absurd z hb, fun _ => ?_⟩
        · show yl' i = nI (if G.testBit i = true then L i else 0)
          rw [if_neg hb, h5]; rfl
        · show (if G.testBit i = true then L i else 0) ≤ 50
          rw [if_neg hb]; omega
        · show (if G.testBit i = true then L i else 0) = 0
          rw [if_neg hb]
    have hYd : jb_Yd G (fun j => D j - T) yd' := by
      intro i hb
      have hi := jb_lo10 hG.1 hb
      obtain ⟨a, b⟩ := (hG.2 i).mp hb
      have h5 := g1 i hi a
      have h6 := (hd i a).2
      rw [pk_sub (b hi)] at h5
      exact ⟨h5, by show D i - T ≤ 200; omega⟩
    exact br_t (nI_le (a := 10) (b := 10) (Nat.le_refl _) (by decide)) (jy_jobs hYl hG.1 (h yl' yd' hYl hYd))
  · intro n i s hi ⟨yl', yd', e, g1, g2, g3, g4⟩ ih
    subst e
    have hc : (nI i).toNatClampNeg = i := nI_clamp (by omega)
    obtain ⟨k1, k2⟩ := g4 i (Nat.le_refl _)
    obtain ⟨e1, e2, e3, e4⟩ := hl i hi
    show wY_elapse_15 post (nI T) (n + 1) (nI i) yl' yd' yf yg yj
    refine br_f (nI_ge (b := 10) hi (by decide)) ⟨vp_in_nI hi (by decide), vp_in_nI hi (by decide), ?_⟩
    rw [hc]
    intro yd1 ed
    subst ed
    refine ⟨vp_in_nI hi (by decide), ?_⟩
    rw [pk_us, k2]
    have D1 : ∀ j, j < i + 1 → H.testBit j = true → upd yd' i (yd i - nI T) j = nI (D j) - nI T := by
      intro j hj hb
      by_cases e : j = i
      · rw [e] at hb ⊢
        rw [pk_us, (hd i hb).1]
      · rw [pk_un e]; exact g1 j (by omega) hb
    refine br_c (fun h0 => nm_r (nI_1 i) (ih (yl', upd yd' i (yd i - nI T)) ⟨_, _, rfl, D1, ?_, ?_, ?_⟩)) (fun h0 => ⟨vp_in_nI hi (by decide), fun yl1 el => nm_r (nI_1 i) (ih (yl1, upd yd' i (yd i - nI T)) ⟨_, _, rfl, D1, ?_, ?_, ?_⟩)⟩)
    · intro j hj hb hTj
      by_cases e : j = i
      · rw [e]; exact k1
      · exact g2 j (by omega) hb hTj
    · intro j hj hn
      by_cases e : j = i
      · rw [e] at hn ⊢
        rw [k1, e1]
        have hb : ¬ H.testBit i = true := fun hb => by
          have h5 : ¬ T ≤ D i := fun z => hn ⟨hb, z⟩
          have h6 := (hd i hb).2
          have h7 : nI (D i) - nI T < 0 := pk_sneg (by omega) (by omega)
          rw [(hd i hb).1] at h0
          exact absurd h7 (Int32.not_lt.mpr h0)
        rw [e4 hb]; rfl
      · exact g3 j (by omega) hn
    · intro j hj
      have e : j ≠ i := by omega
      rw [pk_un e]; exact g4 j (by omega)
    · intro j hj hb hTj
      by_cases e : j = i
      · rw [e] at hb hTj
        have h6 := (hd i hb).2
        rw [(hd i hb).1, pk_sub hTj] at h0
        exact absurd (nI_pos' (by omega)) h0
      · rw [el, pk_un e]; exact g2 j (by omega) hb hTj
    · intro j hj hn
      by_cases e : j = i
      · rw [e, el, pk_us]
      · rw [el, pk_un e]; exact g3 j (by omega) hn
    · intro j hj
      have e : j ≠ i := by omega
      rw [el, pk_un e, pk_un e]; exact g4 j (by omega)
/-! put -/
theorem jy_put {post : Int32 → SY → Prop} {yl yd yf yg yj : Nat → Int32} {H : Nat} {L : Nat → Nat} {a b c : Int32} (hl : jb_Yl H L yl) (hfull : (∀ j, j < 10 → H.testBit j = true) → post (-2) (yl, yd, yf, yg, yj))
    (hbad : ¬ jb_J a b → ∀ p, p < 10 → ¬ H.testBit p = true → post (-1) (yl, yd, yf, yg, yj))
    (hput : jb_J a b → ∀ p, p < 10 → ¬ H.testBit p = true → (∀ j, j < p → H.testBit j = true) → post (nI p) (upd yl p a, upd yd p b, upd yf p (vp_nar .boolean c), yg, yj)) : wpY_put post (yl, yd, yf, yg, yj) a b c := by
  unfold wpY_put
  refine ⟨11, ?_⟩
  have e9 : (9 : Int32) = nI 10 + (-1) := by decide
  rw [e9]
  refine pk_loopD (fun n k s => wY_put_7 post a b c yl yd yf yg yj n s (nI k + (-1))) (fun k s => k ≤ 10 ∧ ((s = -1 ∧ ∀ j, k ≤ j → j < 10 → H.testBit j = true) ∨ ∃ p, k ≤ p ∧ p < 10 ∧ s = nI p ∧ ¬ H.testBit p = true ∧ ∀ j, k ≤ j → j < p → H.testBit j = true)) ?_ ?_ 10 (-1) ⟨Nat.le_refl _, Or.inl ⟨rfl, fun j h1 h2 => absurd h1 (by omega)⟩⟩
  · intro n s ⟨_, hs⟩
    refine br_t (by decide) ?_
    rcases hs with ⟨e, g⟩ | ⟨p, g0, g1, e, g2, g3⟩
    · rw [e]
      exact br_f (by decide) (hfull (fun j hj => g j (by omega) hj))
    · subst e
      have hc : (nI p).toNatClampNeg = p := nI_clamp (by omega)
      refine br_t (nI_pos' (by omega)) (jy_fits (fun hJ => ?_) (fun hJ => br_t rfl (hbad hJ p g1 g2)))
      refine br_f jb_r1 ⟨vp_in_nI g1 (by decide), ?_⟩
      rw [hc]
      exact nm_e ⟨vp_in_nI g1 (by decide), nm_e ⟨vp_in_nI g1 (by decide), nm_e (hput hJ p g1 g2 (fun j hj => g3 j (by omega) hj))⟩⟩
  · intro n k s ⟨hk, hs⟩ ih
    have hk2 : k < 10 := by omega
    have hc : (nI k).toNatClampNeg = k := nI_clamp (by omega)
    obtain ⟨e1, e2, e3, e4⟩ := hl k hk2
    show wY_put_7 post a b c yl yd yf yg yj (n + 1) s (nI (k + 1) + (-1))
    rw [pk_m1]
    refine br_f (nI_pos (by omega)) ⟨vp_in_nI hk2 (by decide), ?_⟩
    rw [hc, e1]
    refine pk_eq (L k) 0 (fun hz => nm_e (ih _ ⟨by omega, Or.inr ⟨k, Nat.le_refl _, hk2, rfl, fun z => ?_, fun j h1 h2 => absurd h1 (by omega)⟩⟩)) (fun hz => nm_e (ih _ ⟨by omega, ?_⟩))
    · have h3 := e3 z
      omega
    · have hH := jb_H_of e4 (by omega)
      rcases hs with ⟨e, g⟩ | ⟨p, g0, g1, e, g2, g3⟩
      · refine Or.inl ⟨e, fun j h1 h2 => ?_⟩
        by_cases ej : j = k
        · rw [ej]; exact hH
        · exact g j (by omega) h2
      · refine Or.inr ⟨p, by omega, g1, e, g2, fun j h1 h2 => ?_⟩
        by_cases ej : j = k
        · rw [ej]; exact hH
        · exact g3 j (by omega) h2
