/-! the component's smaller methods, and elapse -/
theorem jx_sep {post : Int32 → Prop} {f1 : Int32} {xl xd : Nat → Int32} {H : Nat} (hH : H < 1024) (h : ∀ p, p ≤ 10 → (∀ j, j < p → H.testBit j = true) → (p < 10 → ¬ H.testBit p = true) → post (nI p)) : wpX_smallestEmptyPlace post (nI H, f1, xl, xd) := by
  unfold wpX_smallestEmptyPlace
  refine loop_0 (fun n i (_ : Unit) => wX_smallestEmptyPlace_2 post (nI H) f1 xl xd n (nI i)) (fun i _ => ∀ j, j < i → H.testBit j = true) 10 () (fun j hj => absurd hj (by omega)) ?_ ?_
  · intro n _ g
    exact br_t (nI_le (a := 10) (b := 10) (Nat.le_refl _) (by decide)) (h 10 (Nat.le_refl _) g (fun z => absurd z (by omega)))
  · intro n i _ hi g ih
    refine br_f (nI_ge (b := 10) hi (by decide)) (jx_isIn (by omega) (by omega) (fun hb => ?_) (fun hb => ?_))
    · exact br_f jb_r1 (nm_r (nI_1 i) (ih () (lt_s g hb)))
    · exact br_t rfl (h i (by omega) g (fun _ => hb))
def jb_J (a b : Int32) : Prop := ¬ a < 1 ∧ ¬ 50 < a ∧ ¬ b < 0 ∧ ¬ 200 < b
theorem jb_J_nat {a b : Int32} (h : jb_J a b) : ∃ l d : Nat, a = nI l ∧ b = nI d ∧ 1 ≤ l ∧ l ≤ 50 ∧ d ≤ 200 := by
  obtain ⟨h1, h2, h3, h4⟩ := h
  have h0 : ¬ a < 0 := fun z => h1 (by
    rw [Int32.lt_iff_toInt_lt] at z ⊢
    have e0 : (0 : Int32).toInt = 0 := by decide
    have e1 : (1 : Int32).toInt = 1 := by decide
    omega)
  obtain ⟨l, hl, rfl⟩ := nI_of h0
  obtain ⟨d, hd, rfl⟩ := nI_of h3
  have a1 : ¬ nI l < nI 1 := h1
  have a2 : ¬ nI 50 < nI l := h2
  have a3 : ¬ nI 200 < nI d := h4
  rw [nI_ltI hl (by omega)] at a1
  rw [nI_ltI (by omega) hl] at a2
  rw [nI_ltI (by omega) hd] at a3
  exact ⟨l, d, rfl, rfl, by omega, by omega, by omega⟩
theorem jx_isJob {post : Int32 → Prop} {a b : Int32} (t : jb_J a b → post 1) (f : ¬ jb_J a b → post 0) : wpX_isJob post a b :=
  br_c (fun h => f (fun z => z.1 h)) (fun h1 => br_c (fun h => f (fun z => z.2.1 h)) (fun h2 => br_c (fun h => f (fun z => z.2.2.1 h)) (fun h3 => br_c (fun h => f (fun z => z.2.2.2 h)) (fun h4 => t ⟨h1, h2, h3, h4⟩))))
theorem jy_fits {post : Int32 → Prop} {v : SY} {a b : Int32} (t : jb_J a b → post 1) (f : ¬ jb_J a b → post 0) : wpY_fits post v a b := by
  obtain ⟨v1, v2, v3, v4, v5⟩ := v
  exact br_c (fun h => f (fun z => z.1 h)) (fun h1 => br_c (fun h => f (fun z => z.2.1 h)) (fun h2 => br_c (fun h => f (fun z => z.2.2.1 h)) (fun h3 => br_c (fun h => f (fun z => z.2.2.2 h)) (fun h4 => t ⟨h1, h2, h3, h4⟩))))
/-- place x holds a job of H -/
def jb_At (H : Nat) (x : Int32) : Prop := ∃ i, i < 10 ∧ x = nI i ∧ H.testBit i = true
theorem jb_At_nI {H i : Nat} (hi : i < 10) : jb_At H (nI i) ↔ H.testBit i = true := by
  constructor
  · intro ⟨j, hj, e, hb⟩
    rw [nI_eq (by omega) (by omega)] at e
    rw [e]; exact hb
  · intro hb
    exact ⟨i, hi, rfl, hb⟩
theorem jb_At_lo {H : Nat} {x : Int32} (h : x < 0) : ¬ jb_At H x := fun ⟨j, hj, e, _⟩ => by
  rw [e] at h
  exact nI_pos (by omega) h
theorem jb_At_hi {H : Nat} {x : Int32} (h : nI 10 ≤ x) : ¬ jb_At H x := fun ⟨j, hj, e, _⟩ => by
  rw [e] at h
  exact nI_ge (b := 10) hj (by decide) h
theorem jx_holdsJob {post : Int32 → Prop} {f1 : Int32} {xl xd : Nat → Int32} {H : Nat} {x : Int32} (hH : H < 1024) (t : jb_At H x → post 1) (f : ¬ jb_At H x → post 0) : wpX_holdsJob post (nI H, f1, xl, xd) x := by
  refine br_c (fun h => f (jb_At_lo h)) (fun h0 => br_c (fun h => f (jb_At_hi h)) (fun h1 => ?_))
  obtain ⟨j, hj, rfl⟩ := nI_of h0
  have h2 : ¬ nI 10 ≤ nI j := h1
  rw [nI_leI (by omega) hj] at h2
  have hj2 : j < 10 := by omega
  refine jx_isIn (by omega) (by omega) (fun hb => ?_) (fun hb => ?_)
  · exact br_f jb_r1 (t ((jb_At_nI hj2).mpr hb))
  · exact br_t rfl (f (fun z => hb ((jb_At_nI hj2).mp z)))
theorem jy_isJob {post : Int32 → Prop} {yl yd yf yg yj : Nat → Int32} {H : Nat} {L : Nat → Nat} {x : Int32} (hl : ∀ i, i < 10 → yl i = nI (L i) ∧ L i ≤ 50 ∧ (H.testBit i = true → 1 ≤ L i) ∧ (¬ H.testBit i = true → L i = 0)) (t : jb_At H x → post 1) (f : ¬ jb_At H x → post 0) : wpY_isJob post (yl, yd, yf, yg, yj) x := by
  refine br_c (fun h => f (jb_At_lo h)) (fun h0 => ?_)
  obtain ⟨j, hj, rfl⟩ := nI_of h0
  refine pk_lt 9 j (fun h => f (jb_At_hi (nI_le (by omega) hj))) (fun h => ?_)
  have hj2 : j < 10 := by omega
  obtain ⟨e1, e2, e3, e4⟩ := hl j hj2
  have hc : (nI j).toNatClampNeg = j := nI_clamp hj
  refine ⟨vp_in_nI hj2 (by decide), ?_⟩
  rw [hc, e1]
  refine pk_le (L j) 0 (fun h2 => f (fun z => ?_)) (fun h2 => t ((jb_At_nI hj2).mpr ?_))
  · have h3 := e3 ((jb_At_nI hj2).mp z)
    omega
  · cases hb : H.testBit j
    · have h3 := e4 (by rw [hb]; decide)
      omega
    · rfl
/-! elapse: what is left of H with the deadlines D after T -/
def jb_Left (H : Nat) (D : Nat → Nat) (T i G : Nat) : Prop := G < 1024 ∧ ∀ j, G.testBit j = true ↔ (H.testBit j = true ∧ (j < i → T ≤ D j))
theorem jb_Left_0 {H : Nat} {D : Nat → Nat} {T : Nat} (hH : H < 1024) : jb_Left H D T 0 H :=
  ⟨hH, fun j => ⟨fun h => ⟨h, fun z => absurd z (by omega)⟩, fun h => h.1⟩⟩
theorem jb_Left_k {H : Nat} {D : Nat → Nat} {T i G : Nat} (g : jb_Left H D T i G) (h : H.testBit i = true → T ≤ D i) : jb_Left H D T (i + 1) G := by
  refine ⟨g.1, fun j => ?_⟩
  rw [g.2 j]
  constructor
  · intro ⟨a, b⟩
    refine ⟨a, fun z => ?_⟩
    by_cases e : j = i
    · rw [e] at a ⊢; exact h a
    · exact b (by omega)
  · intro ⟨a, b⟩
    exact ⟨a, fun z => b (by omega)⟩
theorem jb_Left_r {H : Nat} {D : Nat → Nat} {T i G : Nat} (g : jb_Left H D T i G) (h : ¬ T ≤ D i) : jb_Left H D T (i + 1) (jb_rm G i) := by
  have hG := g.1
  have hG2 : G < 2048 := by omega
  refine ⟨Nat.lt_of_le_of_lt (jb_Sub_le (jb_rm_sub hG2)) hG, fun j => ?_⟩
  constructor
  · intro hb
    obtain ⟨h1, h2⟩ := jb_rm_ne hG2 hb
    obtain ⟨h3, h4⟩ := (g.2 j).mp h1
    exact ⟨h3, fun z => h4 (by omega)⟩
  · intro ⟨a, b⟩
    have e : j ≠ i := fun z => by rw [z] at b; exact h (b (by omega))
    exact jb_rm_of hG2 ((g.2 j).mpr ⟨a, fun z => b (by omega)⟩) e
theorem jx_elapse {post : Int32 → SX → Prop} {xl xd : Nat → Int32} {H F : Nat} {L D : Nat → Nat} {T : Nat} (hH : H < 1024) (ha : jb_Arr H L D xl xd) (hF : jb_Sub F H) (hT : T ≤ 200)
    (h : ∀ G E xd', jb_Left H D T 10 G → jb_Left F D T 10 E → (∀ j, j < 10 → H.testBit j = true → T ≤ D j → xd' j = nI (D j - T)) → post (nI (jb_sz G)) (nI G, nI E, xl, xd')) : ∃ n, wX_elapse_15 post (nI T) n 0 (nI H) (nI F) xl xd := by
  have hF1 : F < 1024 := Nat.lt_of_le_of_lt (jb_Sub_le hF) hH
  refine loop_0 (fun n i (s : Int32 × Int32 × (Nat → Int32)) => wX_elapse_15 post (nI T) n (nI i) s.1 s.2.1 xl s.2.2) (fun i s => ∃ G E xd', s = (nI G, nI E, xd') ∧ jb_Left H D T i G ∧ jb_Left F D T i E ∧ (∀ j, j < i → H.testBit j = true → T ≤ D j → xd' j = nI (D j - T)) ∧ ∀ j, i ≤ j → xd' j = xd j) 10 (nI H, nI F, xd) ⟨H, F, xd, rfl, jb_Left_0 hH, jb_Left_0 hF1, fun j hj => absurd hj (by omega), fun _ _ => rfl⟩ ?_ ?_
  · intro n s ⟨G, E, xd', e, g1, g2, g3, g4⟩
    subst e
    have hG := g1.1
    exact br_t (nI_le (a := 10) (b := 10) (Nat.le_refl _) (by decide)) (jx_sizeOf (by omega) (h G E xd' g1 g2 g3))
  · intro n i s hi ⟨G, E, xd', e, g1, g2, g3, g4⟩ ih
    subst e
    have hG := g1.1
    have hE := g2.1
    have hE2 : E < 2048 := by omega
    have hG2 : G < 2048 := by omega
    have hi2 : i < 11 := by omega
    have hc : (nI i).toNatClampNeg = i := nI_clamp (by omega)
    show wX_elapse_15 post (nI T) (n + 1) (nI i) (nI G) (nI E) xl xd'
    refine br_f (nI_ge (b := 10) hi (by decide)) (jx_isIn hG2 hi2 (fun hb => ?_) (fun hb => ?_))
    · have hHi := ((g1.2 i).mp hb).1
      obtain ⟨e1, e2, e3, e4⟩ := ha i hHi
      refine br_f jb_r1 ⟨vp_in_nI hi2 (by decide), vp_in_nI hi2 (by decide), ?_⟩
      rw [hc]
      intro xe ee
      subst ee
      refine ⟨vp_in_nI hi2 (by decide), ?_⟩
      rw [pk_us, g4 i (Nat.le_refl _), e2]
      by_cases hle : T ≤ D i
      · have hs : nI (D i) - nI T = nI (D i - T) := pk_sub hle
        rw [hs]
        refine br_t (nI_pos' (by omega)) (nm_r (nI_1 i) (ih (nI G, nI E, upd xd' i (nI (D i - T))) ⟨G, E, _, rfl, jb_Left_k g1 (fun _ => hle), jb_Left_k g2 (fun _ => hle), fun j hj hHj hTj => ?_, fun j hj => ?_⟩))
        · by_cases e : j = i
          · rw [e, pk_us]
          · rw [pk_un e]; exact g3 j (by omega) hHj hTj
        · rw [pk_un (by omega)]; exact g4 j (by omega)
      · have hs : nI (D i) - nI T < 0 := pk_sneg (by omega) (by omega)
        refine br_f (fun z => absurd hs (Int32.not_lt.mpr z)) ?_
        intro p ep q eq
        have ep2 : p = nI (jb_rm G i) := ep.trans (jb_nrm hG2 hi2)
        have eq2 : q = nI (jb_rm E i) := eq.trans (jb_nrm hE2 hi2)
        subst ep2
        subst eq2
        refine nm_r (nI_1 i) (ih (nI (jb_rm G i), nI (jb_rm E i), upd xd' i (nI (D i) - nI T)) ⟨_, _, _, rfl, jb_Left_r g1 hle, jb_Left_r g2 hle, fun j hj hHj hTj => ?_, fun j hj => ?_⟩)
        · have e : j ≠ i := fun z => by rw [z] at hTj; exact hle hTj
          rw [pk_un e]; exact g3 j (by omega) hHj hTj
        · rw [pk_un (by omega)]; exact g4 j (by omega)
    · have hHi : ¬ H.testBit i = true := fun z => hb ((g1.2 i).mpr ⟨z, fun y => absurd y (by omega)⟩)
      refine br_t rfl (nm_r (nI_1 i) (ih (nI G, nI E, xd') ⟨G, E, xd', rfl, jb_Left_k g1 (fun z => absurd z hHi), jb_Left_k g2 (fun z => absurd (hF i z) hHi), fun j hj hHj hTj => ?_, fun j hj => g4 j (by omega)⟩))
      have e : j ≠ i := fun z => by rw [z] at hHj; exact hHi hHj
      exact g3 j (by omega) hHj hTj
