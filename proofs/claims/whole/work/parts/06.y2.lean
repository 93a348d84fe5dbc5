/-! the reference's firmSet, most, leastTime -/
theorem jb_eq {A B : Nat} (h : ∀ j, A.testBit j = true ↔ B.testBit j = true) : A = B :=
  Nat.eq_of_testBit_eq (fun j => Bool.eq_iff_iff.mpr (h j))
theorem jb_H_of {H : Nat} {L : Nat → Nat} {i : Nat} (e4 : ¬ H.testBit i = true → L i = 0) (h : 0 < L i) : H.testBit i = true := by
  cases hb : H.testBit i
  · have h3 := e4 (by rw [hb]; decide)
    omega
  · rfl
theorem jy_firmSet {post : Int32 → Prop} {yl yd yf yg yj : Nat → Int32} {H F : Nat} {L : Nat → Nat} (hl : jb_Yl H L yl) (hf : jb_Yf H F yf) (hF : jb_Sub F H) (hH : H < 1024) (h : post (nI F)) : wpY_firmSet post (yl, yd, yf, yg, yj) := by
  unfold wpY_firmSet
  refine loop_0 (fun n i s => wY_firmSet_4 post yl yd yf yg yj n s (nI i)) (fun i s => ∃ G, s = nI G ∧ ∀ j, G.testBit j = true ↔ (F.testBit j = true ∧ j < i)) 10 0 ⟨0, rfl, fun j => ⟨fun z => ?_, fun z => absurd z.2 (by omega)⟩⟩ ?_ ?_
  · rw [Nat.zero_testBit] at z; exact absurd z (by decide)
  · intro n s ⟨G, e, hG⟩
    subst e
    have eG : G = F := jb_eq (fun j => ⟨fun z => ((hG j).mp z).1, fun z => (hG j).mpr ⟨z, jb_lo10 hH (hF j z)⟩⟩)
    rw [eG]
    exact br_t (nI_le (a := 10) (b := 10) (Nat.le_refl _) (by decide)) h
  · intro n i s hi ⟨G, e, hG⟩ ih
    subst e
    obtain ⟨e1, e2, e3, e4⟩ := hl i hi
    have hc : (nI i).toNatClampNeg = i := nI_clamp (by omega)
    have skip : ¬ F.testBit i = true → ∀ x, x = nI i + 1 → wY_firmSet_4 post yl yd yf yg yj n (nI G) x := fun hn =>
      nm_r (nI_1 i) (ih _ ⟨G, rfl, fun j => ⟨fun z => ⟨((hG j).mp z).1, by have h2 := ((hG j).mp z).2; omega⟩, fun z => (hG j).mpr ⟨z.1, by
        have h2 : j ≠ i := fun e => by rw [e] at z; exact hn z.1
        omega⟩⟩⟩)
    refine br_f (nI_ge (b := 10) hi (by decide)) ⟨vp_in_nI hi (by decide), ?_⟩
    rw [hc, e1]
    refine pk_le (L i) 0 (fun hz => skip (fun z => ?_)) (fun hz => ⟨vp_in_nI hi (by decide), ?_⟩)
    · have h3 := e3 (hF i z)
      omega
    · have hHi := jb_H_of e4 hz
      by_cases hFi : F.testBit i = true
      · rw [(hf i hHi).1 hFi]
        refine br_f jb_r1 (nm_r (jb_nad (by omega)) (nm_r (nI_1 i) (ih _ ⟨jb_ad G i, rfl, fun j => ?_⟩)))
        constructor
        · intro z
          rcases jb_ad_of z with y | y
          · exact ⟨((hG j).mp y).1, by have h2 := ((hG j).mp y).2; omega⟩
          · rw [y]; exact ⟨hFi, by omega⟩
        · intro z
          by_cases e : j = i
          · rw [e]; exact jb_ad_s G i
          · exact jb_ad_sub G i j ((hG j).mpr ⟨z.1, by have h2 := z.2; omega⟩)
      · rw [(hf i hHi).2 hFi]
        exact br_t rfl (skip hFi)
/-! the greatest so far -/
def jb_To (i : Nat) (P : Nat → Prop) (s : Int32) : Prop := ((∀ S, S < i → ¬ P S) ∧ s = -3) ∨ (∃ m, m ≤ 11 ∧ s = nI m ∧ (∃ S, P S ∧ jb_sz S = m) ∧ ∀ S, S < i → P S → jb_sz S ≤ m)
theorem jb_gt3 : ∀ m, m < 12 → ¬ nI m ≤ -3 := by decide +kernel
theorem jb_nn3 {m : Nat} (h : m < 2 ^ 31) : ¬ nI m = -3 := fun e => nI_pos h (by rw [e]; decide)
theorem jb_To_k {i : Nat} {P : Nat → Prop} {s : Int32} (h : jb_To i P s) (hn : ¬ P i) : jb_To (i + 1) P s := by
  rcases h with ⟨h1, h2⟩ | ⟨m, h0, h1, h2, h3⟩
  · exact Or.inl ⟨lt_s h1 hn, h2⟩
  · exact Or.inr ⟨m, h0, h1, h2, lt_s h3 (fun z => absurd z hn)⟩
theorem jb_To_l {i : Nat} {P : Nat → Prop} {s : Int32} (h : jb_To i P s) (hle : nI (jb_sz i) ≤ s) : jb_To (i + 1) P s := by
  have hz := jb_sz_le i
  rcases h with ⟨h1, h2⟩ | ⟨m, h0, h1, h2, h3⟩
  · rw [h2] at hle
    exact absurd hle (jb_gt3 _ (by omega))
  · rw [h1, nI_leI (by omega) (by omega)] at hle
    exact Or.inr ⟨m, h0, h1, h2, lt_s h3 (fun _ => hle)⟩
theorem jb_To_n {i : Nat} {P : Nat → Prop} {s : Int32} (h : jb_To i P s) (hp : P i) (hle : ¬ nI (jb_sz i) ≤ s) : jb_To (i + 1) P (nI (jb_sz i)) := by
  have hz := jb_sz_le i
  refine Or.inr ⟨jb_sz i, hz, rfl, ⟨i, hp, rfl⟩, lt_s (fun S hS pS => ?_) (fun _ => Nat.le_refl _)⟩
  rcases h with ⟨h1, h2⟩ | ⟨m, h0, h1, h2, h3⟩
  · exact absurd pS (h1 S hS)
  · rw [h1, nI_leI (by omega) (by omega)] at hle
    have h4 := h3 S hS pS
    omega
theorem jb_To_e {N : Nat} {P : Nat → Prop} {s : Int32} (h : jb_To N P s) (hN : ∀ S, P S → S < N) : jb_Ans P s := by
  rcases h with ⟨h1, h2⟩ | ⟨m, h0, h1, h2, h3⟩
  · exact Or.inl ⟨fun S pS => h1 S (hN S pS) pS, h2⟩
  · exact Or.inr ⟨m, h0, h1, h2, fun S pS => h3 S (hN S pS) pS⟩
theorem jy_most {post : Int32 → SY → Prop} {yl yd yf yg yj : Nat → Int32} {H : Nat} {L D : Nat → Nat} {F : Nat} (hl : jb_Yl H L yl) (hd : jb_Yd H D yd) (hH : H < 1024) (hF : F < 1024) (h : ∀ r g, jb_Gd 1024 (jb_FE H L D) g → jb_Ans (jb_Ok H L D F) r → post r (yl, yd, yf, g, yj)) : wpY_most post (yl, yd, yf, yg, yj) (nI F) := by
  have hF2 : F < 2048 := by omega
  unfold wpY_most
  dsimp only
  refine jy_findGood hl hd (fun g hg => ?_)
  show ∃ n, wY_most_9 post (nI F) yl yd yf g yj n (-3) 0
  refine loop_0 (fun n i s => wY_most_9 post (nI F) yl yd yf g yj n s (nI i)) (fun i s => jb_To i (jb_Ok H L D F) s) 1024 (-3) (Or.inl ⟨fun S z => absurd z (by omega), rfl⟩) ?_ ?_
  · intro n s hs
    exact br_t (nI_le (a := 1024) (b := 1024) (Nat.le_refl _) (by decide)) (h s g hg (jb_To_e hs (fun S hS => jb_Ok_lt hH hS)))
  · intro n i s hi hs ih
    have hc : (nI i).toNatClampNeg = i := nI_clamp (by omega)
    refine br_f (nI_ge (b := 1024) hi (by decide)) ⟨vp_in_nI hi (by decide), ?_⟩
    rw [hc]
    by_cases hf : jb_FE H L D i
    · rw [(hg i hi).1 hf]
      refine br_f jb_r1 (br_c (fun hw => ?_) (fun hw => nm_r (nI_1 i) (ih _ (jb_To_k hs (fun z => hw ((jb_nsub hF2).mpr z.2))))))
      have hw2 := (jb_nsub hF2).mp hw
      refine jy_sizeOf hi ?_
      exact br_c (fun hle => nm_r (nI_1 i) (ih _ (jb_To_l hs hle))) (fun hle => nm_r (nI_1 i) (ih _ (jb_To_n hs ⟨hf, hw2⟩ hle)))
    · rw [(hg i hi).2 hf]
      exact br_t rfl (nm_r (nI_1 i) (ih _ (jb_To_k hs (fun z => hf z.1))))
/-! the least so far -/
def jb_Lo (i : Nat) (Q : Nat → Prop) (L : Nat → Nat) (s : Int32) : Prop := ((∀ S, S < i → ¬ Q S) ∧ s = -3) ∨ (∃ l, l ≤ 550 ∧ s = nI l ∧ (∃ S, Q S ∧ jb_tt L S = l) ∧ ∀ S, S < i → Q S → l ≤ jb_tt L S)
theorem jb_Lo_k {i : Nat} {Q : Nat → Prop} {L : Nat → Nat} {s : Int32} (h : jb_Lo i Q L s) (hn : ¬ Q i) : jb_Lo (i + 1) Q L s := by
  rcases h with ⟨h1, h2⟩ | ⟨m, h0, h1, h2, h3⟩
  · exact Or.inl ⟨lt_s h1 hn, h2⟩
  · exact Or.inr ⟨m, h0, h1, h2, lt_s h3 (fun z => absurd z hn)⟩
theorem jy_leastTime {post : Int32 → SY → Prop} {yl yd yf yg yj : Nat → Int32} {H F : Nat} {L D : Nat → Nat} (hl : jb_Yl H L yl) (hd : jb_Yd H D yd) (hf : jb_Yf H F yf) (hF : jb_Sub F H) (hH : H < 1024) (h : ∀ r g, jb_LAns (jb_Ok H L D F) L r → post r (yl, yd, yf, g, yj)) : wpY_leastTime post (yl, yd, yf, yg, yj) := by
  have hF1 : F < 1024 := Nat.lt_of_le_of_lt (jb_Sub_le hF) hH
  have hF2 : F < 2048 := by omega
  unfold wpY_leastTime
  dsimp only
  refine jy_firmSet hl hf hF hH ?_
  refine jy_most hl hd hH hF1 (fun r g hg hr => ?_)
  show ∃ n, wY_leastTime_17 post (nI F) r yl yd yf g yj n (-3) 0
  refine loop_0 (fun n i s => wY_leastTime_17 post (nI F) r yl yd yf g yj n s (nI i)) (fun i s => jb_Lo i (fun S => jb_Ok H L D F S ∧ nI (jb_sz S) = r) L s) 1024 (-3) (Or.inl ⟨fun S z => absurd z (by omega), rfl⟩) ?_ ?_
  · intro n s hs
    refine br_t (nI_le (a := 1024) (b := 1024) (Nat.le_refl _) (by decide)) (h s g ?_)
    rcases hr with ⟨a1, a2⟩ | ⟨m, a0, a1, a2⟩
    · rcases hs with ⟨b1, b2⟩ | ⟨l, b0, b1, ⟨S, bS, _⟩, b3⟩
      · exact Or.inl ⟨a1, b2⟩
      · exact absurd bS.1 (a1 S)
    · have conv : ∀ S, nI (jb_sz S) = r → jb_sz S = m := fun S e => by
        have hz := jb_sz_le S
        rw [a1, nI_eq (by omega) (by omega)] at e
        exact e
      rcases hs with ⟨b1, b2⟩ | ⟨l, b0, b1, ⟨S, bS, b2⟩, b3⟩
      · obtain ⟨⟨S, pS, zS⟩, _⟩ := a2
        exact absurd ⟨pS, by rw [zS, a1]⟩ (b1 S (jb_Ok_lt hH pS))
      · exact Or.inr ⟨m, l, a2, b1, ⟨S, bS.1, conv S bS.2, b2⟩, fun R pR zR => b3 R (jb_Ok_lt hH pR) ⟨pR, by rw [zR, a1]⟩⟩
  · intro n i s hi hs ih
    have hc : (nI i).toNatClampNeg = i := nI_clamp (by omega)
    refine br_f (nI_ge (b := 1024) hi (by decide)) ⟨vp_in_nI hi (by decide), ?_⟩
    rw [hc]
    by_cases hfe : jb_FE H L D i
    · rw [(hg i hi).1 hfe]
      refine br_f jb_r1 (br_c (fun hw => ?_) (fun hw => nm_r (nI_1 i) (ih _ (jb_Lo_k hs (fun z => hw ((jb_nsub hF2).mpr z.1.2))))))
      have hw2 := (jb_nsub hF2).mp hw
      refine jy_sizeOf hi ?_
      refine br_c (fun he => ?_) (fun he => nm_r (nI_1 i) (ih _ (jb_Lo_k hs (fun z => he z.2))))
      have hbd := jb_Yl_bd hl hi
      refine jy_timeOf hl hi ?_
      have hQ : jb_Ok H L D F i ∧ nI (jb_sz i) = r := ⟨⟨hfe, hw2⟩, he⟩
      rcases hs with ⟨b1, b2⟩ | ⟨l, b0, b1, b2, b3⟩
      · refine br_t b2 (nm_r (nI_1 i) (ih _ (Or.inr ⟨jb_tt L i, hbd, rfl, ⟨i, hQ, rfl⟩, lt_s (fun S hS qS => absurd qS (b1 S hS)) (fun _ => Nat.le_refl _)⟩)))
      · subst b1
        refine br_f (jb_nn3 (by omega)) ?_
        refine pk_le l (jb_tt L i) (fun hle => nm_r (nI_1 i) (ih _ (Or.inr ⟨l, b0, rfl, b2, lt_s b3 (fun _ => hle)⟩))) (fun hlt => nm_r (nI_1 i) (ih _ (Or.inr ⟨jb_tt L i, hbd, rfl, ⟨i, hQ, rfl⟩, lt_s (fun S hS qS => ?_) (fun _ => Nat.le_refl _)⟩)))
        have h4 := b3 S hS qS
        omega
    · rw [(hg i hi).2 hfe]
      exact br_t rfl (nm_r (nI_1 i) (ih _ (jb_Lo_k hs (fun z => hfe z.1.1))))
