/-! the component's own methods, each against the pure picture -/
def jb_Arr (A : Nat) (L D : Nat → Nat) (xl xd : Nat → Int32) : Prop := ∀ i, A.testBit i = true → xl i = nI (L i) ∧ xd i = nI (D i) ∧ L i ≤ 50 ∧ D i ≤ 200
theorem jb_r1 : ¬ (1 : Int32) = 0 := by decide
theorem jb_td_bd {L D : Nat → Nat} {S d : Nat} (h : ∀ i, S.testBit i = true → L i ≤ 50) : jb_td L D S d ≤ 550 :=
  jb_sum_bd (c := 50) 11 (fun i _ hp => h i (jb_and hp).1)
theorem jb_tt_bd {L : Nat → Nat} {S : Nat} (h : ∀ i, S.testBit i = true → L i ≤ 50) : jb_tt L S ≤ 550 :=
  jb_sum_bd (c := 50) 11 (fun i _ hp => h i hp)
theorem jx_isIn {post : Int32 → Prop} {p S : Nat} (hS : S < 2048) (hp : p < 11) (t : S.testBit p = true → post 1) (f : ¬ S.testBit p = true → post 0) : wpX_isIn post (nI p) (nI S) :=
  br_c (fun h => t ((jb_bit1 hS hp).mp h)) (fun h => f (fun z => h ((jb_bit1 hS hp).mpr z)))
theorem jx_isWithin {post : Int32 → Prop} {a b : Nat} (ha : a < 2048) (t : jb_Sub a b → post 1) (f : ¬ jb_Sub a b → post 0) : wpX_isWithin post (nI a) (nI b) :=
  br_c (fun h => t ((jb_nsub ha).mp h)) (fun h => f (fun z => h ((jb_nsub ha).mpr z)))
theorem jx_sizeOf {post : Int32 → Prop} {S : Nat} (hS : S < 2048) (h : post (nI (jb_sz S))) : wpX_sizeOf post (nI S) := by
  unfold wpX_sizeOf
  refine loop_0 (fun n i s => wX_sizeOf_4 post (nI S) n s (nI i)) (fun i s => s = nI (jb_sum (fun i => S.testBit i) (fun _ => 1) i)) 11 0 rfl ?_ ?_
  · intro n s e
    subst e
    exact br_t (nI_le (a := 11) (b := 11) (Nat.le_refl _) (by decide)) h
  · intro n i s hi e ih
    subst e
    have e2 : nI (jb_sum (fun i => S.testBit i) (fun _ => 1) i) + ((nI S >>> (nI i &&& 31)) &&& 1) = nI (jb_sum (fun i => S.testBit i) (fun _ => 1) (i + 1)) := by
      rw [jb_bit hS hi]; exact nI_add _ _
    exact br_f (nI_ge (b := 11) hi (by decide)) (nm_r e2 (nm_r (nI_1 i) (ih _ rfl)))
theorem jx_timeDueBy {post : Int32 → Prop} {f0 f1 : Int32} {xl xd : Nat → Int32} {A : Nat} {L D : Nat → Nat} {S d : Nat} (hA : A < 2048) (ha : jb_Arr A L D xl xd) (hs : jb_Sub S A) (hd : d < 2 ^ 31) (h : post (nI (jb_td L D S d))) : wpX_timeDueBy post (f0, f1, xl, xd) (nI S) (nI d) := by
  have hS : S < 2048 := Nat.lt_of_le_of_lt (jb_Sub_le hs) hA
  unfold wpX_timeDueBy
  refine loop_0 (fun n i s => wX_timeDueBy_5 post (nI S) (nI d) f0 f1 xl xd n s (nI i)) (fun i s => s = nI (jb_sum (fun i => S.testBit i && decide (D i ≤ d)) L i)) 11 0 rfl ?_ ?_
  · intro n s e
    subst e
    exact br_t (nI_le (a := 11) (b := 11) (Nat.le_refl _) (by decide)) h
  · intro n i s hi e ih
    subst e
    refine br_f (nI_ge (b := 11) hi (by decide)) (jx_isIn hS hi (fun hb => ?_) (fun hb => ?_))
    · obtain ⟨e1, e2, e3, e4⟩ := ha i (hs i hb)
      have hc : (nI i).toNatClampNeg = i := nI_clamp (by omega)
      refine br_f jb_r1 ⟨vp_in_nI hi (by decide), ?_⟩
      rw [hc, e2, e1]
      refine pk_lt d (D i) (fun hlt => nm_r (nI_1 i) (ih _ (congrArg nI (jb_sum_f (fun z => ?_)).symm))) (fun hle => ⟨vp_in_nI hi (by decide), nm_r ((nI_add _ _).trans (congrArg nI (jb_sum_t ?_).symm)) (nm_r (nI_1 i) (ih _ rfl))⟩)
      · have h2 := of_decide_eq_true (jb_and z).2; omega
      · exact jb_and_i hb (decide_eq_true hle)
    · exact br_t rfl (nm_r (nI_1 i) (ih _ (congrArg nI (jb_sum_f (fun z => hb (jb_and z).1)).symm)))
theorem jx_allInTime {post : Int32 → Prop} {f0 f1 : Int32} {xl xd : Nat → Int32} {A : Nat} {L D : Nat → Nat} {S : Nat} (hA : A < 2048) (ha : jb_Arr A L D xl xd) (hs : jb_Sub S A) (t : jb_AT L D S → post 1) (f : ¬ jb_AT L D S → post 0) : wpX_allInTime post (f0, f1, xl, xd) (nI S) := by
  have hS : S < 2048 := Nat.lt_of_le_of_lt (jb_Sub_le hs) hA
  unfold wpX_allInTime
  refine loop_0 (fun n i (_ : Unit) => wX_allInTime_2 post (nI S) f0 f1 xl xd n (nI i)) (fun i _ => ∀ j, j < i → S.testBit j = true → jb_td L D S (D j) ≤ D j) 11 () (fun j hj => absurd hj (by omega)) ?_ ?_
  · intro n _ h
    exact br_t (nI_le (a := 11) (b := 11) (Nat.le_refl _) (by decide)) (t h)
  · intro n i _ hi h ih
    refine br_f (nI_ge (b := 11) hi (by decide)) (jx_isIn hS hi (fun hb => ?_) (fun hb => ?_))
    · obtain ⟨e1, e2, e3, e4⟩ := ha i (hs i hb)
      have hc : (nI i).toNatClampNeg = i := nI_clamp (by omega)
      have hbd : jb_td L D S (D i) ≤ 550 := jb_td_bd (fun j hj => (ha j (hs j hj)).2.2.1)
      refine br_f jb_r1 ⟨vp_in_nI hi (by decide), ?_⟩
      rw [hc, e2]
      refine jx_timeDueBy hA ha hs (by omega) ⟨vp_in_nI hi (by decide), ?_⟩
      exact pk_le (jb_td L D S (D i)) (D i) (fun hle => nm_r (nI_1 i) (ih () (lt_s h (fun _ => hle)))) (fun hgt => f (fun z => absurd (z i hi hb) (by omega)))
    · exact br_t rfl (nm_r (nI_1 i) (ih () (lt_s h (fun z => absurd z hb))))
theorem jx_ggs {post : Int32 → Prop} {f0 f1 : Int32} {xl xd : Nat → Int32} {A : Nat} {L D : Nat → Nat} {F : Nat} (hA : A < 2048) (ha : jb_Arr A L D xl xd) (hF : jb_Sub F A) (h : ∀ r, jb_Ans (jb_Ok A L D F) r → post r) : wpX_greatestGoodSize post (f0, f1, xl, xd) (nI A) (nI F) := by
  have hF2 : F < 2048 := Nat.lt_of_le_of_lt (jb_Sub_le hF) hA
  unfold wpX_greatestGoodSize
  dsimp only
  refine jx_allInTime hA ha hF (fun hat => ?_) (fun hn => br_t rfl (h _ (Or.inl ⟨fun S hS => hn (jb_AT_mono hS.2 hS.1.2), rfl⟩)))
  refine br_f jb_r1 (jx_sizeOf hF2 ?_)
  refine loop_0 (fun n i s => wX_greatestGoodSize_19 post (nI A) (nI F) f0 f1 xl xd n s (nI i)) (fun i s => ∃ m, s = nI m ∧ (∃ S, jb_Ok A L D F S ∧ jb_sz S = m) ∧ ∀ S, S < i → jb_Ok A L D F S → jb_sz S ≤ m) 2048 (nI (jb_sz F)) ⟨jb_sz F, rfl, ⟨F, ⟨⟨hF, hat⟩, jb_Sub_rf F⟩, rfl⟩, fun S z => absurd z (by omega)⟩ ?_ ?_
  · intro n s ⟨m, e, ⟨S, hS, eS⟩, hm⟩
    subst e
    have h1 := jb_sz_le S
    exact br_t (nI_le (a := 2048) (b := 2048) (Nat.le_refl _) (by decide)) (h _ (Or.inr ⟨m, by omega, rfl, ⟨S, hS, eS⟩, fun R hR => hm R (jb_Ok_lt hA hR) hR⟩))
  · intro n i s hi ⟨m, e, hex, hm⟩ ih
    subst e
    have hm11 : m ≤ 11 := by
      obtain ⟨S, _, eS⟩ := hex
      have h1 := jb_sz_le S
      omega
    have hz := jb_sz_le i
    have keep : (jb_Ok A L D F i → jb_sz i ≤ m) → ∀ x, x = nI i + 1 → wX_greatestGoodSize_19 post (nI A) (nI F) f0 f1 xl xd n (nI m) x :=
      fun hk => nm_r (nI_1 i) (ih _ ⟨m, rfl, hex, lt_s hm hk⟩)
    refine br_f (nI_ge (b := 2048) hi (by decide)) (jx_isWithin hi (fun h1 => ?_) (fun h1 => br_t rfl (keep fun z => absurd z.1.1 h1)))
    refine br_f jb_r1 (jx_isWithin hF2 (fun h2 => ?_) (fun h2 => br_t rfl (keep fun z => absurd z.2 h2)))
    refine br_f jb_r1 (jx_sizeOf hi ?_)
    refine pk_le (jb_sz i) m (fun hle => keep fun _ => hle) (fun hlt => ?_)
    refine jx_allInTime hA ha h1 (fun h3 => ?_) (fun h3 => br_t rfl (keep fun z => absurd z.1.2 h3))
    exact br_f jb_r1 (nm_r (nI_1 i) (ih _ ⟨jb_sz i, rfl, ⟨i, ⟨⟨h1, h3⟩, h2⟩, rfl⟩, lt_s (fun S z q => Nat.le_trans (hm S z q) (by omega)) (fun _ => Nat.le_refl _)⟩))
theorem jx_lgt {post : Int32 → Prop} {xl xd : Nat → Int32} {H : Nat} {L D : Nat → Nat} {F m : Nat} (hH : H < 1024) (ha : jb_Arr H L D xl xd) (hF : jb_Sub F H) (hm11 : m ≤ 11)
    (h : ∀ l, (l = 500 ∨ ∃ S, jb_Ok H L D F S ∧ jb_sz S = m ∧ jb_tt L S = l) → l ≤ 500 → (∀ S, jb_Ok H L D F S → jb_sz S = m → l ≤ jb_tt L S) → post (nI l)) : wpX_leastGoodTime post (nI H, nI F, xl, xd) (nI m) := by
  have hF1 : F < 1024 := Nat.lt_of_le_of_lt (jb_Sub_le hF) hH
  have hF2 : F < 2048 := by omega
  have hA : H < 2048 := by omega
  unfold wpX_leastGoodTime
  refine loop_0 (fun n i s => wX_leastGoodTime_6 post (nI m) (nI H) (nI F) xl xd n s (nI i)) (fun i s => ∃ l, s = nI l ∧ (l = 500 ∨ ∃ S, jb_Ok H L D F S ∧ jb_sz S = m ∧ jb_tt L S = l) ∧ l ≤ 500 ∧ ∀ S, S < i → jb_Ok H L D F S → jb_sz S = m → l ≤ jb_tt L S) 1024 (nI 500) ⟨500, rfl, Or.inl rfl, Nat.le_refl _, fun S z => absurd z (by omega)⟩ ?_ ?_
  · intro n s ⟨l, e, hex, hl, hm⟩
    subst e
    exact br_t (nI_le (a := 1024) (b := 1024) (Nat.le_refl _) (by decide)) (h l hex hl (fun S hS => hm S (jb_Ok_lt hH hS) hS))
  · intro n i s hi ⟨l, e, hex, hl, hm⟩ ih
    subst e
    have hi2 : i < 2048 := by omega
    have hz := jb_sz_le i
    have keep : (jb_Ok H L D F i → jb_sz i = m → l ≤ jb_tt L i) → ∀ x, x = nI i + 1 → wX_leastGoodTime_6 post (nI m) (nI H) (nI F) xl xd n (nI l) x :=
      fun hk => nm_r (nI_1 i) (ih _ ⟨l, rfl, hex, hl, lt_s hm hk⟩)
    refine br_f (nI_ge (b := 1024) hi (by decide)) (jx_isWithin hi2 (fun h1 => ?_) (fun h1 => br_t rfl (keep fun z => absurd z.1.1 h1)))
    refine br_f jb_r1 (jx_isWithin hF2 (fun h2 => ?_) (fun h2 => br_t rfl (keep fun z => absurd z.2 h2)))
    refine br_f jb_r1 (jx_sizeOf hi2 ?_)
    refine pk_eq (jb_sz i) m (fun heq => ?_) (fun hne => keep fun _ z => absurd z hne)
    refine jx_timeDueBy (d := 200) hA ha h1 (by omega) ?_
    have htt : jb_td L D i 200 = jb_tt L i := jb_td_all (fun j _ hj => (ha j (h1 j hj)).2.2.2)
    have hbd : jb_tt L i ≤ 550 := jb_tt_bd (fun j hj => (ha j (h1 j hj)).2.2.1)
    rw [htt]
    refine pk_le l (jb_tt L i) (fun hle => keep fun _ _ => hle) (fun hlt => ?_)
    refine jx_allInTime hA ha h1 (fun h3 => ?_) (fun h3 => br_t rfl (keep fun z => absurd z.1.2 h3))
    exact br_f jb_r1 (nm_r (nI_1 i) (ih _ ⟨jb_tt L i, rfl, Or.inr ⟨i, ⟨⟨h1, h3⟩, h2⟩, heq, rfl⟩, by omega, lt_s (fun S z q y => Nat.le_trans (by omega) (hm S z q y)) (fun _ _ => Nat.le_refl _)⟩))
