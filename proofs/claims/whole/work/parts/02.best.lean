/-! the answers that are greatest and least over good sets; a guest in place 10 -/
def jb_Ok (H : Nat) (L D : Nat → Nat) (F S : Nat) : Prop := jb_FE H L D S ∧ jb_Sub F S
def jb_Top (P : Nat → Prop) (m : Nat) : Prop := (∃ S, P S ∧ jb_sz S = m) ∧ ∀ S, P S → jb_sz S ≤ m
def jb_Ans (P : Nat → Prop) (r : Int32) : Prop := ((∀ S, ¬ P S) ∧ r = -3) ∨ (∃ m, m ≤ 11 ∧ r = nI m ∧ jb_Top P m)
def jb_LAns (P : Nat → Prop) (L : Nat → Nat) (r : Int32) : Prop := ((∀ S, ¬ P S) ∧ r = -3) ∨ (∃ m l, jb_Top P m ∧ r = nI l ∧ (∃ S, P S ∧ jb_sz S = m ∧ jb_tt L S = l) ∧ ∀ S, P S → jb_sz S = m → l ≤ jb_tt L S)
theorem jb_sz_le (S : Nat) : jb_sz S ≤ 11 := jb_sum_bd (c := 1) 11 (fun _ _ _ => Nat.le_refl _)
theorem jb_Top_u {P : Nat → Prop} {m m' : Nat} (h : jb_Top P m) (g : jb_Top P m') : m' = m := by
  obtain ⟨⟨S, pS, eS⟩, hS⟩ := h
  obtain ⟨⟨R, pR, eR⟩, hR⟩ := g
  have h1 := hS R pR
  have h2 := hR S pS
  omega
theorem jb_Ans_u {P : Nat → Prop} {r r' : Int32} (h : jb_Ans P r) (g : jb_Ans P r') : r' = r := by
  rcases h with ⟨h1, h2⟩ | ⟨m, h0, h1, h2⟩
  · rcases g with ⟨g1, g2⟩ | ⟨m', g0, g1, g2⟩
    · rw [h2, g2]
    · obtain ⟨⟨S, pS, _⟩, _⟩ := g2; exact absurd pS (h1 S)
  · rcases g with ⟨g1, g2⟩ | ⟨m', g0, g1, g2⟩
    · obtain ⟨⟨S, pS, _⟩, _⟩ := h2; exact absurd pS (g1 S)
    · rw [h1, g1, jb_Top_u h2 g2]
theorem jb_LAns_u {P : Nat → Prop} {L : Nat → Nat} {r r' : Int32} (h : jb_LAns P L r) (g : jb_LAns P L r') : r' = r := by
  rcases h with ⟨h1, h2⟩ | ⟨m, l, h0, h1, ⟨S, pS, zS, tS⟩, h3⟩
  · rcases g with ⟨g1, g2⟩ | ⟨m', l', g0, g1, ⟨S, pS, _⟩, g3⟩
    · rw [h2, g2]
    · exact absurd pS (h1 S)
  · rcases g with ⟨g1, g2⟩ | ⟨m', l', g0, g1, ⟨R, pR, zR, tR⟩, g3⟩
    · exact absurd pS (g1 S)
    · have e := jb_Top_u h0 g0
      have a := h3 R pR (by rw [zR, e])
      have b := g3 S pS (by rw [zS, e])
      have c : l' = l := by omega
      rw [h1, g1, c]
theorem jb_n3 : ∀ m, m < 12 → ¬ nI m = -3 := by decide +kernel
theorem jb_Ok_lt {H : Nat} {L D : Nat → Nat} {F S n : Nat} (hH : H < n) (h : jb_Ok H L D F S) : S < n :=
  Nat.lt_of_le_of_lt (jb_Sub_le h.1.1) hH
theorem jb_Ok_F {H : Nat} {L D : Nat → Nat} {F S : Nat} (h : jb_Ok H L D F S) : jb_Ok H L D F F :=
  ⟨jb_FE_mono h.2 h.1, jb_Sub_rf F⟩
/-! ===== the guest ===== -/
theorem jb_td_ext {L D L' D' : Nat → Nat} {S d : Nat} (hS : S < 1024) (hl : ∀ i, i < 10 → L' i = L i) (hd : ∀ i, i < 10 → D' i = D i) : jb_td L' D' S d = jb_td L D S d := by
  refine jb_sum_congr 11 (fun i _ => ?_) (fun i _ hp => ?_)
  · show (S.testBit i && decide (D' i ≤ d)) = (S.testBit i && decide (D i ≤ d))
    cases hb : S.testBit i
    · rfl
    · rw [hd i (jb_lo10 hS hb)]
  · exact hl i (jb_lo10 hS (jb_and hp).1)
theorem jb_AT_ext {L D L' D' : Nat → Nat} {S : Nat} (hS : S < 1024) (hl : ∀ i, i < 10 → L' i = L i) (hd : ∀ i, i < 10 → D' i = D i) : jb_AT L' D' S ↔ jb_AT L D S := by
  constructor
  · intro h i hi hb
    have h1 := h i hi hb
    rw [jb_td_ext hS hl hd, hd i (jb_lo10 hS hb)] at h1
    exact h1
  · intro h i hi hb
    have h1 := h i hi hb
    rw [jb_td_ext hS hl hd, hd i (jb_lo10 hS hb)]
    exact h1
theorem jb_FE_ext {H : Nat} {L D L' D' : Nat → Nat} {S : Nat} (hS : S < 1024) (hl : ∀ i, i < 10 → L' i = L i) (hd : ∀ i, i < 10 → D' i = D i) : jb_FE (jb_ad H 10) L' D' S ↔ jb_FE H L D S := by
  constructor
  · intro ⟨h1, h2⟩
    refine ⟨fun i hb => ?_, (jb_AT_ext hS hl hd).mp h2⟩
    have h3 := jb_lo10 hS hb
    rcases jb_ad_of (h1 i hb) with z | z
    · exact z
    · omega
  · intro ⟨h1, h2⟩
    exact ⟨jb_Sub_tr h1 (jb_ad_sub H 10), (jb_AT_ext hS hl hd).mpr h2⟩
theorem jb_tt_10 {L : Nat → Nat} {S : Nat} (hS : S < 1024) : jb_tt L S = jb_sum (fun i => S.testBit i) L 10 := by
  have h : ¬ (fun i => S.testBit i) 10 = true := by
    show ¬ S.testBit 10 = true
    rw [jb_hi10 hS (Nat.le_refl _)]; decide
  exact jb_sum_f h
theorem jb_sz_10 {S : Nat} (hS : S < 1024) : jb_sz S = jb_sum (fun i => S.testBit i) (fun _ => 1) 10 := jb_tt_10 (L := fun _ => 1) hS
theorem jb_tt_ad {L L' : Nat → Nat} {S : Nat} (hS : S < 1024) (hl : ∀ i, i < 10 → L' i = L i) : jb_tt L' (jb_ad S 10) = jb_tt L S + L' 10 := by
  rw [jb_tt_10 hS]
  have h : (fun i => (jb_ad S 10).testBit i) 10 = true := jb_ad_s S 10
  have h2 : jb_tt L' (jb_ad S 10) = jb_sum (fun i => (jb_ad S 10).testBit i) L' 10 + L' 10 := jb_sum_t h
  rw [h2]
  congr 1
  exact jb_sum_congr 10 (fun i hi => jb_ad_n (by omega)) (fun i hi _ => hl i hi)
theorem jb_sz_ad {S : Nat} (hS : S < 1024) : jb_sz (jb_ad S 10) = jb_sz S + 1 :=
  jb_tt_ad (L := fun _ => 1) (L' := fun _ => 1) hS (fun _ _ => rfl)
theorem jb_rm_ad {S : Nat} (hS : S < 1024) : jb_rm (jb_ad S 10) 10 = S := by
  have h1 : jb_ad S 10 < 2048 := jb_ad_lt11 (by omega) (by omega)
  apply Nat.eq_of_testBit_eq
  intro j
  rw [jb_rm_t h1]
  by_cases e : j = 10
  · rw [decide_eq_false (fun z => z e), e, jb_hi10 hS (Nat.le_refl _)]; cases (jb_ad S 10).testBit 10 <;> rfl
  · rw [jb_ad_n e, decide_eq_true e]; cases S.testBit j <;> rfl
theorem jb_rm_ad2 {S i : Nat} (hS : S < 1024) (hi : i < 10) : jb_rm (jb_ad S 10) i = jb_ad (jb_rm S i) 10 := by
  have h1 : jb_ad S 10 < 2048 := jb_ad_lt11 (by omega) (by omega)
  have h2 : S < 2048 := by omega
  apply Nat.eq_of_testBit_eq
  intro j
  rw [jb_rm_t h1]
  by_cases e : j = 10
  · have e2 : j ≠ i := by omega
    rw [decide_eq_true e2, e, jb_ad_s, jb_ad_s]; rfl
  · rw [jb_ad_n e, jb_ad_n e, jb_rm_t h2]
theorem jb_ad_rm {S : Nat} (hS : S < 2048) (hb : S.testBit 10 = true) : jb_ad (jb_rm S 10) 10 = S := by
  apply Nat.eq_of_testBit_eq
  intro j
  by_cases e : j = 10
  · rw [e, jb_ad_s, hb]
  · rw [jb_ad_n e, jb_rm_t hS, decide_eq_true e]; cases S.testBit j <;> rfl
theorem jb_ne0 {S i : Nat} (h : S.testBit i = true) : S ≠ 0 := fun e => by
  rw [e, Nat.zero_testBit] at h; exact absurd h (by decide)
theorem jb_jstep {H : Nat} {L D L' D' : Nat → Nat} {S : Nat} (hS : S < 1024) (hl : ∀ i, i < 10 → L' i = L i) (hd : ∀ i, i < 10 → D' i = D i) :
    jb_FE (jb_ad H 10) L' D' (jb_ad S 10) ↔ (jb_FE H L D S ∧ jb_tt L S + L' 10 ≤ D' 10) ∨ ∃ i, i < 10 ∧ S.testBit i = true ∧ H.testBit i = true ∧ jb_tt L S + L' 10 ≤ D i ∧ jb_FE (jb_ad H 10) L' D' (jb_ad (jb_rm S i) 10) := by
  have h1 : jb_ad S 10 < 2048 := jb_ad_lt11 (by omega) (by omega)
  rw [jb_step h1 (jb_ne0 (jb_ad_s S 10)), jb_tt_ad hS hl]
  constructor
  · intro ⟨i, hi, hb, hh, ht, hf⟩
    by_cases e : i = 10
    · rw [e] at ht hf
      rw [jb_rm_ad hS] at hf
      exact Or.inl ⟨(jb_FE_ext hS hl hd).mp hf, ht⟩
    · have hi' : i < 10 := by omega
      rw [jb_ad_n e] at hb hh
      rw [jb_rm_ad2 hS hi'] at hf
      rw [hd i hi'] at ht
      exact Or.inr ⟨i, hi', hb, hh, ht, hf⟩
  · intro h
    rcases h with ⟨hf, ht⟩ | ⟨i, hi, hb, hh, ht, hf⟩
    · exact ⟨10, by omega, jb_ad_s S 10, jb_ad_s H 10, ht, by rw [jb_rm_ad hS]; exact (jb_FE_ext hS hl hd).mpr hf⟩
    · have e : i ≠ 10 := by omega
      exact ⟨i, by omega, by rw [jb_ad_n e]; exact hb, by rw [jb_ad_n e]; exact hh, by rw [hd i hi]; exact ht, by rw [jb_rm_ad2 hS hi]; exact hf⟩
theorem jb_wel {H : Nat} {L D L' D' : Nat → Nat} {F m : Nat} (hH : H < 1024) (hF : F < 1024) (hl : ∀ i, i < 10 → L' i = L i) (hd : ∀ i, i < 10 → D' i = D i) (ht : jb_Top (jb_Ok H L D F) m) :
    (∃ S, jb_Ok (jb_ad H 10) L' D' F S ∧ m < jb_sz S) ↔ ∃ S, S < 1024 ∧ jb_FE (jb_ad H 10) L' D' (jb_ad S 10) ∧ jb_Sub F S ∧ m < jb_sz S + 1 := by
  constructor
  · intro ⟨S, ⟨hf, hs⟩, hm⟩
    have h1 : jb_ad H 10 < 2048 := jb_ad_lt11 (by omega) (by omega)
    have h2 : S < 2048 := Nat.lt_of_le_of_lt (jb_Sub_le hf.1) h1
    cases hb : S.testBit 10
    · have h3 : S < 1024 := jb_lt10 (fun i hi => by
        have h4 := jb_lo11 h2 hi
        have h5 : i ≠ 10 := fun e => by rw [e, hb] at hi; exact absurd hi (by decide)
        omega)
      have h6 := ht.2 S ⟨(jb_FE_ext h3 hl hd).mp hf, hs⟩
      omega
    · have h3 : jb_rm S 10 < 1024 := jb_lt10 (fun i hi => by
        have h4 := jb_rm_ne h2 hi
        have h5 := jb_lo11 h2 h4.1
        have h6 := h4.2
        omega)
      have h4 := jb_ad_rm h2 hb
      refine ⟨jb_rm S 10, h3, by rw [h4]; exact hf, fun i hi => ?_, ?_⟩
      · have h5 := jb_lo10 hF hi
        exact jb_rm_of h2 (hs i hi) (by omega)
      · rw [← jb_sz_ad h3, h4]; exact hm
  · intro ⟨S, hS, hf, hs, hm⟩
    exact ⟨jb_ad S 10, ⟨hf, jb_Sub_tr hs (jb_ad_sub S 10)⟩, by rw [jb_sz_ad hS]; exact hm⟩
/-! ===== what Int32 makes of the bits ===== -/
theorem jb_nand (a b : Nat) : nI a &&& nI b = nI (a &&& b) := by
  apply Int32.toBitVec_inj.1
  show BitVec.ofNat 32 a &&& BitVec.ofNat 32 b = BitVec.ofNat 32 (a &&& b)
  apply BitVec.eq_of_getLsbD_eq
  intro i hi
  simp [hi]
theorem jb_nor (a b : Nat) : nI a ||| nI b = nI (a ||| b) := by
  apply Int32.toBitVec_inj.1
  show BitVec.ofNat 32 a ||| BitVec.ofNat 32 b = BitVec.ofNat 32 (a ||| b)
  apply BitVec.eq_of_getLsbD_eq
  intro i hi
  simp [hi]
theorem jb_nnot {a b : Nat} (ha : a < 2048) : nI a &&& (nI b ^^^ (-1)) = nI (a &&& (2047 ^^^ b)) := by
  apply Int32.toBitVec_inj.1
  show BitVec.ofNat 32 a &&& (BitVec.ofNat 32 b ^^^ BitVec.allOnes 32) = BitVec.ofNat 32 (a &&& (2047 ^^^ b))
  apply BitVec.eq_of_getLsbD_eq
  intro i hi
  rw [BitVec.getLsbD_and, BitVec.getLsbD_xor, BitVec.getLsbD_ofNat, BitVec.getLsbD_ofNat, BitVec.getLsbD_ofNat, BitVec.getLsbD_allOnes, Nat.testBit_and, Nat.testBit_xor, jb_2047, decide_eq_true hi]
  by_cases h : i < 11
  · rw [decide_eq_true h]; cases a.testBit i <;> cases b.testBit i <;> rfl
  · rw [jb_hi11 ha (by omega)]; rfl
theorem jb_shl : ∀ i, i < 11 → (1 : Int32) <<< (nI i &&& 31) = nI (2 ^ i) := by decide +kernel
theorem jb_nrm {S i : Nat} (hS : S < 2048) (hi : i < 11) : nI S &&& (((1 : Int32) <<< (nI i &&& 31)) ^^^ (-1)) = nI (jb_rm S i) := by
  rw [jb_shl i hi, jb_nnot hS]; rfl
theorem jb_nad {S i : Nat} (hi : i < 11) : nI S ||| ((1 : Int32) <<< (nI i &&& 31)) = nI (jb_ad S i) := by
  rw [jb_shl i hi, jb_nor]; rfl
theorem jb_nsub {a b : Nat} (ha : a < 2048) : nI a &&& (nI b ^^^ (-1)) = 0 ↔ jb_Sub a b := by
  have hlt : a &&& (2047 ^^^ b) < 2 ^ 31 := Nat.lt_of_le_of_lt Nat.and_le_left (by omega)
  rw [jb_nnot ha, ← nI_0, nI_eq hlt (by omega)]
  constructor
  · intro h i hi
    have h1 : (a &&& (2047 ^^^ b)).testBit i = false := by rw [h, Nat.zero_testBit]
    rw [Nat.testBit_and, Nat.testBit_xor, jb_2047, hi, decide_eq_true (jb_lo11 ha hi)] at h1
    cases hb : b.testBit i
    · rw [hb] at h1; exact absurd h1 (by decide)
    · rfl
  · intro h
    apply Nat.eq_of_testBit_eq
    intro i
    rw [Nat.zero_testBit, Nat.testBit_and, Nat.testBit_xor, jb_2047]
    cases hi : a.testBit i
    · rfl
    · rw [h i hi, decide_eq_true (jb_lo11 ha hi)]; rfl
theorem jb_s31 : ∀ n, n < 32 → ((nI n &&& 31).toBitVec.smod 32).toNat = n := by decide +kernel
theorem jb_nshr {S i : Nat} (hS : S < 2048) (hi : i < 11) : nI S >>> (nI i &&& 31) = nI (S / 2 ^ i) :=
  pk_shrN (by omega) _ i (jb_s31 i (by omega))
theorem jb_bit {S i : Nat} (hS : S < 2048) (hi : i < 11) : (nI S >>> (nI i &&& 31)) &&& 1 = nI (if S.testBit i = true then 1 else 0) := by
  rw [jb_nshr hS hi]
  show nI (S / 2 ^ i) &&& nI 1 = _
  rw [jb_nand, Nat.and_one_is_mod, Nat.testBit_eq_decide_div_mod_eq]
  congr 1
  by_cases h : S / 2 ^ i % 2 = 1
  · rw [if_pos (decide_eq_true h), h]
  · rw [if_neg (by rw [decide_eq_false h]; decide)]
    generalize S / 2 ^ i = z at h ⊢
    omega
theorem jb_bit1 {S i : Nat} (hS : S < 2048) (hi : i < 11) : (nI S >>> (nI i &&& 31)) &&& 1 = 1 ↔ S.testBit i = true := by
  rw [jb_bit hS hi]
  by_cases h : S.testBit i = true
  · rw [if_pos h]; exact ⟨fun _ => h, fun _ => rfl⟩
  · rw [if_neg h]; exact ⟨fun z => absurd z (by decide), fun z => absurd z h⟩
