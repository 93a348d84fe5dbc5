section
/-! rows of kit/rows (pasted) -/
theorem pk_us {f : Nat → Int32} {k : Nat} {x : Int32} : upd f k x k = x := if_pos rfl
theorem pk_un {f : Nat → Int32} {k j : Nat} {x : Int32} (h : j ≠ k) : upd f k x j = f j := if_neg h
theorem pk_sub {a b : Nat} (h : b ≤ a) : nI a - nI b = nI (a - b) := by
  obtain ⟨c, rfl⟩ : ∃ c, a = c + b := ⟨a - b, by omega⟩
  rw [← nI_add, Int32.add_sub_cancel, Nat.add_sub_cancel]
theorem pk_m1 (n : Nat) : nI (n + 1) + (-1) = nI n := by
  rw [← nI_1, Int32.add_assoc, show (1 : Int32) + (-1) = 0 from rfl, Int32.add_zero]
theorem pk_sub_toInt {a b : Nat} (ha : a < 2 ^ 30) (hb : b < 2 ^ 30) : (nI a - nI b).toInt = (a : Int) - b := by
  rw [Int32.toInt_sub, nI_toInt (by omega), nI_toInt (by omega)]
  exact Int.bmod_eq_of_le (by omega) (by omega)
theorem pk_sneg {a b : Nat} (hb : b < 2 ^ 30) (h : a < b) : nI a - nI b < 0 := by
  rw [Int32.lt_iff_toInt_lt, pk_sub_toInt (by omega) hb, show (0 : Int32).toInt = 0 from by decide]
  omega
theorem pk_ix (x : Int32) {n : Nat} (hn : n < 2 ^ 31) : x < 0 ∨ nI n ≤ x ∨ ∃ j : Nat, j < n ∧ x = nI j := by
  by_cases h : x < 0
  · exact Or.inl h
  · obtain ⟨j, hj, rfl⟩ := nI_of h
    by_cases h2 : j < n
    · exact Or.inr (Or.inr ⟨j, h2, rfl⟩)
    · exact Or.inr (Or.inl (nI_le (by omega) hj))
theorem pk_le {x y : Int32} {A B : Prop} (a b : Nat) (f : a ≤ b → A) (g : b < a → B) (hx : x = nI a := by rfl) (hy : y = nI b := by rfl) (ha : a < 2 ^ 31 := by omega) (hb : b < 2 ^ 31 := by omega) : (x ≤ y → A) ∧ (¬ x ≤ y → B) := by
  subst hx hy
  rw [nI_leI ha hb]
  exact ⟨f, fun z => g (by omega)⟩
theorem pk_lt {x y : Int32} {A B : Prop} (a b : Nat) (f : a < b → A) (g : b ≤ a → B) (hx : x = nI a := by rfl) (hy : y = nI b := by rfl) (ha : a < 2 ^ 31 := by omega) (hb : b < 2 ^ 31 := by omega) : (x < y → A) ∧ (¬ x < y → B) := by
  subst hx hy
  rw [nI_ltI ha hb]
  exact ⟨f, fun z => g (by omega)⟩
theorem pk_eq {x y : Int32} {A B : Prop} (a b : Nat) (f : a = b → A) (g : a ≠ b → B) (hx : x = nI a := by rfl) (hy : y = nI b := by rfl) (ha : a < 2 ^ 31 := by omega) (hb : b < 2 ^ 31 := by omega) : (x = y → A) ∧ (¬ x = y → B) := by
  subst hx hy
  rw [nI_eq ha hb]
  exact ⟨f, g⟩
theorem pk_in {x : Int32} (n N : Nat) (h : n < N) (hx : x = nI n := by rfl) (hN : N < 2 ^ 31 := by omega) : vp_in x N := by
  subst hx
  exact vp_in_nI h hN
theorem pk_cl {x : Int32} (n : Nat) (hx : x = nI n := by rfl) (h : n < 2 ^ 31 := by omega) : x.toNatClampNeg = n := by
  subst hx
  exact nI_clamp h
theorem pk_shr (a s : Int32) (k : Nat) (hs : (s.toBitVec.smod 32).toNat = k) : (a >>> s).toInt = a.toInt >>> k := by
  show (a.toBitVec.sshiftRight (s.toBitVec.smod 32).toNat).toInt = _
  rw [hs, BitVec.toInt_sshiftRight]
  rfl
theorem pk_shrN {n : Nat} (h : n < 2 ^ 31) (s : Int32) (k : Nat) (hs : (s.toBitVec.smod 32).toNat = k) : nI n >>> s = nI (n / 2 ^ k) := by
  apply Int32.toInt_inj.mp
  have h2 : n / 2 ^ k ≤ n := Nat.div_le_self _ _
  rw [pk_shr _ _ k hs, nI_toInt h, nI_toInt (by omega), Int.shiftRight_eq_div_pow]
  rfl
theorem pk_loop {σ : Type} (W : Nat → Nat → σ → Prop) (I : Nat → σ → Prop) (e i0 : Nat) (s : σ) (hi : i0 ≤ e) (h0 : I i0 s) (hx : ∀ n s, I e s → W (n + 1) e s)
    (hs : ∀ n i s, i < e → I i s → (∀ s', I (i + 1) s' → W n (i + 1) s') → W (n + 1) i s) : ∃ n, W n i0 s :=
  ⟨e + 1, loop_i W I e hx hs (e + 1) i0 s hi (by omega) h0⟩
theorem pk_loopD {σ : Type} (W : Nat → Nat → σ → Prop) (I : Nat → σ → Prop) (hx : ∀ n s, I 0 s → W (n + 1) 0 s)
    (hs : ∀ n i s, I (i + 1) s → (∀ s', I i s' → W n i s') → W (n + 1) (i + 1) s) : ∀ (e : Nat) (s : σ), I e s → W (e + 1) e s := by
  intro e
  induction e with
  | zero => exact fun s h => hx 0 s h
  | succ e ih => exact fun s h => hs (e + 1) e s h (fun s' h' => ih s' h')
end
section
/-! sums over places; sets of places as numbers; the criterion by deadlines -/
def jb_sum (p : Nat → Bool) (w : Nat → Nat) : Nat → Nat
  | 0 => 0
  | n + 1 => jb_sum p w n + (if p n = true then w n else 0)
theorem jb_sum_s (p : Nat → Bool) (w : Nat → Nat) (n : Nat) : jb_sum p w (n + 1) = jb_sum p w n + (if p n = true then w n else 0) := rfl
theorem jb_sum_t {p : Nat → Bool} {w : Nat → Nat} {n : Nat} (h : p n = true) : jb_sum p w (n + 1) = jb_sum p w n + w n := by
  rw [jb_sum_s, if_pos h]
theorem jb_sum_f {p : Nat → Bool} {w : Nat → Nat} {n : Nat} (h : ¬ p n = true) : jb_sum p w (n + 1) = jb_sum p w n := by
  rw [jb_sum_s, if_neg h, Nat.add_zero]
theorem jb_sum_le {p q : Nat → Bool} {w : Nat → Nat} : ∀ n, (∀ i, i < n → p i = true → q i = true) → jb_sum p w n ≤ jb_sum q w n := by
  intro n
  induction n with
  | zero => intro _; exact Nat.le_refl _
  | succ n ih =>
    intro h
    have h1 := ih (fun i hi => h i (by omega))
    by_cases hp : p n = true
    · rw [jb_sum_t hp, jb_sum_t (h n (by omega) hp)]; exact Nat.add_le_add_right h1 _
    · rw [jb_sum_f hp, jb_sum_s q]; exact Nat.le_trans h1 (Nat.le_add_right _ _)
theorem jb_sum_congr {p q : Nat → Bool} {w w' : Nat → Nat} : ∀ n, (∀ i, i < n → p i = q i) → (∀ i, i < n → p i = true → w i = w' i) → jb_sum p w n = jb_sum q w' n := by
  intro n
  induction n with
  | zero => intro _ _; rfl
  | succ n ih =>
    intro h hw
    have h1 := ih (fun i hi => h i (by omega)) (fun i hi => hw i (by omega))
    have h2 := h n (by omega)
    by_cases hp : p n = true
    · rw [jb_sum_t hp, jb_sum_t (h2 ▸ hp), h1, hw n (by omega) hp]
    · rw [jb_sum_f hp, jb_sum_f (h2 ▸ hp), h1]
theorem jb_sum_bd {p : Nat → Bool} {w : Nat → Nat} {c : Nat} : ∀ n, (∀ i, i < n → p i = true → w i ≤ c) → jb_sum p w n ≤ n * c := by
  intro n
  induction n with
  | zero => intro _; exact Nat.zero_le _
  | succ n ih =>
    intro h
    have h1 := ih (fun i hi => h i (by omega))
    have h3 : (n + 1) * c = n * c + c := Nat.succ_mul n c
    rw [h3]
    by_cases hp : p n = true
    · rw [jb_sum_t hp]; exact Nat.add_le_add h1 (h n (by omega) hp)
    · rw [jb_sum_f hp]; exact Nat.le_trans h1 (Nat.le_add_right _ _)
theorem jb_amax {p : Nat → Bool} {D : Nat → Nat} : ∀ n, (∃ i, i < n ∧ p i = true) → ∃ i, i < n ∧ p i = true ∧ ∀ j, j < n → p j = true → D j ≤ D i := by
  intro n
  induction n with
  | zero => intro ⟨i, hi, _⟩; omega
  | succ n ih =>
    intro ⟨i, hi, hp⟩
    by_cases hx : ∃ i, i < n ∧ p i = true
    · obtain ⟨m, hm, pm, hmax⟩ := ih hx
      by_cases hn : p n = true ∧ D m < D n
      · refine ⟨n, by omega, hn.1, fun j hj pj => ?_⟩
        rcases Nat.lt_or_ge j n with h | h
        · have h2 := hmax j h pj; omega
        · have e : j = n := by omega
          rw [e]; exact Nat.le_refl _
      · refine ⟨m, by omega, pm, fun j hj pj => ?_⟩
        rcases Nat.lt_or_ge j n with h | h
        · exact hmax j h pj
        · have e : j = n := by omega
          rw [e] at pj ⊢
          exact Nat.le_of_not_lt (fun z => hn ⟨pj, z⟩)
    · have none : ∀ j, j < n → ¬ p j = true := fun j hj pj => hx ⟨j, hj, pj⟩
      have e : i = n := by
        rcases Nat.lt_or_ge i n with h | h
        · exact absurd hp (none i h)
        · omega
      refine ⟨i, hi, hp, fun j hj pj => ?_⟩
      rcases Nat.lt_or_ge j n with h | h
      · exact absurd pj (none j h)
      · have e2 : j = i := by omega
        rw [e2]; exact Nat.le_refl _
/-! ===== sets ===== -/
def jb_Sub (S H : Nat) : Prop := ∀ i, S.testBit i = true → H.testBit i = true
theorem jb_Sub_rf (S : Nat) : jb_Sub S S := fun _ h => h
theorem jb_Sub_tr {R S H : Nat} (h : jb_Sub R S) (g : jb_Sub S H) : jb_Sub R H := fun i z => g i (h i z)
theorem jb_Sub_le {S H : Nat} (h : jb_Sub S H) : S ≤ H := Nat.le_of_testBit h
theorem jb_hi {S n i : Nat} (h : S < 2 ^ n) (hi : n ≤ i) : S.testBit i = false :=
  Nat.testBit_lt_two_pow (Nat.lt_of_lt_of_le h (Nat.pow_le_pow_right (by omega) hi))
theorem jb_p11 : (2048 : Nat) = 2 ^ 11 := by decide
theorem jb_p10 : (1024 : Nat) = 2 ^ 10 := by decide
theorem jb_hi11 {S i : Nat} (h : S < 2048) (hi : 11 ≤ i) : S.testBit i = false := jb_hi (n := 11) (by rw [← jb_p11]; exact h) hi
theorem jb_hi10 {S i : Nat} (h : S < 1024) (hi : 10 ≤ i) : S.testBit i = false := jb_hi (n := 10) (by rw [← jb_p10]; exact h) hi
theorem jb_lo11 {S i : Nat} (h : S < 2048) (hb : S.testBit i = true) : i < 11 :=
  Nat.lt_of_not_le (fun z => by rw [jb_hi11 h z] at hb; exact absurd hb (by decide))
theorem jb_lo10 {S i : Nat} (h : S < 1024) (hb : S.testBit i = true) : i < 10 :=
  Nat.lt_of_not_le (fun z => by rw [jb_hi10 h z] at hb; exact absurd hb (by decide))
theorem jb_lt10 {S : Nat} (h : ∀ i, S.testBit i = true → i < 10) : S < 1024 := by
  rw [jb_p10]
  refine Nat.lt_pow_two_of_testBit S (fun i hi => ?_)
  cases hb : S.testBit i
  · rfl
  · have h2 := h i hb; omega
def jb_rm (S i : Nat) : Nat := S &&& (2047 ^^^ 2 ^ i)
theorem jb_2047 (j : Nat) : (2047 : Nat).testBit j = decide (j < 11) := by
  have h : (2047 : Nat) = 2 ^ 11 - 1 := by decide
  rw [h, Nat.testBit_two_pow_sub_one]
theorem jb_rm_t {S i j : Nat} (hS : S < 2048) : (jb_rm S i).testBit j = (S.testBit j && decide (j ≠ i)) := by
  unfold jb_rm
  rw [Nat.testBit_and, Nat.testBit_xor, jb_2047, Nat.testBit_two_pow]
  by_cases h : j < 11
  · by_cases e : i = j
    · have e' : ¬ j ≠ i := fun z => z e.symm
      rw [decide_eq_true h, decide_eq_true e, decide_eq_false e']; cases S.testBit j <;> rfl
    · have e' : j ≠ i := fun z => e z.symm
      rw [decide_eq_true h, decide_eq_false e, decide_eq_true e']; cases S.testBit j <;> rfl
  · rw [jb_hi11 hS (by omega)]; rfl
theorem jb_rm_sub {S i : Nat} (hS : S < 2048) : jb_Sub (jb_rm S i) S := fun j h => by
  rw [jb_rm_t hS] at h
  cases hb : S.testBit j
  · rw [hb] at h; exact absurd h Bool.false_ne_true
  · rfl
theorem jb_rm_lt {S i : Nat} (hS : S < 2048) (hb : S.testBit i = true) : jb_rm S i < S := by
  have h1 := jb_Sub_le (jb_rm_sub (i := i) hS)
  have h2 : jb_rm S i ≠ S := fun e => by
    have h3 := jb_rm_t (S := S) (i := i) (j := i) hS
    rw [e, hb, decide_eq_false (fun z => z rfl)] at h3
    exact absurd h3 (by decide)
  omega
theorem jb_rm_of {S i j : Nat} (hS : S < 2048) (hb : S.testBit j = true) (e : j ≠ i) : (jb_rm S i).testBit j = true := by
  rw [jb_rm_t hS, hb, decide_eq_true e]; rfl
theorem jb_rm_ne {S i j : Nat} (hS : S < 2048) (hb : (jb_rm S i).testBit j = true) : S.testBit j = true ∧ j ≠ i := by
  refine ⟨jb_rm_sub hS j hb, fun e => ?_⟩
  rw [jb_rm_t hS, decide_eq_false (fun z => z e)] at hb
  cases h : S.testBit j <;> rw [h] at hb <;> exact absurd hb (by decide)
def jb_ad (S i : Nat) : Nat := S ||| 2 ^ i
theorem jb_ad_t (S i j : Nat) : (jb_ad S i).testBit j = (S.testBit j || decide (i = j)) := by
  unfold jb_ad
  rw [Nat.testBit_or, Nat.testBit_two_pow]
theorem jb_ad_s (S i : Nat) : (jb_ad S i).testBit i = true := by
  rw [jb_ad_t, decide_eq_true rfl]; cases S.testBit i <;> rfl
theorem jb_ad_n {S i j : Nat} (e : j ≠ i) : (jb_ad S i).testBit j = S.testBit j := by
  rw [jb_ad_t, decide_eq_false (fun z => e z.symm)]; cases S.testBit j <;> rfl
theorem jb_ad_sub (S i : Nat) : jb_Sub S (jb_ad S i) := fun j h => by
  rw [jb_ad_t, h]; rfl
theorem jb_ad_of {S i j : Nat} (h : (jb_ad S i).testBit j = true) : S.testBit j = true ∨ j = i := by
  by_cases e : j = i
  · exact Or.inr e
  · rw [jb_ad_n e] at h; exact Or.inl h
theorem jb_ad_lt11 {S i : Nat} (hS : S < 2048) (hi : i < 11) : jb_ad S i < 2048 := by
  rw [jb_p11] at hS ⊢
  exact Nat.or_lt_two_pow hS (Nat.pow_lt_pow_right (by omega) hi)
theorem jb_ad_lt10 {S i : Nat} (hS : S < 1024) (hi : i < 10) : jb_ad S i < 1024 := by
  rw [jb_p10] at hS ⊢
  exact Nat.or_lt_two_pow hS (Nat.pow_lt_pow_right (by omega) hi)
theorem jb_ad_Sub {S H i : Nat} (h : jb_Sub S H) (hi : H.testBit i = true) : jb_Sub (jb_ad S i) H := fun j hj => by
  rcases jb_ad_of hj with z | z
  · exact h j z
  · rw [z]; exact hi
theorem jb_ad_id {S i : Nat} (h : S.testBit i = true) : jb_ad S i = S := by
  apply Nat.eq_of_testBit_eq
  intro j
  by_cases e : j = i
  · rw [e, jb_ad_s, h]
  · rw [jb_ad_n e]
/-! ===== the time of a set, the time due by d, the criterion ===== -/
def jb_td (L D : Nat → Nat) (S d : Nat) : Nat := jb_sum (fun i => S.testBit i && decide (D i ≤ d)) L 11
def jb_tt (L : Nat → Nat) (S : Nat) : Nat := jb_sum (fun i => S.testBit i) L 11
def jb_sz (S : Nat) : Nat := jb_sum (fun i => S.testBit i) (fun _ => 1) 11
def jb_AT (L D : Nat → Nat) (S : Nat) : Prop := ∀ i, i < 11 → S.testBit i = true → jb_td L D S (D i) ≤ D i
def jb_FE (H : Nat) (L D : Nat → Nat) (S : Nat) : Prop := jb_Sub S H ∧ jb_AT L D S
theorem jb_and {a b : Bool} (h : (a && b) = true) : a = true ∧ b = true := by
  cases a <;> cases b <;> first | exact ⟨rfl, rfl⟩ | exact absurd h (by decide)
theorem jb_and_i {a b : Bool} (h : a = true) (g : b = true) : (a && b) = true := by rw [h, g]; rfl
theorem jb_td_sub {L D : Nat → Nat} {R S d : Nat} (h : jb_Sub R S) : jb_td L D R d ≤ jb_td L D S d :=
  jb_sum_le 11 (fun i _ hp => jb_and_i (h i (jb_and hp).1) (jb_and hp).2)
theorem jb_td_tt {L D : Nat → Nat} {S d : Nat} : jb_td L D S d ≤ jb_tt L S :=
  jb_sum_le 11 (fun _ _ hp => (jb_and hp).1)
theorem jb_td_all {L D : Nat → Nat} {S d : Nat} (h : ∀ i, i < 11 → S.testBit i = true → D i ≤ d) : jb_td L D S d = jb_tt L S := by
  refine jb_sum_congr 11 (fun i hi => ?_) (fun _ _ _ => rfl)
  show (S.testBit i && decide (D i ≤ d)) = S.testBit i
  cases hb : S.testBit i
  · rfl
  · rw [decide_eq_true (h i hi hb)]; rfl
theorem jb_AT_mono {L D : Nat → Nat} {R S : Nat} (h : jb_Sub R S) (ha : jb_AT L D S) : jb_AT L D R :=
  fun i hi hb => Nat.le_trans (jb_td_sub h) (ha i hi (h i hb))
theorem jb_FE_mono {H : Nat} {L D : Nat → Nat} {R S : Nat} (h : jb_Sub R S) (hf : jb_FE H L D S) : jb_FE H L D R :=
  ⟨jb_Sub_tr h hf.1, jb_AT_mono h hf.2⟩
theorem jb_FE0 {H : Nat} {L D : Nat → Nat} : jb_FE H L D 0 :=
  ⟨fun i h => by rw [Nat.zero_testBit] at h; exact absurd h (by decide), fun i _ h => by rw [Nat.zero_testBit] at h; exact absurd h (by decide)⟩
theorem jb_step {H : Nat} {L D : Nat → Nat} {S : Nat} (hS : S < 2048) (h0 : S ≠ 0) :
    jb_FE H L D S ↔ ∃ i, i < 11 ∧ S.testBit i = true ∧ H.testBit i = true ∧ jb_tt L S ≤ D i ∧ jb_FE H L D (jb_rm S i) := by
  constructor
  · intro ⟨hs, ha⟩
    obtain ⟨b, hb⟩ := Nat.exists_testBit_of_ne_zero h0
    obtain ⟨i, hi, pi, hm⟩ := jb_amax (p := fun i => S.testBit i) (D := D) 11 ⟨b, jb_lo11 hS hb, hb⟩
    refine ⟨i, hi, pi, hs i pi, ?_, jb_FE_mono (jb_rm_sub hS) ⟨hs, ha⟩⟩
    rw [← jb_td_all (D := D) (d := D i) hm]
    exact ha i hi pi
  · intro ⟨i, hi, pi, hh, ht, hs, ha⟩
    refine ⟨fun j hj => ?_, fun j hj pj => ?_⟩
    · by_cases e : j = i
      · rw [e]; exact hh
      · exact hs j (jb_rm_of hS hj e)
    · rcases Nat.lt_or_ge (D j) (D i) with h | h
      · have e : j ≠ i := fun z => by rw [z] at h; omega
        have h2 : jb_td L D S (D j) = jb_td L D (jb_rm S i) (D j) := by
          refine jb_sum_congr 11 (fun q hq => ?_) (fun _ _ _ => rfl)
          show (S.testBit q && decide (D q ≤ D j)) = ((jb_rm S i).testBit q && decide (D q ≤ D j))
          rw [jb_rm_t hS]
          by_cases eq : q = i
          · have hn : ¬ D q ≤ D j := by rw [eq]; omega
            rw [decide_eq_false hn]; cases S.testBit q <;> cases decide (q ≠ i) <;> rfl
          · rw [decide_eq_true eq]; cases S.testBit q <;> rfl
        rw [h2]
        exact ha j hj (jb_rm_of hS pj e)
      · exact Nat.le_trans jb_td_tt (Nat.le_trans ht h)
end
section
/-! the answers that are greatest and least over good sets; a guest in place 10 -/
def jb_Ok (H : Nat) (L D : Nat → Nat) (F S : Nat) : Prop := jb_FE H L D S ∧ jb_Sub F S
def jb_Top (P : Nat → Prop) (m : Nat) : Prop := (∃ S, P S ∧ jb_sz S = m) ∧ ∀ S, P S → jb_sz S ≤ m
def jb_Ans (P : Nat → Prop) (r : Int32) : Prop := ((∀ S, ¬ P S) ∧ r = -3) ∨ (∃ m, m ≤ 11 ∧ r = nI m ∧ jb_Top P m)
def jb_LAns (P : Nat → Prop) (L : Nat → Nat) (r : Int32) : Prop := ((∀ S, ¬ P S) ∧ r = -3) ∨ (∃ m l, jb_Top P m ∧ r = nI l ∧ (∃ S, P S ∧ jb_sz S = m ∧ jb_tt L S = l) ∧ ∀ S, P S → jb_sz S = m → l ≤ jb_tt L S)
theorem jb_sz_le (S : Nat) : jb_sz S ≤ 11 := jb_sum_bd (c := 1) 11 (fun _ _ _ => Nat.le_refl _)
theorem jb_Top_u {P : Nat → Prop} {m m' : Nat} (h : jb_Top P m) (g : jb_Top P m') : m' = m := by
  obtain ⟨⟨S, pS, eS⟩, hS⟩ := h
  obtain ⟨⟨R, pR, eR⟩, hR⟩ := g
  have h1 := hS R pR
  have h2 := hR S pS
  omega
theorem jb_Ans_u {P : Nat → Prop} {r r' : Int32} (h : jb_Ans P r) (g : jb_Ans P r') : r' = r := by
  rcases h with ⟨h1, h2⟩ | ⟨m, h0, h1, h2⟩
  · rcases g with ⟨g1, g2⟩ | ⟨m', g0, g1, g2⟩
    · rw [h2, g2]
    · obtain ⟨⟨S, pS, _⟩, _⟩ := g2; exact absurd pS (h1 S)
  · rcases g with ⟨g1, g2⟩ | ⟨m', g0, g1, g2⟩
    · obtain ⟨⟨S, pS, _⟩, _⟩ := h2; exact absurd pS (g1 S)
    · rw [h1, g1, jb_Top_u h2 g2]
theorem jb_LAns_u {P : Nat → Prop} {L : Nat → Nat} {r r' : Int32} (h : jb_LAns P L r) (g : jb_LAns P L r') : r' = r := by
  rcases h with ⟨h1, h2⟩ | ⟨m, l, h0, h1, ⟨S, pS, zS, tS⟩, h3⟩
  · rcases g with ⟨g1, g2⟩ | ⟨m', l', g0, g1, ⟨S, pS, _⟩, g3⟩
    · rw [h2, g2]
    · exact absurd pS (h1 S)
  · rcases g with ⟨g1, g2⟩ | ⟨m', l', g0, g1, ⟨R, pR, zR, tR⟩, g3⟩
    · exact absurd pS (g1 S)
    · have e := jb_Top_u h0 g0
      have a := h3 R pR (by rw [zR, e])
      have b := g3 S pS (by rw [zS, e])
      have c : l' = l := by omega
      rw [h1, g1, c]
theorem jb_n3 : ∀ m, m < 12 → ¬ nI m = -3 := by decide +kernel
theorem jb_Ok_lt {H : Nat} {L D : Nat → Nat} {F S n : Nat} (hH : H < n) (h : jb_Ok H L D F S) : S < n :=
  Nat.lt_of_le_of_lt (jb_Sub_le h.1.1) hH
theorem jb_Ok_F {H : Nat} {L D : Nat → Nat} {F S : Nat} (h : jb_Ok H L D F S) : jb_Ok H L D F F :=
  ⟨jb_FE_mono h.2 h.1, jb_Sub_rf F⟩
/-! ===== the guest ===== -/
theorem jb_td_ext {L D L' D' : Nat → Nat} {S d : Nat} (hS : S < 1024) (hl : ∀ i, i < 10 → L' i = L i) (hd : ∀ i, i < 10 → D' i = D i) : jb_td L' D' S d = jb_td L D S d := by
  refine jb_sum_congr 11 (fun i _ => ?_) (fun i _ hp => ?_)
  · show (S.testBit i && decide (D' i ≤ d)) = (S.testBit i && decide (D i ≤ d))
    cases hb : S.testBit i
    · rfl
    · rw [hd i (jb_lo10 hS hb)]
  · exact hl i (jb_lo10 hS (jb_and hp).1)
theorem jb_AT_ext {L D L' D' : Nat → Nat} {S : Nat} (hS : S < 1024) (hl : ∀ i, i < 10 → L' i = L i) (hd : ∀ i, i < 10 → D' i = D i) : jb_AT L' D' S ↔ jb_AT L D S := by
  constructor
  · intro h i hi hb
    have h1 := h i hi hb
    rw [jb_td_ext hS hl hd, hd i (jb_lo10 hS hb)] at h1
    exact h1
  · intro h i hi hb
    have h1 := h i hi hb
    rw [jb_td_ext hS hl hd, hd i (jb_lo10 hS hb)]
    exact h1
theorem jb_FE_ext {H : Nat} {L D L' D' : Nat → Nat} {S : Nat} (hS : S < 1024) (hl : ∀ i, i < 10 → L' i = L i) (hd : ∀ i, i < 10 → D' i = D i) : jb_FE (jb_ad H 10) L' D' S ↔ jb_FE H L D S := by
  constructor
  · intro ⟨h1, h2⟩
    refine ⟨fun i hb => ?_, (jb_AT_ext hS hl hd).mp h2⟩
    have h3 := jb_lo10 hS hb
    rcases jb_ad_of (h1 i hb) with z | z
    · exact z
    · omega
  · intro ⟨h1, h2⟩
    exact ⟨jb_Sub_tr h1 (jb_ad_sub H 10), (jb_AT_ext hS hl hd).mpr h2⟩
theorem jb_tt_10 {L : Nat → Nat} {S : Nat} (hS : S < 1024) : jb_tt L S = jb_sum (fun i => S.testBit i) L 10 := by
  have h : ¬ (fun i => S.testBit i) 10 = true := by
    show ¬ S.testBit 10 = true
    rw [jb_hi10 hS (Nat.le_refl _)]; decide
  exact jb_sum_f h
theorem jb_sz_10 {S : Nat} (hS : S < 1024) : jb_sz S = jb_sum (fun i => S.testBit i) (fun _ => 1) 10 := jb_tt_10 (L := fun _ => 1) hS
theorem jb_tt_ad {L L' : Nat → Nat} {S : Nat} (hS : S < 1024) (hl : ∀ i, i < 10 → L' i = L i) : jb_tt L' (jb_ad S 10) = jb_tt L S + L' 10 := by
  rw [jb_tt_10 hS]
  have h : (fun i => (jb_ad S 10).testBit i) 10 = true := jb_ad_s S 10
  have h2 : jb_tt L' (jb_ad S 10) = jb_sum (fun i => (jb_ad S 10).testBit i) L' 10 + L' 10 := jb_sum_t h
  rw [h2]
  congr 1
  exact jb_sum_congr 10 (fun i hi => jb_ad_n (by omega)) (fun i hi _ => hl i hi)
theorem jb_sz_ad {S : Nat} (hS : S < 1024) : jb_sz (jb_ad S 10) = jb_sz S + 1 :=
  jb_tt_ad (L := fun _ => 1) (L' := fun _ => 1) hS (fun _ _ => rfl)
theorem jb_rm_ad {S : Nat} (hS : S < 1024) : jb_rm (jb_ad S 10) 10 = S := by
  have h1 : jb_ad S 10 < 2048 := jb_ad_lt11 (by omega) (by omega)
  apply Nat.eq_of_testBit_eq
  intro j
  rw [jb_rm_t h1]
  by_cases e : j = 10
  · rw [decide_eq_false (fun z => z e), e, jb_hi10 hS (Nat.le_refl _)]; cases (jb_ad S 10).testBit 10 <;> rfl
  · rw [jb_ad_n e, decide_eq_true e]; cases S.testBit j <;> rfl
theorem jb_rm_ad2 {S i : Nat} (hS : S < 1024) (hi : i < 10) : jb_rm (jb_ad S 10) i = jb_ad (jb_rm S i) 10 := by
  have h1 : jb_ad S 10 < 2048 := jb_ad_lt11 (by omega) (by omega)
  have h2 : S < 2048 := by omega
  apply Nat.eq_of_testBit_eq
  intro j
  rw [jb_rm_t h1]
  by_cases e : j = 10
  · have e2 : j ≠ i := by omega
    rw [decide_eq_true e2, e, jb_ad_s, jb_ad_s]; rfl
  · rw [jb_ad_n e, jb_ad_n e, jb_rm_t h2]
theorem jb_ad_rm {S : Nat} (hS : S < 2048) (hb : S.testBit 10 = true) : jb_ad (jb_rm S 10) 10 = S := by
  apply Nat.eq_of_testBit_eq
  intro j
  by_cases e : j = 10
  · rw [e, jb_ad_s, hb]
  · rw [jb_ad_n e, jb_rm_t hS, decide_eq_true e]; cases S.testBit j <;> rfl
theorem jb_ne0 {S i : Nat} (h : S.testBit i = true) : S ≠ 0 := fun e => by
  rw [e, Nat.zero_testBit] at h; exact absurd h (by decide)
theorem jb_jstep {H : Nat} {L D L' D' : Nat → Nat} {S : Nat} (hS : S < 1024) (hl : ∀ i, i < 10 → L' i = L i) (hd : ∀ i, i < 10 → D' i = D i) :
    jb_FE (jb_ad H 10) L' D' (jb_ad S 10) ↔ (jb_FE H L D S ∧ jb_tt L S + L' 10 ≤ D' 10) ∨ ∃ i, i < 10 ∧ S.testBit i = true ∧ H.testBit i = true ∧ jb_tt L S + L' 10 ≤ D i ∧ jb_FE (jb_ad H 10) L' D' (jb_ad (jb_rm S i) 10) := by
  have h1 : jb_ad S 10 < 2048 := jb_ad_lt11 (by omega) (by omega)
  rw [jb_step h1 (jb_ne0 (jb_ad_s S 10)), jb_tt_ad hS hl]
  constructor
  · intro ⟨i, hi, hb, hh, ht, hf⟩
    by_cases e : i = 10
    · rw [e] at ht hf
      rw [jb_rm_ad hS] at hf
      exact Or.inl ⟨(jb_FE_ext hS hl hd).mp hf, ht⟩
    · have hi' : i < 10 := by omega
      rw [jb_ad_n e] at hb hh
      rw [jb_rm_ad2 hS hi'] at hf
      rw [hd i hi'] at ht
      exact Or.inr ⟨i, hi', hb, hh, ht, hf⟩
  · intro h
    rcases h with ⟨hf, ht⟩ | ⟨i, hi, hb, hh, ht, hf⟩
    · exact ⟨10, by omega, jb_ad_s S 10, jb_ad_s H 10, ht, by rw [jb_rm_ad hS]; exact (jb_FE_ext hS hl hd).mpr hf⟩
    · have e : i ≠ 10 := by omega
      exact ⟨i, by omega, by rw [jb_ad_n e]; exact hb, by rw [jb_ad_n e]; exact hh, by rw [hd i hi]; exact ht, by rw [jb_rm_ad2 hS hi]; exact hf⟩
theorem jb_wel {H : Nat} {L D L' D' : Nat → Nat} {F m : Nat} (hH : H < 1024) (hF : F < 1024) (hl : ∀ i, i < 10 → L' i = L i) (hd : ∀ i, i < 10 → D' i = D i) (ht : jb_Top (jb_Ok H L D F) m) :
    (∃ S, jb_Ok (jb_ad H 10) L' D' F S ∧ m < jb_sz S) ↔ ∃ S, S < 1024 ∧ jb_FE (jb_ad H 10) L' D' (jb_ad S 10) ∧ jb_Sub F S ∧ m < jb_sz S + 1 := by
  constructor
  · intro ⟨S, ⟨hf, hs⟩, hm⟩
    have h1 : jb_ad H 10 < 2048 := jb_ad_lt11 (by omega) (by omega)
    have h2 : S < 2048 := Nat.lt_of_le_of_lt (jb_Sub_le hf.1) h1
    cases hb : S.testBit 10
    · have h3 : S < 1024 := jb_lt10 (fun i hi => by
        have h4 := jb_lo11 h2 hi
        have h5 : i ≠ 10 := fun e => by rw [e, hb] at hi; exact absurd hi (by decide)
        omega)
      have h6 := ht.2 S ⟨(jb_FE_ext h3 hl hd).mp hf, hs⟩
      omega
    · have h3 : jb_rm S 10 < 1024 := jb_lt10 (fun i hi => by
        have h4 := jb_rm_ne h2 hi
        have h5 := jb_lo11 h2 h4.1
        have h6 := h4.2
        omega)
      have h4 := jb_ad_rm h2 hb
      refine ⟨jb_rm S 10, h3, by rw [h4]; exact hf, fun i hi => ?_, ?_⟩
      · have h5 := jb_lo10 hF hi
        exact jb_rm_of h2 (hs i hi) (by omega)
      · rw [← jb_sz_ad h3, h4]; exact hm
  · intro ⟨S, hS, hf, hs, hm⟩
    exact ⟨jb_ad S 10, ⟨hf, jb_Sub_tr hs (jb_ad_sub S 10)⟩, by rw [jb_sz_ad hS]; exact hm⟩
/-! ===== what Int32 makes of the bits ===== -/
theorem jb_nand (a b : Nat) : nI a &&& nI b = nI (a &&& b) := by
  apply Int32.toBitVec_inj.1
  show BitVec.ofNat 32 a &&& BitVec.ofNat 32 b = BitVec.ofNat 32 (a &&& b)
  apply BitVec.eq_of_getLsbD_eq
  intro i hi
  simp [hi]
theorem jb_nor (a b : Nat) : nI a ||| nI b = nI (a ||| b) := by
  apply Int32.toBitVec_inj.1
  show BitVec.ofNat 32 a ||| BitVec.ofNat 32 b = BitVec.ofNat 32 (a ||| b)
  apply BitVec.eq_of_getLsbD_eq
  intro i hi
  simp [hi]
theorem jb_nnot {a b : Nat} (ha : a < 2048) : nI a &&& (nI b ^^^ (-1)) = nI (a &&& (2047 ^^^ b)) := by
  apply Int32.toBitVec_inj.1
  show BitVec.ofNat 32 a &&& (BitVec.ofNat 32 b ^^^ BitVec.allOnes 32) = BitVec.ofNat 32 (a &&& (2047 ^^^ b))
  apply BitVec.eq_of_getLsbD_eq
  intro i hi
  rw [BitVec.getLsbD_and, BitVec.getLsbD_xor, BitVec.getLsbD_ofNat, BitVec.getLsbD_ofNat, BitVec.getLsbD_ofNat, BitVec.getLsbD_allOnes, Nat.testBit_and, Nat.testBit_xor, jb_2047, decide_eq_true hi]
  by_cases h : i < 11
  · rw [decide_eq_true h]; cases a.testBit i <;> cases b.testBit i <;> rfl
  · rw [jb_hi11 ha (by omega)]; rfl
theorem jb_shl : ∀ i, i < 11 → (1 : Int32) <<< (nI i &&& 31) = nI (2 ^ i) := by decide +kernel
theorem jb_nrm {S i : Nat} (hS : S < 2048) (hi : i < 11) : nI S &&& (((1 : Int32) <<< (nI i &&& 31)) ^^^ (-1)) = nI (jb_rm S i) := by
  rw [jb_shl i hi, jb_nnot hS]; rfl
theorem jb_nad {S i : Nat} (hi : i < 11) : nI S ||| ((1 : Int32) <<< (nI i &&& 31)) = nI (jb_ad S i) := by
  rw [jb_shl i hi, jb_nor]; rfl
theorem jb_nsub {a b : Nat} (ha : a < 2048) : nI a &&& (nI b ^^^ (-1)) = 0 ↔ jb_Sub a b := by
  have hlt : a &&& (2047 ^^^ b) < 2 ^ 31 := Nat.lt_of_le_of_lt Nat.and_le_left (by omega)
  rw [jb_nnot ha, ← nI_0, nI_eq hlt (by omega)]
  constructor
  · intro h i hi
    have h1 : (a &&& (2047 ^^^ b)).testBit i = false := by rw [h, Nat.zero_testBit]
    rw [Nat.testBit_and, Nat.testBit_xor, jb_2047, hi, decide_eq_true (jb_lo11 ha hi)] at h1
    cases hb : b.testBit i
    · rw [hb] at h1; exact absurd h1 (by decide)
    · rfl
  · intro h
    apply Nat.eq_of_testBit_eq
    intro i
    rw [Nat.zero_testBit, Nat.testBit_and, Nat.testBit_xor, jb_2047]
    cases hi : a.testBit i
    · rfl
    · rw [h i hi, decide_eq_true (jb_lo11 ha hi)]; rfl
theorem jb_s31 : ∀ n, n < 32 → ((nI n &&& 31).toBitVec.smod 32).toNat = n := by decide +kernel
theorem jb_nshr {S i : Nat} (hS : S < 2048) (hi : i < 11) : nI S >>> (nI i &&& 31) = nI (S / 2 ^ i) :=
  pk_shrN (by omega) _ i (jb_s31 i (by omega))
theorem jb_bit {S i : Nat} (hS : S < 2048) (hi : i < 11) : (nI S >>> (nI i &&& 31)) &&& 1 = nI (if S.testBit i = true then 1 else 0) := by
  rw [jb_nshr hS hi]
  show nI (S / 2 ^ i) &&& nI 1 = _
  rw [jb_nand, Nat.and_one_is_mod, Nat.testBit_eq_decide_div_mod_eq]
  congr 1
  by_cases h : S / 2 ^ i % 2 = 1
  · rw [if_pos (decide_eq_true h), h]
  · rw [if_neg (by rw [decide_eq_false h]; decide)]
    generalize S / 2 ^ i = z at h ⊢
    omega
theorem jb_bit1 {S i : Nat} (hS : S < 2048) (hi : i < 11) : (nI S >>> (nI i &&& 31)) &&& 1 = 1 ↔ S.testBit i = true := by
  rw [jb_bit hS hi]
  by_cases h : S.testBit i = true
  · rw [if_pos h]; exact ⟨fun _ => h, fun _ => rfl⟩
  · rw [if_neg h]; exact ⟨fun z => absurd z (by decide), fun z => absurd z h⟩
end
section
/-! the component's own methods, each against the pure picture -/
def jb_Arr (A : Nat) (L D : Nat → Nat) (xl xd : Nat → Int32) : Prop := ∀ i, A.testBit i = true → xl i = nI (L i) ∧ xd i = nI (D i) ∧ L i ≤ 50 ∧ D i ≤ 200
theorem jb_r1 : ¬ (1 : Int32) = 0 := by decide
theorem jb_td_bd {L D : Nat → Nat} {S d : Nat} (h : ∀ i, S.testBit i = true → L i ≤ 50) : jb_td L D S d ≤ 550 :=
  jb_sum_bd (c := 50) 11 (fun i _ hp => h i (jb_and hp).1)
theorem jb_tt_bd {L : Nat → Nat} {S : Nat} (h : ∀ i, S.testBit i = true → L i ≤ 50) : jb_tt L S ≤ 550 :=
  jb_sum_bd (c := 50) 11 (fun i _ hp => h i hp)
theorem jx_isIn {post : Int32 → Prop} {p S : Nat} (hS : S < 2048) (hp : p < 11) (t : S.testBit p = true → post 1) (f : ¬ S.testBit p = true → post 0) : wpX_isIn post (nI p) (nI S) :=
  br_c (fun h => t ((jb_bit1 hS hp).mp h)) (fun h => f (fun z => h ((jb_bit1 hS hp).mpr z)))
theorem jx_isWithin {post : Int32 → Prop} {a b : Nat} (ha : a < 2048) (t : jb_Sub a b → post 1) (f : ¬ jb_Sub a b → post 0) : wpX_isWithin post (nI a) (nI b) :=
  br_c (fun h => t ((jb_nsub ha).mp h)) (fun h => f (fun z => h ((jb_nsub ha).mpr z)))
theorem jx_sizeOf {post : Int32 → Prop} {S : Nat} (hS : S < 2048) (h : post (nI (jb_sz S))) : wpX_sizeOf post (nI S) := by
  unfold wpX_sizeOf
  refine loop_0 (fun n i s => wX_sizeOf_4 post (nI S) n s (nI i)) (fun i s => s = nI (jb_sum (fun i => S.testBit i) (fun _ => 1) i)) 11 0 rfl ?_ ?_
  · intro n s e
    subst e
    exact br_t (nI_le (a := 11) (b := 11) (Nat.le_refl _) (by decide)) h
  · intro n i s hi e ih
    subst e
    have e2 : nI (jb_sum (fun i => S.testBit i) (fun _ => 1) i) + ((nI S >>> (nI i &&& 31)) &&& 1) = nI (jb_sum (fun i => S.testBit i) (fun _ => 1) (i + 1)) := by
      rw [jb_bit hS hi]; exact nI_add _ _
    exact br_f (nI_ge (b := 11) hi (by decide)) (nm_r e2 (nm_r (nI_1 i) (ih _ rfl)))
theorem jx_timeDueBy {post : Int32 → Prop} {f0 f1 : Int32} {xl xd : Nat → Int32} {A : Nat} {L D : Nat → Nat} {S d : Nat} (hA : A < 2048) (ha : jb_Arr A L D xl xd) (hs : jb_Sub S A) (hd : d < 2 ^ 31) (h : post (nI (jb_td L D S d))) : wpX_timeDueBy post (f0, f1, xl, xd) (nI S) (nI d) := by
  have hS : S < 2048 := Nat.lt_of_le_of_lt (jb_Sub_le hs) hA
  unfold wpX_timeDueBy
  refine loop_0 (fun n i s => wX_timeDueBy_5 post (nI S) (nI d) f0 f1 xl xd n s (nI i)) (fun i s => s = nI (jb_sum (fun i => S.testBit i && decide (D i ≤ d)) L i)) 11 0 rfl ?_ ?_
  · intro n s e
    subst e
    exact br_t (nI_le (a := 11) (b := 11) (Nat.le_refl _) (by decide)) h
  · intro n i s hi e ih
    subst e
    refine br_f (nI_ge (b := 11) hi (by decide)) (jx_isIn hS hi (fun hb => ?_) (fun hb => ?_))
    · obtain ⟨e1, e2, e3, e4⟩ := ha i (hs i hb)
      have hc : (nI i).toNatClampNeg = i := nI_clamp (by omega)
      refine br_f jb_r1 ⟨vp_in_nI hi (by decide), ?_⟩
      rw [hc, e2, e1]
      refine pk_lt d (D i) (fun hlt => nm_r (nI_1 i) (ih _ (congrArg nI (jb_sum_f (fun z => ?_)).symm))) (fun hle => ⟨vp_in_nI hi (by decide), nm_r ((nI_add _ _).trans (congrArg nI (jb_sum_t ?_).symm)) (nm_r (nI_1 i) (ih _ rfl))⟩)
      · have h2 := of_decide_eq_true (jb_and z).2; omega
      · exact jb_and_i hb (decide_eq_true hle)
    · exact br_t rfl (nm_r (nI_1 i) (ih _ (congrArg nI (jb_sum_f (fun z => hb (jb_and z).1)).symm)))
theorem jx_allInTime {post : Int32 → Prop} {f0 f1 : Int32} {xl xd : Nat → Int32} {A : Nat} {L D : Nat → Nat} {S : Nat} (hA : A < 2048) (ha : jb_Arr A L D xl xd) (hs : jb_Sub S A) (t : jb_AT L D S → post 1) (f : ¬ jb_AT L D S → post 0) : wpX_allInTime post (f0, f1, xl, xd) (nI S) := by
  have hS : S < 2048 := Nat.lt_of_le_of_lt (jb_Sub_le hs) hA
  unfold wpX_allInTime
  refine loop_0 (fun n i (_ : Unit) => wX_allInTime_2 post (nI S) f0 f1 xl xd n (nI i)) (fun i _ => ∀ j, j < i → S.testBit j = true → jb_td L D S (D j) ≤ D j) 11 () (fun j hj => absurd hj (by omega)) ?_ ?_
  · intro n _ h
    exact br_t (nI_le (a := 11) (b := 11) (Nat.le_refl _) (by decide)) (t h)
  · intro n i _ hi h ih
    refine br_f (nI_ge (b := 11) hi (by decide)) (jx_isIn hS hi (fun hb => ?_) (fun hb => ?_))
    · obtain ⟨e1, e2, e3, e4⟩ := ha i (hs i hb)
      have hc : (nI i).toNatClampNeg = i := nI_clamp (by omega)
      have hbd : jb_td L D S (D i) ≤ 550 := jb_td_bd (fun j hj => (ha j (hs j hj)).2.2.1)
      refine br_f jb_r1 ⟨vp_in_nI hi (by decide), ?_⟩
      rw [hc, e2]
      refine jx_timeDueBy hA ha hs (by omega) ⟨vp_in_nI hi (by decide), ?_⟩
      exact pk_le (jb_td L D S (D i)) (D i) (fun hle => nm_r (nI_1 i) (ih () (lt_s h (fun _ => hle)))) (fun hgt => f (fun z => absurd (z i hi hb) (by omega)))
    · exact br_t rfl (nm_r (nI_1 i) (ih () (lt_s h (fun z => absurd z hb))))
theorem jx_ggs {post : Int32 → Prop} {f0 f1 : Int32} {xl xd : Nat → Int32} {A : Nat} {L D : Nat → Nat} {F : Nat} (hA : A < 2048) (ha : jb_Arr A L D xl xd) (hF : jb_Sub F A) (h : ∀ r, jb_Ans (jb_Ok A L D F) r → post r) : wpX_greatestGoodSize post (f0, f1, xl, xd) (nI A) (nI F) := by
  have hF2 : F < 2048 := Nat.lt_of_le_of_lt (jb_Sub_le hF) hA
  unfold wpX_greatestGoodSize
  dsimp only
  refine jx_allInTime hA ha hF (fun hat => ?_) (fun hn => br_t rfl (h _ (Or.inl ⟨fun S hS => hn (jb_AT_mono hS.2 hS.1.2), rfl⟩)))
  refine br_f jb_r1 (jx_sizeOf hF2 ?_)
  refine loop_0 (fun n i s => wX_greatestGoodSize_19 post (nI A) (nI F) f0 f1 xl xd n s (nI i)) (fun i s => ∃ m, s = nI m ∧ (∃ S, jb_Ok A L D F S ∧ jb_sz S = m) ∧ ∀ S, S < i → jb_Ok A L D F S → jb_sz S ≤ m) 2048 (nI (jb_sz F)) ⟨jb_sz F, rfl, ⟨F, ⟨⟨hF, hat⟩, jb_Sub_rf F⟩, rfl⟩, fun S z => absurd z (by omega)⟩ ?_ ?_
  · intro n s ⟨m, e, ⟨S, hS, eS⟩, hm⟩
    subst e
    have h1 := jb_sz_le S
    exact br_t (nI_le (a := 2048) (b := 2048) (Nat.le_refl _) (by decide)) (h _ (Or.inr ⟨m, by omega, rfl, ⟨S, hS, eS⟩, fun R hR => hm R (jb_Ok_lt hA hR) hR⟩))
  · intro n i s hi ⟨m, e, hex, hm⟩ ih
    subst e
    have hm11 : m ≤ 11 := by
      obtain ⟨S, _, eS⟩ := hex
      have h1 := jb_sz_le S
      omega
    have hz := jb_sz_le i
    have keep : (jb_Ok A L D F i → jb_sz i ≤ m) → ∀ x, x = nI i + 1 → wX_greatestGoodSize_19 post (nI A) (nI F) f0 f1 xl xd n (nI m) x :=
      fun hk => nm_r (nI_1 i) (ih _ ⟨m, rfl, hex, lt_s hm hk⟩)
    refine br_f (nI_ge (b := 2048) hi (by decide)) (jx_isWithin hi (fun h1 => ?_) (fun h1 => br_t rfl (keep fun z => absurd z.1.1 h1)))
    refine br_f jb_r1 (jx_isWithin hF2 (fun h2 => ?_) (fun h2 => br_t rfl (keep fun z => absurd z.2 h2)))
    refine br_f jb_r1 (jx_sizeOf hi ?_)
    refine pk_le (jb_sz i) m (fun hle => keep fun _ => hle) (fun hlt => ?_)
    refine jx_allInTime hA ha h1 (fun h3 => ?_) (fun h3 => br_t rfl (keep fun z => absurd z.1.2 h3))
    exact br_f jb_r1 (nm_r (nI_1 i) (ih _ ⟨jb_sz i, rfl, ⟨i, ⟨⟨h1, h3⟩, h2⟩, rfl⟩, lt_s (fun S z q => Nat.le_trans (hm S z q) (by omega)) (fun _ => Nat.le_refl _)⟩))
theorem jx_lgt {post : Int32 → Prop} {xl xd : Nat → Int32} {H : Nat} {L D : Nat → Nat} {F m : Nat} (hH : H < 1024) (ha : jb_Arr H L D xl xd) (hF : jb_Sub F H) (hm11 : m ≤ 11)
    (h : ∀ l, (l = 500 ∨ ∃ S, jb_Ok H L D F S ∧ jb_sz S = m ∧ jb_tt L S = l) → l ≤ 500 → (∀ S, jb_Ok H L D F S → jb_sz S = m → l ≤ jb_tt L S) → post (nI l)) : wpX_leastGoodTime post (nI H, nI F, xl, xd) (nI m) := by
  have hF1 : F < 1024 := Nat.lt_of_le_of_lt (jb_Sub_le hF) hH
  have hF2 : F < 2048 := by omega
  have hA : H < 2048 := by omega
  unfold wpX_leastGoodTime
  refine loop_0 (fun n i s => wX_leastGoodTime_6 post (nI m) (nI H) (nI F) xl xd n s (nI i)) (fun i s => ∃ l, s = nI l ∧ (l = 500 ∨ ∃ S, jb_Ok H L D F S ∧ jb_sz S = m ∧ jb_tt L S = l) ∧ l ≤ 500 ∧ ∀ S, S < i → jb_Ok H L D F S → jb_sz S = m → l ≤ jb_tt L S) 1024 (nI 500) ⟨500, rfl, Or.inl rfl, Nat.le_refl _, fun S z => absurd z (by omega)⟩ ?_ ?_
  · intro n s ⟨l, e, hex, hl, hm⟩
    subst e
    exact br_t (nI_le (a := 1024) (b := 1024) (Nat.le_refl _) (by decide)) (h l hex hl (fun S hS => hm S (jb_Ok_lt hH hS) hS))
  · intro n i s hi ⟨l, e, hex, hl, hm⟩ ih
    subst e
    have hi2 : i < 2048 := by omega
    have hz := jb_sz_le i
    have keep : (jb_Ok H L D F i → jb_sz i = m → l ≤ jb_tt L i) → ∀ x, x = nI i + 1 → wX_leastGoodTime_6 post (nI m) (nI H) (nI F) xl xd n (nI l) x :=
      fun hk => nm_r (nI_1 i) (ih _ ⟨l, rfl, hex, hl, lt_s hm hk⟩)
    refine br_f (nI_ge (b := 1024) hi (by decide)) (jx_isWithin hi2 (fun h1 => ?_) (fun h1 => br_t rfl (keep fun z => absurd z.1.1 h1)))
    refine br_f jb_r1 (jx_isWithin hF2 (fun h2 => ?_) (fun h2 => br_t rfl (keep fun z => absurd z.2 h2)))
    refine br_f jb_r1 (jx_sizeOf hi2 ?_)
    refine pk_eq (jb_sz i) m (fun heq => ?_) (fun hne => keep fun _ z => absurd z hne)
    refine jx_timeDueBy (d := 200) hA ha h1 (by omega) ?_
    have htt : jb_td L D i 200 = jb_tt L i := jb_td_all (fun j _ hj => (ha j (h1 j hj)).2.2.2)
    have hbd : jb_tt L i ≤ 550 := jb_tt_bd (fun j hj => (ha j (h1 j hj)).2.2.1)
    rw [htt]
    refine pk_le l (jb_tt L i) (fun hle => keep fun _ _ => hle) (fun hlt => ?_)
    refine jx_allInTime hA ha h1 (fun h3 => ?_) (fun h3 => br_t rfl (keep fun z => absurd z.1.2 h3))
    exact br_f jb_r1 (nm_r (nI_1 i) (ih _ ⟨jb_tt L i, rfl, Or.inr ⟨i, ⟨⟨h1, h3⟩, h2⟩, heq, rfl⟩, by omega, lt_s (fun S z q y => Nat.le_trans (by omega) (hm S z q y)) (fun _ _ => Nat.le_refl _)⟩))
end
section
/-! the component's smaller methods, and elapse -/
theorem jx_sep {post : Int32 → Prop} {f1 : Int32} {xl xd : Nat → Int32} {H : Nat} (hH : H < 1024) (h : ∀ p, p ≤ 10 → (∀ j, j < p → H.testBit j = true) → (p < 10 → ¬ H.testBit p = true) → post (nI p)) : wpX_smallestEmptyPlace post (nI H, f1, xl, xd) := by
  unfold wpX_smallestEmptyPlace
  refine loop_0 (fun n i (_ : Unit) => wX_smallestEmptyPlace_2 post (nI H) f1 xl xd n (nI i)) (fun i _ => ∀ j, j < i → H.testBit j = true) 10 () (fun j hj => absurd hj (by omega)) ?_ ?_
  · intro n _ g
    exact br_t (nI_le (a := 10) (b := 10) (Nat.le_refl _) (by decide)) (h 10 (Nat.le_refl _) g (fun z => absurd z (by omega)))
  · intro n i _ hi g ih
    refine br_f (nI_ge (b := 10) hi (by decide)) (jx_isIn (by omega) (by omega) (fun hb => ?_) (fun hb => ?_))
    · exact br_f jb_r1 (nm_r (nI_1 i) (ih () (lt_s g hb)))
    · exact br_t rfl (h i (by omega) g (fun _ => hb))
def jb_J (a b : Int32) : Prop := ¬ a < 1 ∧ ¬ 50 < a ∧ ¬ b < 0 ∧ ¬ 200 < b
theorem jb_J_nat {a b : Int32} (h : jb_J a b) : ∃ l d : Nat, a = nI l ∧ b = nI d ∧ 1 ≤ l ∧ l ≤ 50 ∧ d ≤ 200 := by
  obtain ⟨h1, h2, h3, h4⟩ := h
  have h0 : ¬ a < 0 := fun z => h1 (by
    rw [Int32.lt_iff_toInt_lt] at z ⊢
    have e0 : (0 : Int32).toInt = 0 := by decide
    have e1 : (1 : Int32).toInt = 1 := by decide
    omega)
  obtain ⟨l, hl, rfl⟩ := nI_of h0
  obtain ⟨d, hd, rfl⟩ := nI_of h3
  have a1 : ¬ nI l < nI 1 := h1
  have a2 : ¬ nI 50 < nI l := h2
  have a3 : ¬ nI 200 < nI d := h4
  rw [nI_ltI hl (by omega)] at a1
  rw [nI_ltI (by omega) hl] at a2
  rw [nI_ltI (by omega) hd] at a3
  exact ⟨l, d, rfl, rfl, by omega, by omega, by omega⟩
theorem jx_isJob {post : Int32 → Prop} {a b : Int32} (t : jb_J a b → post 1) (f : ¬ jb_J a b → post 0) : wpX_isJob post a b :=
  br_c (fun h => f (fun z => z.1 h)) (fun h1 => br_c (fun h => f (fun z => z.2.1 h)) (fun h2 => br_c (fun h => f (fun z => z.2.2.1 h)) (fun h3 => br_c (fun h => f (fun z => z.2.2.2 h)) (fun h4 => t ⟨h1, h2, h3, h4⟩))))
theorem jy_fits {post : Int32 → Prop} {v : SY} {a b : Int32} (t : jb_J a b → post 1) (f : ¬ jb_J a b → post 0) : wpY_fits post v a b := by
  obtain ⟨v1, v2, v3, v4, v5⟩ := v
  exact br_c (fun h => f (fun z => z.1 h)) (fun h1 => br_c (fun h => f (fun z => z.2.1 h)) (fun h2 => br_c (fun h => f (fun z => z.2.2.1 h)) (fun h3 => br_c (fun h => f (fun z => z.2.2.2 h)) (fun h4 => t ⟨h1, h2, h3, h4⟩))))
/-- place x holds a job of H -/
def jb_At (H : Nat) (x : Int32) : Prop := ∃ i, i < 10 ∧ x = nI i ∧ H.testBit i = true
theorem jb_At_nI {H i : Nat} (hi : i < 10) : jb_At H (nI i) ↔ H.testBit i = true := by
  constructor
  · intro ⟨j, hj, e, hb⟩
    rw [nI_eq (by omega) (by omega)] at e
    rw [e]; exact hb
  · intro hb
    exact ⟨i, hi, rfl, hb⟩
theorem jb_At_lo {H : Nat} {x : Int32} (h : x < 0) : ¬ jb_At H x := fun ⟨j, hj, e, _⟩ => by
  rw [e] at h
  exact nI_pos (by omega) h
theorem jb_At_hi {H : Nat} {x : Int32} (h : nI 10 ≤ x) : ¬ jb_At H x := fun ⟨j, hj, e, _⟩ => by
  rw [e] at h
  exact nI_ge (b := 10) hj (by decide) h
theorem jx_holdsJob {post : Int32 → Prop} {f1 : Int32} {xl xd : Nat → Int32} {H : Nat} {x : Int32} (hH : H < 1024) (t : jb_At H x → post 1) (f : ¬ jb_At H x → post 0) : wpX_holdsJob post (nI H, f1, xl, xd) x := by
  refine br_c (fun h => f (jb_At_lo h)) (fun h0 => br_c (fun h => f (jb_At_hi h)) (fun h1 => ?_))
  obtain ⟨j, hj, rfl⟩ := nI_of h0
  have h2 : ¬ nI 10 ≤ nI j := h1
  rw [nI_leI (by omega) hj] at h2
  have hj2 : j < 10 := by omega
  refine jx_isIn (by omega) (by omega) (fun hb => ?_) (fun hb => ?_)
  · exact br_f jb_r1 (t ((jb_At_nI hj2).mpr hb))
  · exact br_t rfl (f (fun z => hb ((jb_At_nI hj2).mp z)))
theorem jy_isJob {post : Int32 → Prop} {yl yd yf yg yj : Nat → Int32} {H : Nat} {L : Nat → Nat} {x : Int32} (hl : ∀ i, i < 10 → yl i = nI (L i) ∧ L i ≤ 50 ∧ (H.testBit i = true → 1 ≤ L i) ∧ (¬ H.testBit i = true → L i = 0)) (t : jb_At H x → post 1) (f : ¬ jb_At H x → post 0) : wpY_isJob post (yl, yd, yf, yg, yj) x := by
  refine br_c (fun h => f (jb_At_lo h)) (fun h0 => ?_)
  obtain ⟨j, hj, rfl⟩ := nI_of h0
  refine pk_lt 9 j (fun h => f (jb_At_hi (nI_le (by omega) hj))) (fun h => ?_)
  have hj2 : j < 10 := by omega
  obtain ⟨e1, e2, e3, e4⟩ := hl j hj2
  have hc : (nI j).toNatClampNeg = j := nI_clamp hj
  refine ⟨vp_in_nI hj2 (by decide), ?_⟩
  rw [hc, e1]
  refine pk_le (L j) 0 (fun h2 => f (fun z => ?_)) (fun h2 => t ((jb_At_nI hj2).mpr ?_))
  · have h3 := e3 ((jb_At_nI hj2).mp z)
    omega
  · cases hb : H.testBit j
    · have h3 := e4 (by rw [hb]; decide)
      omega
    · rfl
/-! elapse: what is left of H with the deadlines D after T -/
def jb_Left (H : Nat) (D : Nat → Nat) (T i G : Nat) : Prop := G < 1024 ∧ ∀ j, G.testBit j = true ↔ (H.testBit j = true ∧ (j < i → T ≤ D j))
theorem jb_Left_0 {H : Nat} {D : Nat → Nat} {T : Nat} (hH : H < 1024) : jb_Left H D T 0 H :=
  ⟨hH, fun j => ⟨fun h => ⟨h, fun z => absurd z (by omega)⟩, fun h => h.1⟩⟩
theorem jb_Left_k {H : Nat} {D : Nat → Nat} {T i G : Nat} (g : jb_Left H D T i G) (h : H.testBit i = true → T ≤ D i) : jb_Left H D T (i + 1) G := by
  refine ⟨g.1, fun j => ?_⟩
  rw [g.2 j]
  constructor
  · intro ⟨a, b⟩
    refine ⟨a, fun z => ?_⟩
    by_cases e : j = i
    · rw [e] at a ⊢; exact h a
    · exact b (by omega)
  · intro ⟨a, b⟩
    exact ⟨a, fun z => b (by omega)⟩
theorem jb_Left_r {H : Nat} {D : Nat → Nat} {T i G : Nat} (g : jb_Left H D T i G) (h : ¬ T ≤ D i) : jb_Left H D T (i + 1) (jb_rm G i) := by
  have hG := g.1
  have hG2 : G < 2048 := by omega
  refine ⟨Nat.lt_of_le_of_lt (jb_Sub_le (jb_rm_sub hG2)) hG, fun j => ?_⟩
  constructor
  · intro hb
    obtain ⟨h1, h2⟩ := jb_rm_ne hG2 hb
    obtain ⟨h3, h4⟩ := (g.2 j).mp h1
    exact ⟨h3, fun z => h4 (by omega)⟩
  · intro ⟨a, b⟩
    have e : j ≠ i := fun z => by rw [z] at b; exact h (b (by omega))
    exact jb_rm_of hG2 ((g.2 j).mpr ⟨a, fun z => b (by omega)⟩) e
theorem jx_elapse {post : Int32 → SX → Prop} {xl xd : Nat → Int32} {H F : Nat} {L D : Nat → Nat} {T : Nat} (hH : H < 1024) (ha : jb_Arr H L D xl xd) (hF : jb_Sub F H) (hT : T ≤ 200)
    (h : ∀ G E xd', jb_Left H D T 10 G → jb_Left F D T 10 E → (∀ j, j < 10 → H.testBit j = true → T ≤ D j → xd' j = nI (D j - T)) → post (nI (jb_sz G)) (nI G, nI E, xl, xd')) : ∃ n, wX_elapse_15 post (nI T) n 0 (nI H) (nI F) xl xd := by
  have hF1 : F < 1024 := Nat.lt_of_le_of_lt (jb_Sub_le hF) hH
  refine loop_0 (fun n i (s : Int32 × Int32 × (Nat → Int32)) => wX_elapse_15 post (nI T) n (nI i) s.1 s.2.1 xl s.2.2) (fun i s => ∃ G E xd', s = (nI G, nI E, xd') ∧ jb_Left H D T i G ∧ jb_Left F D T i E ∧ (∀ j, j < i → H.testBit j = true → T ≤ D j → xd' j = nI (D j - T)) ∧ ∀ j, i ≤ j → xd' j = xd j) 10 (nI H, nI F, xd) ⟨H, F, xd, rfl, jb_Left_0 hH, jb_Left_0 hF1, fun j hj => absurd hj (by omega), fun _ _ => rfl⟩ ?_ ?_
  · intro n s ⟨G, E, xd', e, g1, g2, g3, g4⟩
    subst e
    have hG := g1.1
    exact br_t (nI_le (a := 10) (b := 10) (Nat.le_refl _) (by decide)) (jx_sizeOf (by omega) (h G E xd' g1 g2 g3))
  · intro n i s hi ⟨G, E, xd', e, g1, g2, g3, g4⟩ ih
    subst e
    have hG := g1.1
    have hE := g2.1
    have hE2 : E < 2048 := by omega
    have hG2 : G < 2048 := by omega
    have hi2 : i < 11 := by omega
    have hc : (nI i).toNatClampNeg = i := nI_clamp (by omega)
    show wX_elapse_15 post (nI T) (n + 1) (nI i) (nI G) (nI E) xl xd'
    refine br_f (nI_ge (b := 10) hi (by decide)) (jx_isIn hG2 hi2 (fun hb => ?_) (fun hb => ?_))
    · have hHi := ((g1.2 i).mp hb).1
      obtain ⟨e1, e2, e3, e4⟩ := ha i hHi
      refine br_f jb_r1 ⟨vp_in_nI hi2 (by decide), vp_in_nI hi2 (by decide), ?_⟩
      rw [hc]
      intro xe ee
      subst ee
      refine ⟨vp_in_nI hi2 (by decide), ?_⟩
      rw [pk_us, g4 i (Nat.le_refl _), e2]
      by_cases hle : T ≤ D i
      · have hs : nI (D i) - nI T = nI (D i - T) := pk_sub hle
        rw [hs]
        refine br_t (nI_pos' (by omega)) (nm_r (nI_1 i) (ih (nI G, nI E, upd xd' i (nI (D i - T))) ⟨G, E, _, rfl, jb_Left_k g1 (fun _ => hle), jb_Left_k g2 (fun _ => hle), fun j hj hHj hTj => ?_, fun j hj => ?_⟩))
        · by_cases e : j = i
          · rw [e, pk_us]
          · rw [pk_un e]; exact g3 j (by omega) hHj hTj
        · rw [pk_un (by omega)]; exact g4 j (by omega)
      · have hs : nI (D i) - nI T < 0 := pk_sneg (by omega) (by omega)
        refine br_f (fun z => absurd hs (Int32.not_lt.mpr z)) ?_
        intro p ep q eq
        have ep2 : p = nI (jb_rm G i) := ep.trans (jb_nrm hG2 hi2)
        have eq2 : q = nI (jb_rm E i) := eq.trans (jb_nrm hE2 hi2)
        subst ep2
        subst eq2
        refine nm_r (nI_1 i) (ih (nI (jb_rm G i), nI (jb_rm E i), upd xd' i (nI (D i) - nI T)) ⟨_, _, _, rfl, jb_Left_r g1 hle, jb_Left_r g2 hle, fun j hj hHj hTj => ?_, fun j hj => ?_⟩)
        · have e : j ≠ i := fun z => by rw [z] at hTj; exact hle hTj
          rw [pk_un e]; exact g3 j (by omega) hHj hTj
        · rw [pk_un (by omega)]; exact g4 j (by omega)
    · have hHi : ¬ H.testBit i = true := fun z => hb ((g1.2 i).mpr ⟨z, fun y => absurd y (by omega)⟩)
      refine br_t rfl (nm_r (nI_1 i) (ih (nI G, nI E, xd') ⟨G, E, xd', rfl, jb_Left_k g1 (fun z => absurd z hHi), jb_Left_k g2 (fun z => absurd (hF i z) hHi), fun j hj hHj hTj => ?_, fun j hj => g4 j (by omega)⟩))
      have e : j ≠ i := fun z => by rw [z] at hHj; exact hHi hHj
      exact g3 j (by omega) hHj hTj
end
section
/-! the reference's own methods, each against the pure picture -/
def jb_Yl (H : Nat) (L : Nat → Nat) (yl : Nat → Int32) : Prop := ∀ i, i < 10 → yl i = nI (L i) ∧ L i ≤ 50 ∧ (H.testBit i = true → 1 ≤ L i) ∧ (¬ H.testBit i = true → L i = 0)
def jb_Yd (H : Nat) (D : Nat → Nat) (yd : Nat → Int32) : Prop := ∀ i, H.testBit i = true → yd i = nI (D i) ∧ D i ≤ 200
def jb_Yf (H F : Nat) (yf : Nat → Int32) : Prop := ∀ i, H.testBit i = true → (F.testBit i = true → yf i = 1) ∧ (¬ F.testBit i = true → yf i = 0)
def jb_Gd (n : Nat) (P : Nat → Prop) (g : Nat → Int32) : Prop := ∀ S, S < n → (P S → g S = 1) ∧ (¬ P S → g S = 0)
theorem jb_nb1 : vp_nar .boolean 1 = 1 := by decide
theorem jb_nb0 : vp_nar .boolean 0 = 0 := by decide
theorem jb_Yl_bd {H : Nat} {L : Nat → Nat} {yl : Nat → Int32} {S : Nat} (hl : jb_Yl H L yl) (hS : S < 1024) : jb_tt L S ≤ 550 :=
  jb_tt_bd (fun i hi => (hl i (jb_lo10 hS hi)).2.1)
theorem jb_Gd_s {n : Nat} {P : Nat → Prop} {g : Nat → Int32} {x : Int32} (h : jb_Gd n P g) (ht : P n → x = 1) (hf : ¬ P n → x = 0) : jb_Gd (n + 1) P (upd g n x) := by
  intro S hS
  by_cases e : S = n
  · rw [e, pk_us]; exact ⟨ht, hf⟩
  · rw [pk_un e]; exact h S (by omega)
theorem jy_in {post : Int32 → Prop} {yl yd yf yg yj : Nat → Int32} {p S : Nat} (hS : S < 2048) (hp : p < 11) (t : S.testBit p = true → post 1) (f : ¬ S.testBit p = true → post 0) : wpY_in post (yl, yd, yf, yg, yj) (nI S) (nI p) :=
  br_c (fun h => t ((jb_bit1 hS hp).mp h)) (fun h => f (fun z => h ((jb_bit1 hS hp).mpr z)))
theorem jy_timeOf {post : Int32 → Prop} {yl yd yf yg yj : Nat → Int32} {H : Nat} {L : Nat → Nat} {S : Nat} (hl : jb_Yl H L yl) (hS : S < 1024) (h : post (nI (jb_tt L S))) : wpY_timeOf post (yl, yd, yf, yg, yj) (nI S) := by
  rw [jb_tt_10 hS] at h
  unfold wpY_timeOf
  refine loop_0 (fun n i s => wY_timeOf_4 post (nI S) yl yd yf yg yj n s (nI i)) (fun i s => s = nI (jb_sum (fun i => S.testBit i) L i)) 10 0 rfl ?_ ?_
  · intro n s e
    subst e
    exact br_t (nI_le (a := 10) (b := 10) (Nat.le_refl _) (by decide)) h
  · intro n i s hi e ih
    subst e
    refine br_f (nI_ge (b := 10) hi (by decide)) (jy_in (by omega) (by omega) (fun hb => ?_) (fun hb => ?_))
    · have hc : (nI i).toNatClampNeg = i := nI_clamp (by omega)
      refine br_f jb_r1 ⟨vp_in_nI hi (by decide), ?_⟩
      rw [hc, (hl i hi).1]
      exact nm_r ((nI_add _ _).trans (congrArg nI (jb_sum_t hb).symm)) (nm_r (nI_1 i) (ih _ rfl))
    · exact br_t rfl (nm_r (nI_1 i) (ih _ (congrArg nI (jb_sum_f hb).symm)))
theorem jy_sizeOf {post : Int32 → Prop} {yl yd yf yg yj : Nat → Int32} {S : Nat} (hS : S < 1024) (h : post (nI (jb_sz S))) : wpY_sizeOf post (yl, yd, yf, yg, yj) (nI S) := by
  rw [jb_sz_10 hS] at h
  unfold wpY_sizeOf
  refine loop_0 (fun n i s => wY_sizeOf_4 post (nI S) yl yd yf yg yj n s (nI i)) (fun i s => s = nI (jb_sum (fun i => S.testBit i) (fun _ => 1) i)) 10 0 rfl ?_ ?_
  · intro n s e
    subst e
    exact br_t (nI_le (a := 10) (b := 10) (Nat.le_refl _) (by decide)) h
  · intro n i s hi e ih
    subst e
    refine br_f (nI_ge (b := 10) hi (by decide)) (jy_in (by omega) (by omega) (fun hb => ?_) (fun hb => ?_))
    · exact br_f jb_r1 (nm_r ((nI_1 _).trans (congrArg nI (jb_sum_t (w := fun _ => 1) hb).symm)) (nm_r (nI_1 i) (ih _ rfl)))
    · exact br_t rfl (nm_r (nI_1 i) (ih _ (congrArg nI (jb_sum_f hb).symm)))
theorem jy_jobs {post : Int32 → Prop} {yl yd yf yg yj : Nat → Int32} {H : Nat} {L : Nat → Nat} (hl : jb_Yl H L yl) (hH : H < 1024) (h : post (nI (jb_sz H))) : wpY_jobs post (yl, yd, yf, yg, yj) := by
  rw [jb_sz_10 hH] at h
  unfold wpY_jobs
  refine loop_0 (fun n i s => wY_jobs_4 post yl yd yf yg yj n s (nI i)) (fun i s => s = nI (jb_sum (fun i => H.testBit i) (fun _ => 1) i)) 10 0 rfl ?_ ?_
  · intro n s e
    subst e
    exact br_t (nI_le (a := 10) (b := 10) (Nat.le_refl _) (by decide)) h
  · intro n i s hi e ih
    subst e
    obtain ⟨e1, e2, e3, e4⟩ := hl i hi
    have hc : (nI i).toNatClampNeg = i := nI_clamp (by omega)
    refine br_f (nI_ge (b := 10) hi (by decide)) ⟨vp_in_nI hi (by decide), ?_⟩
    rw [hc, e1]
    by_cases hb : H.testBit i = true
    · have h3 := e3 hb
      refine pk_le (L i) 0 (fun z => absurd z (by omega)) (fun _ => ?_)
      exact nm_r ((nI_1 _).trans (congrArg nI (jb_sum_t (p := fun i => H.testBit i) (w := fun _ => 1) hb).symm)) (nm_r (nI_1 i) (ih _ rfl))
    · have h3 := e4 hb
      refine pk_le (L i) 0 (fun _ => ?_) (fun z => absurd z (by omega))
      exact nm_r (nI_1 i) (ih _ (congrArg nI (jb_sum_f (p := fun i => H.testBit i) hb).symm))
theorem jy_hasLast {post : Int32 → Prop} {yl yd yf yg yj : Nat → Int32} {H : Nat} {L D : Nat → Nat} {S : Nat} (hl : jb_Yl H L yl) (hd : jb_Yd H D yd) (hS : S < 1024) (h0 : S ≠ 0) (hg : jb_Gd S (jb_FE H L D) yg) (t : jb_FE H L D S → post 1) (f : ¬ jb_FE H L D S → post 0) : wpY_hasLast post (yl, yd, yf, yg, yj) (nI S) := by
  have hS2 : S < 2048 := by omega
  have hbd := jb_Yl_bd hl hS
  unfold wpY_hasLast
  dsimp only
  refine jy_timeOf hl hS ?_
  refine loop_0 (fun n i (_ : Unit) => wY_hasLast_8 post (nI S) (nI (jb_tt L S)) yl yd yf yg yj n (nI i)) (fun i _ => ∀ j, j < i → ¬ (S.testBit j = true ∧ H.testBit j = true ∧ jb_tt L S ≤ D j ∧ jb_FE H L D (jb_rm S j))) 10 () (fun j hj => absurd hj (by omega)) ?_ ?_
  · intro n _ g
    refine br_t (nI_le (a := 10) (b := 10) (Nat.le_refl _) (by decide)) (f (fun z => ?_))
    obtain ⟨i, hi, a, b, c, d⟩ := (jb_step hS2 h0).mp z
    exact g i (jb_lo10 hS a) ⟨a, b, c, d⟩
  · intro n i _ hi g ih
    have hc : (nI i).toNatClampNeg = i := nI_clamp (by omega)
    have skip : ¬ (S.testBit i = true ∧ H.testBit i = true ∧ jb_tt L S ≤ D i ∧ jb_FE H L D (jb_rm S i)) → ∀ x, x = nI i + 1 → wY_hasLast_8 post (nI S) (nI (jb_tt L S)) yl yd yf yg yj n x :=
      fun hk => nm_r (nI_1 i) (ih () (lt_s g hk))
    refine br_f (nI_ge (b := 10) hi (by decide)) (jy_in hS2 (by omega) (fun hb => ?_) (fun hb => br_t rfl (skip fun z => hb z.1)))
    obtain ⟨e1, e2, e3, e4⟩ := hl i hi
    refine br_f jb_r1 ⟨vp_in_nI hi (by decide), ?_⟩
    rw [hc, e1]
    refine pk_le (L i) 0 (fun hz => skip fun z => ?_) (fun hz => ⟨vp_in_nI hi (by decide), ?_⟩)
    · have h3 := e3 z.2.1
      omega
    · have hH : H.testBit i = true := by
        cases hb : H.testBit i
        · have h3 := e4 (by rw [hb]; decide)
          omega
        · rfl
      obtain ⟨d1, d2⟩ := hd i hH
      have hr : jb_rm S i < S := jb_rm_lt hS2 hb
      have hcr : (nI (jb_rm S i)).toNatClampNeg = jb_rm S i := nI_clamp (by omega)
      have hg2 := hg (jb_rm S i) hr
      rw [d1]
      refine pk_lt (D i) (jb_tt L S) (fun hlt => skip fun z => ?_) (fun hge => ?_)
      · have h3 := z.2.2.1
        omega
      · rw [jb_nrm hS2 (by omega), hcr]
        refine ⟨vp_in_nI (by omega) (by decide), ?_⟩
        by_cases hf : jb_FE H L D (jb_rm S i)
        · rw [hg2.1 hf]
          exact br_f jb_r1 (t ((jb_step hS2 h0).mpr ⟨i, by omega, hb, hH, hge, hf⟩))
        · rw [hg2.2 hf]
          exact br_t rfl (skip fun z => hf z.2.2.2)
theorem jy_findGood {post : SY → Prop} {yl yd yf yg yj : Nat → Int32} {H : Nat} {L D : Nat → Nat} (hl : jb_Yl H L yl) (hd : jb_Yd H D yd) (h : ∀ g, jb_Gd 1024 (jb_FE H L D) g → post (yl, yd, yf, g, yj)) : wpY_findGood post (yl, yd, yf, yg, yj) := by
  unfold wpY_findGood
  dsimp only
  intro g0 eg
  rw [jb_nb1] at eg
  have hg0 : jb_Gd 1 (jb_FE H L D) g0 := by
    rw [eg]
    exact jb_Gd_s (n := 0) (fun S hS => absurd hS (by omega)) (fun _ => rfl) (fun z => absurd jb_FE0 z)
  refine pk_loop (fun n i g => wY_findGood_9 post n (nI i) yl yd yf g yj) (fun i g => 1 ≤ i ∧ jb_Gd i (jb_FE H L D) g) 1024 1 g0 (by omega) ⟨Nat.le_refl _, hg0⟩ ?_ ?_
  · intro n g hg
    exact br_t (nI_le (a := 1024) (b := 1024) (Nat.le_refl _) (by decide)) (h g hg.2)
  · intro n i g hi ⟨hi1, hg⟩ ih
    have hc : (nI i).toNatClampNeg = i := nI_clamp (by omega)
    refine br_f (nI_ge (b := 1024) hi (by decide)) (jy_hasLast hl hd hi (by omega) hg (fun hf => ?_) (fun hf => ?_))
    · refine ⟨vp_in_nI hi (by decide), ?_⟩
      rw [hc, jb_nb1]
      exact nm_e (nm_r (nI_1 i) (ih _ ⟨by omega, jb_Gd_s hg (fun _ => rfl) (fun z => absurd hf z)⟩))
    · refine ⟨vp_in_nI hi (by decide), ?_⟩
      rw [hc, jb_nb0]
      exact nm_e (nm_r (nI_1 i) (ih _ ⟨by omega, jb_Gd_s hg (fun z => absurd z hf) (fun _ => rfl)⟩))
end
section
/-! the reference's firmSet, most, leastTime -/
theorem jb_eq {A B : Nat} (h : ∀ j, A.testBit j = true ↔ B.testBit j = true) : A = B :=
  Nat.eq_of_testBit_eq (fun j => Bool.eq_iff_iff.mpr (h j))
theorem jb_H_of {H : Nat} {L : Nat → Nat} {i : Nat} (e4 : ¬ H.testBit i = true → L i = 0) (h : 0 < L i) : H.testBit i = true := by
  cases hb : H.testBit i
  · have h3 := e4 (by rw [hb]; decide)
    omega
  · rfl
theorem jy_firmSet {post : Int32 → Prop} {yl yd yf yg yj : Nat → Int32} {H F : Nat} {L : Nat → Nat} (hl : jb_Yl H L yl) (hf : jb_Yf H F yf) (hF : jb_Sub F H) (hH : H < 1024) (h : post (nI F)) : wpY_firmSet post (yl, yd, yf, yg, yj) := by
  unfold wpY_firmSet
  refine loop_0 (fun n i s => wY_firmSet_4 post yl yd yf yg yj n s (nI i)) (fun i s => ∃ G, s = nI G ∧ ∀ j, G.testBit j = true ↔ (F.testBit j = true ∧ j < i)) 10 0 ⟨0, rfl, fun j => ⟨fun z => ?_, fun z => absurd z.2 (by omega)⟩⟩ ?_ ?_
  · rw [Nat.zero_testBit] at z; exact absurd z (by decide)
  · intro n s ⟨G, e, hG⟩
    subst e
    have eG : G = F := jb_eq (fun j => ⟨fun z => ((hG j).mp z).1, fun z => (hG j).mpr ⟨z, jb_lo10 hH (hF j z)⟩⟩)
    rw [eG]
    exact br_t (nI_le (a := 10) (b := 10) (Nat.le_refl _) (by decide)) h
  · intro n i s hi ⟨G, e, hG⟩ ih
    subst e
    obtain ⟨e1, e2, e3, e4⟩ := hl i hi
    have hc : (nI i).toNatClampNeg = i := nI_clamp (by omega)
    have skip : ¬ F.testBit i = true → ∀ x, x = nI i + 1 → wY_firmSet_4 post yl yd yf yg yj n (nI G) x := fun hn =>
      nm_r (nI_1 i) (ih _ ⟨G, rfl, fun j => ⟨fun z => ⟨((hG j).mp z).1, by have h2 := ((hG j).mp z).2; omega⟩, fun z => (hG j).mpr ⟨z.1, by
        have h2 : j ≠ i := fun e => by rw [e] at z; exact hn z.1
        omega⟩⟩⟩)
    refine br_f (nI_ge (b := 10) hi (by decide)) ⟨vp_in_nI hi (by decide), ?_⟩
    rw [hc, e1]
    refine pk_le (L i) 0 (fun hz => skip (fun z => ?_)) (fun hz => ⟨vp_in_nI hi (by decide), ?_⟩)
    · have h3 := e3 (hF i z)
      omega
    · have hHi := jb_H_of e4 hz
      by_cases hFi : F.testBit i = true
      · rw [(hf i hHi).1 hFi]
        refine br_f jb_r1 (nm_r (jb_nad (by omega)) (nm_r (nI_1 i) (ih _ ⟨jb_ad G i, rfl, fun j => ?_⟩)))
        constructor
        · intro z
          rcases jb_ad_of z with y | y
          · exact ⟨((hG j).mp y).1, by have h2 := ((hG j).mp y).2; omega⟩
          · rw [y]; exact ⟨hFi, by omega⟩
        · intro z
          by_cases e : j = i
          · rw [e]; exact jb_ad_s G i
          · exact jb_ad_sub G i j ((hG j).mpr ⟨z.1, by have h2 := z.2; omega⟩)
      · rw [(hf i hHi).2 hFi]
        exact br_t rfl (skip hFi)
/-! the greatest so far -/
def jb_To (i : Nat) (P : Nat → Prop) (s : Int32) : Prop := ((∀ S, S < i → ¬ P S) ∧ s = -3) ∨ (∃ m, m ≤ 11 ∧ s = nI m ∧ (∃ S, P S ∧ jb_sz S = m) ∧ ∀ S, S < i → P S → jb_sz S ≤ m)
theorem jb_gt3 : ∀ m, m < 12 → ¬ nI m ≤ -3 := by decide +kernel
theorem jb_nn3 {m : Nat} (h : m < 2 ^ 31) : ¬ nI m = -3 := fun e => nI_pos h (by rw [e]; decide)
theorem jb_To_k {i : Nat} {P : Nat → Prop} {s : Int32} (h : jb_To i P s) (hn : ¬ P i) : jb_To (i + 1) P s := by
  rcases h with ⟨h1, h2⟩ | ⟨m, h0, h1, h2, h3⟩
  · exact Or.inl ⟨lt_s h1 hn, h2⟩
  · exact Or.inr ⟨m, h0, h1, h2, lt_s h3 (fun z => absurd z hn)⟩
theorem jb_To_l {i : Nat} {P : Nat → Prop} {s : Int32} (h : jb_To i P s) (hle : nI (jb_sz i) ≤ s) : jb_To (i + 1) P s := by
  have hz := jb_sz_le i
  rcases h with ⟨h1, h2⟩ | ⟨m, h0, h1, h2, h3⟩
  · rw [h2] at hle
    exact absurd hle (jb_gt3 _ (by omega))
  · rw [h1, nI_leI (by omega) (by omega)] at hle
    exact Or.inr ⟨m, h0, h1, h2, lt_s h3 (fun _ => hle)⟩
theorem jb_To_n {i : Nat} {P : Nat → Prop} {s : Int32} (h : jb_To i P s) (hp : P i) (hle : ¬ nI (jb_sz i) ≤ s) : jb_To (i + 1) P (nI (jb_sz i)) := by
  have hz := jb_sz_le i
  refine Or.inr ⟨jb_sz i, hz, rfl, ⟨i, hp, rfl⟩, lt_s (fun S hS pS => ?_) (fun _ => Nat.le_refl _)⟩
  rcases h with ⟨h1, h2⟩ | ⟨m, h0, h1, h2, h3⟩
  · exact absurd pS (h1 S hS)
  · rw [h1, nI_leI (by omega) (by omega)] at hle
    have h4 := h3 S hS pS
    omega
theorem jb_To_e {N : Nat} {P : Nat → Prop} {s : Int32} (h : jb_To N P s) (hN : ∀ S, P S → S < N) : jb_Ans P s := by
  rcases h with ⟨h1, h2⟩ | ⟨m, h0, h1, h2, h3⟩
  · exact Or.inl ⟨fun S pS => h1 S (hN S pS) pS, h2⟩
  · exact Or.inr ⟨m, h0, h1, h2, fun S pS => h3 S (hN S pS) pS⟩
theorem jy_most {post : Int32 → SY → Prop} {yl yd yf yg yj : Nat → Int32} {H : Nat} {L D : Nat → Nat} {F : Nat} (hl : jb_Yl H L yl) (hd : jb_Yd H D yd) (hH : H < 1024) (hF : F < 1024) (h : ∀ r g, jb_Gd 1024 (jb_FE H L D) g → jb_Ans (jb_Ok H L D F) r → post r (yl, yd, yf, g, yj)) : wpY_most post (yl, yd, yf, yg, yj) (nI F) := by
  have hF2 : F < 2048 := by omega
  unfold wpY_most
  dsimp only
  refine jy_findGood hl hd (fun g hg => ?_)
  show ∃ n, wY_most_9 post (nI F) yl yd yf g yj n (-3) 0
  refine loop_0 (fun n i s => wY_most_9 post (nI F) yl yd yf g yj n s (nI i)) (fun i s => jb_To i (jb_Ok H L D F) s) 1024 (-3) (Or.inl ⟨fun S z => absurd z (by omega), rfl⟩) ?_ ?_
  · intro n s hs
    exact br_t (nI_le (a := 1024) (b := 1024) (Nat.le_refl _) (by decide)) (h s g hg (jb_To_e hs (fun S hS => jb_Ok_lt hH hS)))
  · intro n i s hi hs ih
    have hc : (nI i).toNatClampNeg = i := nI_clamp (by omega)
    refine br_f (nI_ge (b := 1024) hi (by decide)) ⟨vp_in_nI hi (by decide), ?_⟩
    rw [hc]
    by_cases hf : jb_FE H L D i
    · rw [(hg i hi).1 hf]
      refine br_f jb_r1 (br_c (fun hw => ?_) (fun hw => nm_r (nI_1 i) (ih _ (jb_To_k hs (fun z => hw ((jb_nsub hF2).mpr z.2))))))
      have hw2 := (jb_nsub hF2).mp hw
      refine jy_sizeOf hi ?_
      exact br_c (fun hle => nm_r (nI_1 i) (ih _ (jb_To_l hs hle))) (fun hle => nm_r (nI_1 i) (ih _ (jb_To_n hs ⟨hf, hw2⟩ hle)))
    · rw [(hg i hi).2 hf]
      exact br_t rfl (nm_r (nI_1 i) (ih _ (jb_To_k hs (fun z => hf z.1))))
/-! the least so far -/
def jb_Lo (i : Nat) (Q : Nat → Prop) (L : Nat → Nat) (s : Int32) : Prop := ((∀ S, S < i → ¬ Q S) ∧ s = -3) ∨ (∃ l, l ≤ 550 ∧ s = nI l ∧ (∃ S, Q S ∧ jb_tt L S = l) ∧ ∀ S, S < i → Q S → l ≤ jb_tt L S)
theorem jb_Lo_k {i : Nat} {Q : Nat → Prop} {L : Nat → Nat} {s : Int32} (h : jb_Lo i Q L s) (hn : ¬ Q i) : jb_Lo (i + 1) Q L s := by
  rcases h with ⟨h1, h2⟩ | ⟨m, h0, h1, h2, h3⟩
  · exact Or.inl ⟨lt_s h1 hn, h2⟩
  · exact Or.inr ⟨m, h0, h1, h2, lt_s h3 (fun z => absurd z hn)⟩
theorem jy_leastTime {post : Int32 → SY → Prop} {yl yd yf yg yj : Nat → Int32} {H F : Nat} {L D : Nat → Nat} (hl : jb_Yl H L yl) (hd : jb_Yd H D yd) (hf : jb_Yf H F yf) (hF : jb_Sub F H) (hH : H < 1024) (h : ∀ r g, jb_LAns (jb_Ok H L D F) L r → post r (yl, yd, yf, g, yj)) : wpY_leastTime post (yl, yd, yf, yg, yj) := by
  have hF1 : F < 1024 := Nat.lt_of_le_of_lt (jb_Sub_le hF) hH
  have hF2 : F < 2048 := by omega
  unfold wpY_leastTime
  dsimp only
  refine jy_firmSet hl hf hF hH ?_
  refine jy_most hl hd hH hF1 (fun r g hg hr => ?_)
  show ∃ n, wY_leastTime_17 post (nI F) r yl yd yf g yj n (-3) 0
  refine loop_0 (fun n i s => wY_leastTime_17 post (nI F) r yl yd yf g yj n s (nI i)) (fun i s => jb_Lo i (fun S => jb_Ok H L D F S ∧ nI (jb_sz S) = r) L s) 1024 (-3) (Or.inl ⟨fun S z => absurd z (by omega), rfl⟩) ?_ ?_
  · intro n s hs
    refine br_t (nI_le (a := 1024) (b := 1024) (Nat.le_refl _) (by decide)) (h s g ?_)
    rcases hr with ⟨a1, a2⟩ | ⟨m, a0, a1, a2⟩
    · rcases hs with ⟨b1, b2⟩ | ⟨l, b0, b1, ⟨S, bS, _⟩, b3⟩
      · exact Or.inl ⟨a1, b2⟩
      · exact absurd bS.1 (a1 S)
    · have conv : ∀ S, nI (jb_sz S) = r → jb_sz S = m := fun S e => by
        have hz := jb_sz_le S
        rw [a1, nI_eq (by omega) (by omega)] at e
        exact e
      rcases hs with ⟨b1, b2⟩ | ⟨l, b0, b1, ⟨S, bS, b2⟩, b3⟩
      · obtain ⟨⟨S, pS, zS⟩, _⟩ := a2
        exact absurd ⟨pS, by rw [zS, a1]⟩ (b1 S (jb_Ok_lt hH pS))
      · exact Or.inr ⟨m, l, a2, b1, ⟨S, bS.1, conv S bS.2, b2⟩, fun R pR zR => b3 R (jb_Ok_lt hH pR) ⟨pR, by rw [zR, a1]⟩⟩
  · intro n i s hi hs ih
    have hc : (nI i).toNatClampNeg = i := nI_clamp (by omega)
    refine br_f (nI_ge (b := 1024) hi (by decide)) ⟨vp_in_nI hi (by decide), ?_⟩
    rw [hc]
    by_cases hfe : jb_FE H L D i
    · rw [(hg i hi).1 hfe]
      refine br_f jb_r1 (br_c (fun hw => ?_) (fun hw => nm_r (nI_1 i) (ih _ (jb_Lo_k hs (fun z => hw ((jb_nsub hF2).mpr z.1.2))))))
      have hw2 := (jb_nsub hF2).mp hw
      refine jy_sizeOf hi ?_
      refine br_c (fun he => ?_) (fun he => nm_r (nI_1 i) (ih _ (jb_Lo_k hs (fun z => he z.2))))
      have hbd := jb_Yl_bd hl hi
      refine jy_timeOf hl hi ?_
      have hQ : jb_Ok H L D F i ∧ nI (jb_sz i) = r := ⟨⟨hfe, hw2⟩, he⟩
      rcases hs with ⟨b1, b2⟩ | ⟨l, b0, b1, b2, b3⟩
      · refine br_t b2 (nm_r (nI_1 i) (ih _ (Or.inr ⟨jb_tt L i, hbd, rfl, ⟨i, hQ, rfl⟩, lt_s (fun S hS qS => absurd qS (b1 S hS)) (fun _ => Nat.le_refl _)⟩)))
      · subst b1
        refine br_f (jb_nn3 (by omega)) ?_
        refine pk_le l (jb_tt L i) (fun hle => nm_r (nI_1 i) (ih _ (Or.inr ⟨l, b0, rfl, b2, lt_s b3 (fun _ => hle)⟩))) (fun hlt => nm_r (nI_1 i) (ih _ (Or.inr ⟨jb_tt L i, hbd, rfl, ⟨i, hQ, rfl⟩, lt_s (fun S hS qS => ?_) (fun _ => Nat.le_refl _)⟩)))
        have h4 := b3 S hS qS
        omega
    · rw [(hg i hi).2 hfe]
      exact br_t rfl (nm_r (nI_1 i) (ih _ (jb_Lo_k hs (fun z => hfe z.1.1))))
end
section
/-! the reference's welcome, elapse and put -/
theorem jy_hasLastWith {post : Int32 → Prop} {yl yd yf yg yj : Nat → Int32} {H : Nat} {L D L' D' : Nat → Nat} {S : Nat} (hl : jb_Yl H L yl) (hd : jb_Yd H D yd) (hS : S < 1024) (hg : jb_Gd 1024 (jb_FE H L D) yg) (hle : ∀ i, i < 10 → L' i = L i) (hde : ∀ i, i < 10 → D' i = D i) (hL10 : L' 10 ≤ 50) (hD10 : D' 10 ≤ 200)
    (hj : jb_Gd S (fun R => jb_FE (jb_ad H 10) L' D' (jb_ad R 10)) yj) (t : jb_FE (jb_ad H 10) L' D' (jb_ad S 10) → post 1) (f : ¬ jb_FE (jb_ad H 10) L' D' (jb_ad S 10) → post 0) : wpY_hasLastWith post (yl, yd, yf, yg, yj) (nI S) (nI (L' 10)) (nI (D' 10)) := by
  have hS2 : S < 2048 := by omega
  have hbd := jb_Yl_bd hl hS
  have hcS : (nI S).toNatClampNeg = S := nI_clamp (by omega)
  have LOOP : ¬ (jb_FE H L D S ∧ jb_tt L S + L' 10 ≤ D' 10) → ∃ n, wY_hasLastWith_29 post (nI S) (nI (jb_tt L S + L' 10)) yl yd yf yg yj n 0 := by
    intro hno
    refine loop_0 (fun n i (_ : Unit) => wY_hasLastWith_29 post (nI S) (nI (jb_tt L S + L' 10)) yl yd yf yg yj n (nI i)) (fun i _ => ∀ j, j < i → ¬ (S.testBit j = true ∧ H.testBit j = true ∧ jb_tt L S + L' 10 ≤ D j ∧ jb_FE (jb_ad H 10) L' D' (jb_ad (jb_rm S j) 10))) 10 () (fun j hj => absurd hj (by omega)) ?_ ?_
    · intro n _ g
      refine br_t (nI_le (a := 10) (b := 10) (Nat.le_refl _) (by decide)) (f (fun z => ?_))
      rcases (jb_jstep hS hle hde).mp z with y | ⟨i, hi, a, b, c, d⟩
      · exact hno y
      · exact g i hi ⟨a, b, c, d⟩
    · intro n i _ hi g ih
      have hc : (nI i).toNatClampNeg = i := nI_clamp (by omega)
      have skip : ¬ (S.testBit i = true ∧ H.testBit i = true ∧ jb_tt L S + L' 10 ≤ D i ∧ jb_FE (jb_ad H 10) L' D' (jb_ad (jb_rm S i) 10)) → ∀ x, x = nI i + 1 → wY_hasLastWith_29 post (nI S) (nI (jb_tt L S + L' 10)) yl yd yf yg yj n x :=
        fun hk => nm_r (nI_1 i) (ih () (lt_s g hk))
      refine br_f (nI_ge (b := 10) hi (by decide)) (jy_in hS2 (by omega) (fun hb => ?_) (fun hb => br_t rfl (skip fun z => hb z.1)))
      obtain ⟨e1, e2, e3, e4⟩ := hl i hi
      refine br_f jb_r1 ⟨vp_in_nI hi (by decide), ?_⟩
      rw [hc, e1]
      refine pk_le (L i) 0 (fun hz => skip fun z => ?_) (fun hz => ⟨vp_in_nI hi (by decide), ?_⟩)
      · have h3 := e3 z.2.1
        omega
      · have hH := jb_H_of e4 hz
        obtain ⟨d1, d2⟩ := hd i hH
        have hr : jb_rm S i < S := jb_rm_lt hS2 hb
        have hcr : (nI (jb_rm S i)).toNatClampNeg = jb_rm S i := nI_clamp (by omega)
        have hg2 := hj (jb_rm S i) hr
        rw [d1]
        refine pk_lt (D i) (jb_tt L S + L' 10) (fun hlt => skip fun z => ?_) (fun hge => ?_)
        · have h3 := z.2.2.1
          omega
        · rw [jb_nrm hS2 (by omega), hcr]
          refine ⟨vp_in_nI (by omega) (by decide), ?_⟩
          by_cases hf : jb_FE (jb_ad H 10) L' D' (jb_ad (jb_rm S i) 10)
          · rw [hg2.1 hf]
            exact br_f jb_r1 (t ((jb_jstep hS hle hde).mpr (Or.inr ⟨i, hi, hb, hH, hge, hf⟩)))
          · rw [hg2.2 hf]
            exact br_t rfl (skip fun z => hf z.2.2.2)
  unfold wpY_hasLastWith
  dsimp only
  refine jy_timeOf hl hS ?_
  refine nm_r (nI_add _ _) ⟨vp_in_nI hS (by decide), ?_⟩
  rw [hcS]
  by_cases hfe : jb_FE H L D S
  · rw [(hg S hS).1 hfe]
    refine br_f jb_r1 ?_
    refine pk_lt (D' 10) (jb_tt L S + L' 10) (fun hlt => LOOP (fun z => ?_)) (fun hge => t ((jb_jstep hS hle hde).mpr (Or.inl ⟨hfe, hge⟩)))
    have h3 := z.2
    omega
  · rw [(hg S hS).2 hfe]
    exact br_t rfl (LOOP (fun z => hfe z.1))
theorem jy_wel {post : Int32 → SY → Prop} {yl yd yf yg yj : Nat → Int32} {H : Nat} {L D L' D' : Nat → Nat} {F m : Nat} (hl : jb_Yl H L yl) (hd : jb_Yd H D yd) (hg : jb_Gd 1024 (jb_FE H L D) yg) (hle : ∀ i, i < 10 → L' i = L i) (hde : ∀ i, i < 10 → D' i = D i) (hL10 : L' 10 ≤ 50) (hD10 : D' 10 ≤ 200) (hF : F < 1024) (hm : m ≤ 11)
    (t : ∀ j, (∃ S, S < 1024 ∧ jb_FE (jb_ad H 10) L' D' (jb_ad S 10) ∧ jb_Sub F S ∧ m < jb_sz S + 1) → post 1 (yl, yd, yf, yg, j))
    (f : ∀ j, ¬ (∃ S, S < 1024 ∧ jb_FE (jb_ad H 10) L' D' (jb_ad S 10) ∧ jb_Sub F S ∧ m < jb_sz S + 1) → post 0 (yl, yd, yf, yg, j)) : ∃ n, wY_welcome_35 post (nI (L' 10)) (nI (D' 10)) (nI F) (nI m) n 0 yl yd yf yg yj := by
  have hF2 : F < 2048 := by omega
  refine loop_0 (fun n i j => wY_welcome_35 post (nI (L' 10)) (nI (D' 10)) (nI F) (nI m) n (nI i) yl yd yf yg j) (fun i j => jb_Gd i (fun R => jb_FE (jb_ad H 10) L' D' (jb_ad R 10)) j ∧ ∀ S, S < i → ¬ (jb_FE (jb_ad H 10) L' D' (jb_ad S 10) ∧ jb_Sub F S ∧ m < jb_sz S + 1)) 1024 yj ⟨fun S z => absurd z (by omega), fun S z => absurd z (by omega)⟩ ?_ ?_
  · intro n j ⟨_, hn⟩
    exact br_t (nI_le (a := 1024) (b := 1024) (Nat.le_refl _) (by decide)) (f j (fun ⟨S, hS, z⟩ => hn S hS z))
  · intro n i j hi ⟨hj, hn⟩ ih
    have hc : (nI i).toNatClampNeg = i := nI_clamp (by omega)
    have hz := jb_sz_le i
    refine br_f (nI_ge (b := 1024) hi (by decide)) (jy_hasLastWith hl hd hi hg hle hde hL10 hD10 hj (fun hfe => ?_) (fun hfe => ?_))
    · refine ⟨vp_in_nI hi (by decide), ?_⟩
      rw [hc, jb_nb1]
      intro j1 ej
      subst ej
      refine ⟨vp_in_nI hi (by decide), ?_⟩
      rw [pk_us]
      have hj2 : jb_Gd (i + 1) (fun R => jb_FE (jb_ad H 10) L' D' (jb_ad R 10)) (upd j i 1) := jb_Gd_s hj (fun _ => rfl) (fun z => absurd hfe z)
      refine br_f jb_r1 (br_c (fun hw => ?_) (fun hw => nm_r (nI_1 i) (ih _ ⟨hj2, lt_s hn (fun z => hw ((jb_nsub hF2).mpr z.2.1))⟩)))
      have hw2 := (jb_nsub hF2).mp hw
      refine jy_sizeOf hi ?_
      refine pk_le (jb_sz i + 1) m (fun h1 => nm_r (nI_1 i) (ih _ ⟨hj2, lt_s hn (fun z => ?_)⟩)) (fun h1 => t _ ⟨i, hi, hfe, hw2, h1⟩) (nI_1 _)
      have h2 := z.2.2
      omega
    · refine ⟨vp_in_nI hi (by decide), ?_⟩
      rw [hc, jb_nb0]
      intro j1 ej
      subst ej
      refine ⟨vp_in_nI hi (by decide), ?_⟩
      rw [pk_us]
      exact br_t rfl (nm_r (nI_1 i) (ih _ ⟨jb_Gd_s hj (fun z => absurd z hfe) (fun _ => rfl), lt_s hn (fun z => hfe z.1)⟩))
/-! elapse -/
theorem jy_elapse {post : Int32 → SY → Prop} {yl yd yf yg yj : Nat → Int32} {H : Nat} {L D : Nat → Nat} {T G : Nat} (hl : jb_Yl H L yl) (hd : jb_Yd H D yd) (hT : T ≤ 200) (hG : jb_Left H D T 10 G)
    (h : ∀ yl' yd', jb_Yl G (fun j => if G.testBit j = true then L j else 0) yl' → jb_Yd G (fun j => D j - T) yd' → post (nI (jb_sz G)) (yl', yd', yf, yg, yj)) : ∃ n, wY_elapse_15 post (nI T) n 0 yl yd yf yg yj := by
  refine loop_0 (fun n i (s : (Nat → Int32) × (Nat → Int32)) => wY_elapse_15 post (nI T) n (nI i) s.1 s.2 yf yg yj) (fun i s => ∃ yl' yd', s = (yl', yd') ∧ (∀ j, j < i → H.testBit j = true → yd' j = nI (D j) - nI T) ∧ (∀ j, j < i → H.testBit j = true → T ≤ D j → yl' j = yl j) ∧ (∀ j, j < i → ¬ (H.testBit j = true ∧ T ≤ D j) → yl' j = 0) ∧ ∀ j, i ≤ j → yl' j = yl j ∧ yd' j = yd j) 10 (yl, yd) ⟨yl, yd, rfl, fun j z => absurd z (by omega), fun j z => absurd z (by omega), fun j z => absurd z (by omega), fun j _ => ⟨rfl, rfl⟩⟩ ?_ ?_
  · intro n s ⟨yl', yd', e, g1, g2, g3, g4⟩
    subst e
    show wY_elapse_15 post (nI T) (n + 1) (nI 10) yl' yd' yf yg yj
    have hYl : jb_Yl G (fun j => if G.testBit j = true then L j else 0) yl' := by
      intro i hi
      obtain ⟨e1, e2, e3, e4⟩ := hl i hi
      by_cases hb : G.testBit i = true
      · obtain ⟨a, b⟩ := (hG.2 i).mp hb
        have h5 := g2 i hi a (b hi)
        refine ⟨?_, ?_, ?_, fun z => absurd hb z⟩
        · show yl' i = nI (if G.testBit i = true then L i else 0)
          rw [if_pos hb, h5, e1]
        · show (if G.testBit i = true then L i else 0) ≤ 50
          rw [if_pos hb]; exact e2
        · intro _
          show 1 ≤ (if G.testBit i = true then L i else 0)
          rw [if_pos hb]; exact e3 a
      · have h5 := g3 i hi (fun z => hb ((hG.2 i).mpr ⟨z.1, fun _ => z.2⟩))
        refine ⟨?_, ?_, fun z => absurd z hb, fun _ => ?_⟩
        · show yl' i = nI (if G.testBit i = true then L i else 0)
          rw [if_neg hb, h5]; rfl
        · show (if G.testBit i = true then L i else 0) ≤ 50
          rw [if_neg hb]; omega
        · show (if G.testBit i = true then L i else 0) = 0
          rw [if_neg hb]
    have hYd : jb_Yd G (fun j => D j - T) yd' := by
      intro i hb
      have hi := jb_lo10 hG.1 hb
      obtain ⟨a, b⟩ := (hG.2 i).mp hb
      have h5 := g1 i hi a
      have h6 := (hd i a).2
      rw [pk_sub (b hi)] at h5
      exact ⟨h5, by show D i - T ≤ 200; omega⟩
    exact br_t (nI_le (a := 10) (b := 10) (Nat.le_refl _) (by decide)) (jy_jobs hYl hG.1 (h yl' yd' hYl hYd))
  · intro n i s hi ⟨yl', yd', e, g1, g2, g3, g4⟩ ih
    subst e
    have hc : (nI i).toNatClampNeg = i := nI_clamp (by omega)
    obtain ⟨k1, k2⟩ := g4 i (Nat.le_refl _)
    obtain ⟨e1, e2, e3, e4⟩ := hl i hi
    show wY_elapse_15 post (nI T) (n + 1) (nI i) yl' yd' yf yg yj
    refine br_f (nI_ge (b := 10) hi (by decide)) ⟨vp_in_nI hi (by decide), vp_in_nI hi (by decide), ?_⟩
    rw [hc]
    intro yd1 ed
    subst ed
    refine ⟨vp_in_nI hi (by decide), ?_⟩
    rw [pk_us, k2]
    have D1 : ∀ j, j < i + 1 → H.testBit j = true → upd yd' i (yd i - nI T) j = nI (D j) - nI T := by
      intro j hj hb
      by_cases e : j = i
      · rw [e] at hb ⊢
        rw [pk_us, (hd i hb).1]
      · rw [pk_un e]; exact g1 j (by omega) hb
    refine br_c (fun h0 => nm_r (nI_1 i) (ih (yl', upd yd' i (yd i - nI T)) ⟨_, _, rfl, D1, ?_, ?_, ?_⟩)) (fun h0 => ⟨vp_in_nI hi (by decide), fun yl1 el => nm_r (nI_1 i) (ih (yl1, upd yd' i (yd i - nI T)) ⟨_, _, rfl, D1, ?_, ?_, ?_⟩)⟩)
    · intro j hj hb hTj
      by_cases e : j = i
      · rw [e]; exact k1
      · exact g2 j (by omega) hb hTj
    · intro j hj hn
      by_cases e : j = i
      · rw [e] at hn ⊢
        rw [k1, e1]
        have hb : ¬ H.testBit i = true := fun hb => by
          have h5 : ¬ T ≤ D i := fun z => hn ⟨hb, z⟩
          have h6 := (hd i hb).2
          have h7 : nI (D i) - nI T < 0 := pk_sneg (by omega) (by omega)
          rw [(hd i hb).1] at h0
          exact absurd h7 (Int32.not_lt.mpr h0)
        rw [e4 hb]; rfl
      · exact g3 j (by omega) hn
    · intro j hj
      have e : j ≠ i := by omega
      rw [pk_un e]; exact g4 j (by omega)
    · intro j hj hb hTj
      by_cases e : j = i
      · rw [e] at hb hTj
        have h6 := (hd i hb).2
        rw [(hd i hb).1, pk_sub hTj] at h0
        exact absurd (nI_pos' (by omega)) h0
      · rw [el, pk_un e]; exact g2 j (by omega) hb hTj
    · intro j hj hn
      by_cases e : j = i
      · rw [e, el, pk_us]
      · rw [el, pk_un e]; exact g3 j (by omega) hn
    · intro j hj
      have e : j ≠ i := by omega
      rw [el, pk_un e, pk_un e]; exact g4 j (by omega)
/-! put -/
theorem jy_put {post : Int32 → SY → Prop} {yl yd yf yg yj : Nat → Int32} {H : Nat} {L : Nat → Nat} {a b c : Int32} (hl : jb_Yl H L yl) (hfull : (∀ j, j < 10 → H.testBit j = true) → post (-2) (yl, yd, yf, yg, yj))
    (hbad : ¬ jb_J a b → ∀ p, p < 10 → ¬ H.testBit p = true → post (-1) (yl, yd, yf, yg, yj))
    (hput : jb_J a b → ∀ p, p < 10 → ¬ H.testBit p = true → (∀ j, j < p → H.testBit j = true) → post (nI p) (upd yl p a, upd yd p b, upd yf p (vp_nar .boolean c), yg, yj)) : wpY_put post (yl, yd, yf, yg, yj) a b c := by
  unfold wpY_put
  refine ⟨11, ?_⟩
  have e9 : (9 : Int32) = nI 10 + (-1) := by decide
  rw [e9]
  refine pk_loopD (fun n k s => wY_put_7 post a b c yl yd yf yg yj n s (nI k + (-1))) (fun k s => k ≤ 10 ∧ ((s = -1 ∧ ∀ j, k ≤ j → j < 10 → H.testBit j = true) ∨ ∃ p, k ≤ p ∧ p < 10 ∧ s = nI p ∧ ¬ H.testBit p = true ∧ ∀ j, k ≤ j → j < p → H.testBit j = true)) ?_ ?_ 10 (-1) ⟨Nat.le_refl _, Or.inl ⟨rfl, fun j h1 h2 => absurd h1 (by omega)⟩⟩
  · intro n s ⟨_, hs⟩
    refine br_t (by decide) ?_
    rcases hs with ⟨e, g⟩ | ⟨p, g0, g1, e, g2, g3⟩
    · rw [e]
      exact br_f (by decide) (hfull (fun j hj => g j (by omega) hj))
    · subst e
      have hc : (nI p).toNatClampNeg = p := nI_clamp (by omega)
      refine br_t (nI_pos' (by omega)) (jy_fits (fun hJ => ?_) (fun hJ => br_t rfl (hbad hJ p g1 g2)))
      refine br_f jb_r1 ⟨vp_in_nI g1 (by decide), ?_⟩
      rw [hc]
      exact nm_e ⟨vp_in_nI g1 (by decide), nm_e ⟨vp_in_nI g1 (by decide), nm_e (hput hJ p g1 g2 (fun j hj => g3 j (by omega) hj))⟩⟩
  · intro n k s ⟨hk, hs⟩ ih
    have hk2 : k < 10 := by omega
    have hc : (nI k).toNatClampNeg = k := nI_clamp (by omega)
    obtain ⟨e1, e2, e3, e4⟩ := hl k hk2
    show wY_put_7 post a b c yl yd yf yg yj (n + 1) s (nI (k + 1) + (-1))
    rw [pk_m1]
    refine br_f (nI_pos (by omega)) ⟨vp_in_nI hk2 (by decide), ?_⟩
    rw [hc, e1]
    refine pk_eq (L k) 0 (fun hz => nm_e (ih _ ⟨by omega, Or.inr ⟨k, Nat.le_refl _, hk2, rfl, fun z => ?_, fun j h1 h2 => absurd h1 (by omega)⟩⟩)) (fun hz => nm_e (ih _ ⟨by omega, ?_⟩))
    · have h3 := e3 z
      omega
    · have hH := jb_H_of e4 (by omega)
      rcases hs with ⟨e, g⟩ | ⟨p, g0, g1, e, g2, g3⟩
      · refine Or.inl ⟨e, fun j h1 h2 => ?_⟩
        by_cases ej : j = k
        · rw [ej]; exact hH
        · exact g j (by omega) h2
      · refine Or.inr ⟨p, by omega, g1, e, g2, fun j h1 h2 => ?_⟩
        by_cases ej : j = k
        · rw [ej]; exact hH
        · exact g3 j (by omega) h2
end
section
/-! the relation, and how the changing methods keep it -/
def jb_R (H F : Nat) (L D : Nat → Nat) (xl xd yl yd yf : Nat → Int32) : Prop := H < 1024 ∧ jb_Sub F H ∧ jb_Arr H L D xl xd ∧ jb_Yl H L yl ∧ jb_Yd H D yd ∧ jb_Yf H F yf
def jb_sF (F p : Nat) (c : Int32) : Nat := if c = 0 then jb_rm F p else jb_ad F p
theorem jb_sF_0 {F p : Nat} : jb_sF F p 0 = jb_rm F p := if_pos rfl
theorem jb_sF_1 {F p : Nat} : jb_sF F p 1 = jb_ad F p := if_neg jb_r1
theorem jb_rm_sf {F p : Nat} (hF : F < 2048) : ¬ (jb_rm F p).testBit p = true := fun z => (jb_rm_ne hF z).2 rfl
theorem jb_rm_o {F p i : Nat} (hF : F < 2048) (e : i ≠ p) : (jb_rm F p).testBit i = true ↔ F.testBit i = true :=
  ⟨fun z => jb_rm_sub hF i z, fun z => jb_rm_of hF z e⟩
theorem jb_sF_o {F p i : Nat} {c : Int32} (hF : F < 2048) (e : i ≠ p) : (jb_sF F p c).testBit i = true ↔ F.testBit i = true := by
  unfold jb_sF
  by_cases h : c = 0
  · rw [if_pos h]; exact jb_rm_o hF e
  · rw [if_neg h, jb_ad_n e]
theorem jb_sF_sub {F H p : Nat} {c : Int32} (hF : F < 2048) (h : jb_Sub F H) (hp : H.testBit p = true) : jb_Sub (jb_sF F p c) H := by
  intro i hi
  by_cases e : i = p
  · rw [e]; exact hp
  · exact h i ((jb_sF_o hF e).mp hi)
theorem jb_sF_Yf {F p : Nat} {c : Int32} {yf : Nat → Int32} (hF : F < 2048) (hc : c = 0 ∨ c = 1) : ((jb_sF F p c).testBit p = true → upd yf p (vp_nar .boolean c) p = 1) ∧ (¬ (jb_sF F p c).testBit p = true → upd yf p (vp_nar .boolean c) p = 0) := by
  rcases hc with h | h
  · rw [h, jb_sF_0, pk_us, jb_nb0]
    exact ⟨fun z => absurd z (jb_rm_sf hF), fun _ => rfl⟩
  · rw [h, jb_sF_1, pk_us, jb_nb1]
    exact ⟨fun _ => rfl, fun z => absurd (jb_ad_s F p) z⟩
theorem jb_R_put {H F : Nat} {L D : Nat → Nat} {xl xd yl yd yf : Nat → Int32} {p l d : Nat} {c : Int32} (h : jb_R H F L D xl xd yl yd yf) (hp : p < 10) (hc : c = 0 ∨ c = 1) (h1 : 1 ≤ l) (h2 : l ≤ 50) (h3 : d ≤ 200) :
    jb_R (jb_ad H p) (jb_sF F p c) (fun i => if i = p then l else L i) (fun i => if i = p then d else D i) (upd xl p (nI l)) (upd xd p (nI d)) (upd yl p (nI l)) (upd yd p (nI d)) (upd yf p (vp_nar .boolean c)) := by
  obtain ⟨hH, hF, ha, hl, hd, hf⟩ := h
  have hF2 : F < 2048 := Nat.lt_of_le_of_lt (jb_Sub_le hF) (by omega)
  refine ⟨jb_ad_lt10 hH hp, jb_sF_sub hF2 (jb_Sub_tr hF (jb_ad_sub H p)) (jb_ad_s H p), fun i hi => ?_, fun i hi => ?_, fun i hi => ?_, fun i hi => ?_⟩
  · by_cases e : i = p
    · rw [e, pk_us, pk_us]
      dsimp only
      rw [if_pos rfl, if_pos rfl]
      exact ⟨rfl, rfl, h2, h3⟩
    · rw [pk_un e, pk_un e]
      dsimp only
      rw [if_neg e, if_neg e]
      rw [jb_ad_n e] at hi
      exact ha i hi
  · by_cases e : i = p
    · rw [e, pk_us]
      dsimp only
      rw [if_pos rfl]
      exact ⟨rfl, h2, fun _ => h1, fun z => absurd (jb_ad_s H p) z⟩
    · rw [pk_un e]
      dsimp only
      rw [if_neg e, jb_ad_n e]
      exact hl i hi
  · by_cases e : i = p
    · rw [e, pk_us]
      dsimp only
      rw [if_pos rfl]
      exact ⟨rfl, h3⟩
    · rw [pk_un e]
      dsimp only
      rw [if_neg e]
      rw [jb_ad_n e] at hi
      exact hd i hi
  · by_cases e : i = p
    · rw [e]; exact jb_sF_Yf hF2 hc
    · rw [pk_un e, jb_sF_o hF2 e]
      rw [jb_ad_n e] at hi
      exact hf i hi
theorem jb_R_firm {H F : Nat} {L D : Nat → Nat} {xl xd yl yd yf : Nat → Int32} {p : Nat} {c : Int32} (h : jb_R H F L D xl xd yl yd yf) (hp : H.testBit p = true) (hc : c = 0 ∨ c = 1) :
    jb_R H (jb_sF F p c) L D xl xd yl yd (upd yf p (vp_nar .boolean c)) := by
  obtain ⟨hH, hF, ha, hl, hd, hf⟩ := h
  have hF2 : F < 2048 := Nat.lt_of_le_of_lt (jb_Sub_le hF) (by omega)
  refine ⟨hH, jb_sF_sub hF2 hF hp, ha, hl, hd, fun i hi => ?_⟩
  by_cases e : i = p
  · rw [e]; exact jb_sF_Yf hF2 hc
  · rw [pk_un e, jb_sF_o hF2 e]; exact hf i hi
theorem jb_R_drop {H F : Nat} {L D : Nat → Nat} {xl xd yl yd yf : Nat → Int32} {p : Nat} (h : jb_R H F L D xl xd yl yd yf) :
    jb_R (jb_rm H p) (jb_rm F p) (fun i => if i = p then 0 else L i) D xl xd (upd yl p 0) yd yf := by
  obtain ⟨hH, hF, ha, hl, hd, hf⟩ := h
  have hH2 : H < 2048 := by omega
  have hF2 : F < 2048 := Nat.lt_of_le_of_lt (jb_Sub_le hF) hH2
  refine ⟨Nat.lt_of_le_of_lt (jb_Sub_le (jb_rm_sub hH2)) hH, fun i hi => ?_, fun i hi => ?_, fun i hi => ?_, fun i hi => hd i (jb_rm_sub hH2 i hi), fun i hi => ?_⟩
  · obtain ⟨z1, z2⟩ := jb_rm_ne hF2 hi
    exact jb_rm_of hH2 (hF i z1) z2
  · obtain ⟨z1, z2⟩ := jb_rm_ne hH2 hi
    dsimp only
    rw [if_neg z2]
    exact ha i z1
  · by_cases e : i = p
    · rw [e, pk_us]
      dsimp only
      rw [if_pos rfl]
      exact ⟨rfl, by omega, fun z => absurd z (jb_rm_sf hH2), fun _ => rfl⟩
    · rw [pk_un e]
      dsimp only
      rw [if_neg e, jb_rm_o hH2 e]
      exact hl i hi
  · obtain ⟨z1, z2⟩ := jb_rm_ne hH2 hi
    rw [jb_rm_o hF2 z2]
    exact hf i z1
theorem jb_R_guest {H F : Nat} {L D : Nat → Nat} {xl xd yl yd yf : Nat → Int32} {a b : Int32} (h : jb_R H F L D xl xd yl yd yf) : jb_R H F L D (upd xl 10 a) (upd xd 10 b) yl yd yf := by
  obtain ⟨hH, hF, ha, hl, hd, hf⟩ := h
  refine ⟨hH, hF, fun i hi => ?_, hl, hd, hf⟩
  have h1 := jb_lo10 hH hi
  have e : i ≠ 10 := by omega
  rw [pk_un e, pk_un e]
  exact ha i hi
theorem jb_Arr_guest {H : Nat} {L D : Nat → Nat} {xl xd : Nat → Int32} {l d : Nat} (hH : H < 1024) (ha : jb_Arr H L D xl xd) (h2 : l ≤ 50) (h3 : d ≤ 200) :
    jb_Arr (jb_ad H 10) (fun i => if i = 10 then l else L i) (fun i => if i = 10 then d else D i) (upd xl 10 (nI l)) (upd xd 10 (nI d)) := by
  intro i hi
  by_cases e : i = 10
  · rw [e, pk_us, pk_us]
    dsimp only
    rw [if_pos rfl, if_pos rfl]
    exact ⟨rfl, rfl, h2, h3⟩
  · rw [pk_un e, pk_un e]
    dsimp only
    rw [if_neg e, if_neg e]
    rw [jb_ad_n e] at hi
    exact ha i hi
theorem jb_R_elapse {H F : Nat} {L D : Nat → Nat} {xl xd yl yd yf xd' yl' yd' : Nat → Int32} {T G E : Nat} (h : jb_R H F L D xl xd yl yd yf) (hG : jb_Left H D T 10 G) (hE : jb_Left F D T 10 E) (hx : ∀ j, j < 10 → H.testBit j = true → T ≤ D j → xd' j = nI (D j - T))
    (hYl : jb_Yl G (fun j => if G.testBit j = true then L j else 0) yl') (hYd : jb_Yd G (fun j => D j - T) yd') : jb_R G E (fun j => if G.testBit j = true then L j else 0) (fun j => D j - T) xl xd' yl' yd' yf := by
  obtain ⟨hH, hF, ha, hl, hd, hf⟩ := h
  refine ⟨hG.1, fun i hi => ?_, fun i hi => ?_, hYl, hYd, fun i hi => ?_⟩
  · obtain ⟨z1, z2⟩ := (hE.2 i).mp hi
    exact (hG.2 i).mpr ⟨hF i z1, z2⟩
  · obtain ⟨z1, z2⟩ := (hG.2 i).mp hi
    have h1 := jb_lo10 hG.1 hi
    obtain ⟨e1, e2, e3, e4⟩ := ha i z1
    dsimp only
    rw [if_pos hi]
    exact ⟨e1, hx i h1 z1 (z2 h1), e3, by omega⟩
  · obtain ⟨z1, z2⟩ := (hG.2 i).mp hi
    have e : E.testBit i = true ↔ F.testBit i = true := ⟨fun z => ((hE.2 i).mp z).1, fun z => (hE.2 i).mpr ⟨z, z2⟩⟩
    rw [e]
    exact hf i z1
theorem jx_setFirm {post : SX → Prop} {f0 : Int32} {xl xd : Nat → Int32} {F p : Nat} {c : Int32} (hF : F < 2048) (hp : p < 11) (h : post (f0, nI (jb_sF F p c), xl, xd)) : wpX_setFirm post (f0, nI F, xl, xd) (nI p) c := by
  unfold jb_sF at h
  by_cases e : c = 0
  · rw [if_pos e] at h
    exact br_t e (nm_r (jb_nrm hF hp) h)
  · rw [if_neg e] at h
    exact br_f e (nm_r (jb_nad hp) h)
end
section
/-! what is owed -/
def i_Rel (k : Nat) (u : SX) (v : SY) : Prop := ∃ (H F : Nat) (L D : Nat → Nat) (xl xd yl yd yf yg yj : Nat → Int32), u = (nI H, nI F, xl, xd) ∧ v = (yl, yd, yf, yg, yj) ∧ jb_R H F L D xl xd yl yd yf
theorem i_up {k : Nat} {u : SX} {v : SY} (h : i_Rel k u v) : i_Rel (k + 4) u v := h
theorem jb_rel {k H F : Nat} {L D : Nat → Nat} {xl xd yl yd yf yg yj : Nat → Int32} (h : jb_R H F L D xl xd yl yd yf) : i_Rel k (nI H, nI F, xl, xd) (yl, yd, yf, yg, yj) :=
  ⟨H, F, L, D, xl, xd, yl, yd, yf, yg, yj, rfl, rfl, h⟩
theorem i_vc0 : wpX_init (fun u => wpY_init (fun v => i_Rel 0 u v)) := by
  have z : ∀ i, ¬ (0 : Nat).testBit i = true := fun i h => by rw [Nat.zero_testBit] at h; exact absurd h (by decide)
  have hR : jb_R 0 0 (fun _ => 0) (fun _ => 0) (fun _ => 0) (fun _ => 0) (fun _ => 0) (fun _ => 0) (fun _ => 0) :=
    ⟨by omega, fun i h => h, fun i h => absurd h (z i), fun i _ => ⟨rfl, Nat.zero_le _, fun h => absurd h (z i), fun _ => rfl⟩, fun i h => absurd h (z i), fun i h => absurd h (z i)⟩
  exact jb_rel (k := 0) (yg := fun _ => 0) (yj := fun _ => 0) hR
theorem i_vc_put {k : Nat} {u : SX} {v : SY} (I : i_Rel k u v) (hk : k + 4 ≤ 2048) (v1 : Int32) (v2 : Int32) (v3 : Int32) : wpX_put (fun r u' => wpY_put (fun r' v' => r' = r ∧ i_Rel (k + 4) u' v') v v1 v2 (lw_bz v3)) u v1 v2 (lw_bz v3) := by
  obtain ⟨H, F, L, D, xl, xd, yl, yd, yf, yg, yj, rfl, rfl, hR⟩ := I
  obtain ⟨hH, hF, ha, hl, hd, hf⟩ := id hR
  have hF2 : F < 2048 := Nat.lt_of_le_of_lt (jb_Sub_le hF) (by omega)
  have hb := lw_bz_01 v3
  generalize lw_bz v3 = c at hb ⊢
  unfold wpX_put
  dsimp only
  refine jx_sep hH (fun p hp hall hemp => ?_)
  have hc : (nI p).toNatClampNeg = p := nI_clamp (by omega)
  rcases Nat.lt_or_ge p 10 with h10 | h10
  · refine br_t (nI_lt (b := 10) h10 (by decide)) (jx_isJob (fun hJ => ?_) (fun hJ => ?_))
    · obtain ⟨l, d, rfl, rfl, b1, b2, b3⟩ := jb_J_nat hJ
      refine br_f jb_r1 ⟨vp_in_nI (by omega) (by decide), ?_⟩
      rw [hc]
      refine nm_e ⟨vp_in_nI (by omega) (by decide), nm_e (nm_r (jb_nad (by omega)) ?_)⟩
      refine jx_setFirm hF2 (by omega) ?_
      refine jy_put hl (fun z => absurd (z p h10) (hemp h10)) (fun z => absurd hJ z) (fun _ q hq q1 q2 => ?_)
      have e : q = p := by
        rcases Nat.lt_trichotomy q p with z | z | z
        · exact absurd (hall q z) q1
        · exact z
        · exact absurd (q2 p z) (hemp h10)
      subst e
      exact ⟨rfl, jb_rel (jb_R_put hR h10 hb b1 b2 b3)⟩
    · refine br_t rfl ?_
      exact jy_put hl (fun z => absurd (z p h10) (hemp h10)) (fun _ q hq q1 => ⟨rfl, jb_rel hR⟩) (fun z => absurd z hJ)
  · refine br_f (nI_nlt (b := 10) h10 (by omega)) ?_
    exact jy_put hl (fun _ => ⟨rfl, jb_rel hR⟩) (fun _ q hq q1 => absurd (hall q (by omega)) q1) (fun _ q hq q1 _ => absurd (hall q (by omega)) q1)
theorem i_vc_drop {k : Nat} {u : SX} {v : SY} (I : i_Rel k u v) (hk : k + 4 ≤ 2048) (v1 : Int32) : wpX_drop (fun r u' => wpY_drop (fun r' v' => r' = r ∧ i_Rel (k + 4) u' v') v v1) u v1 := by
  obtain ⟨H, F, L, D, xl, xd, yl, yd, yf, yg, yj, rfl, rfl, hR⟩ := I
  obtain ⟨hH, hF, ha, hl, hd, hf⟩ := id hR
  have hH2 : H < 2048 := by omega
  have hF2 : F < 2048 := Nat.lt_of_le_of_lt (jb_Sub_le hF) hH2
  unfold wpX_drop
  dsimp only
  refine jx_holdsJob hH (fun hA => ?_) (fun hA => br_t rfl ?_)
  · obtain ⟨i, hi, rfl, hb⟩ := id hA
    have hc : (nI i).toNatClampNeg = i := nI_clamp (by omega)
    have hR2 := jb_R_drop (p := i) hR
    have hs : jb_rm H i < 2048 := by have := jb_rm_lt hH2 hb; omega
    refine br_f jb_r1 (nm_r (jb_nrm hH2 (by omega)) (nm_r (jb_nrm hF2 (by omega)) ?_))
    refine jx_sizeOf hs ?_
    unfold wpY_drop
    dsimp only
    refine jy_isJob hl (fun _ => ?_) (fun z => absurd hA z)
    refine br_f jb_r1 ⟨vp_in_nI hi (by decide), ?_⟩
    rw [hc]
    exact nm_e (jy_jobs hR2.2.2.2.1 hR2.1 ⟨rfl, jb_rel hR2⟩)
  · unfold wpY_drop
    dsimp only
    exact jy_isJob hl (fun z => absurd z hA) (fun _ => br_t rfl ⟨rfl, jb_rel hR⟩)
theorem i_vc_makeFirm {k : Nat} {u : SX} {v : SY} (I : i_Rel k u v) (hk : k + 4 ≤ 2048) (v1 : Int32) (v2 : Int32) : wpX_makeFirm (fun r u' => wpY_makeFirm (fun r' v' => r' = r ∧ i_Rel (k + 4) u' v') v v1 (lw_bz v2)) u v1 (lw_bz v2) := by
  obtain ⟨H, F, L, D, xl, xd, yl, yd, yf, yg, yj, rfl, rfl, hR⟩ := I
  obtain ⟨hH, hF, ha, hl, hd, hf⟩ := id hR
  have hF2 : F < 2048 := Nat.lt_of_le_of_lt (jb_Sub_le hF) (by omega)
  have hb2 := lw_bz_01 v2
  generalize lw_bz v2 = c at hb2 ⊢
  unfold wpX_makeFirm
  dsimp only
  refine jx_holdsJob hH (fun hA => ?_) (fun hA => br_t rfl ?_)
  · obtain ⟨i, hi, rfl, hb⟩ := id hA
    have hc : (nI i).toNatClampNeg = i := nI_clamp (by omega)
    refine br_f jb_r1 (jx_setFirm hF2 (by omega) ?_)
    dsimp only
    unfold wpY_makeFirm
    dsimp only
    refine jy_isJob hl (fun _ => ?_) (fun z => absurd hA z)
    refine br_f jb_r1 ⟨vp_in_nI hi (by decide), ?_⟩
    rw [hc]
    exact nm_e ⟨rfl, jb_rel (jb_R_firm hR hb hb2)⟩
  · unfold wpY_makeFirm
    dsimp only
    exact jy_isJob hl (fun z => absurd z hA) (fun _ => br_t rfl ⟨rfl, jb_rel hR⟩)
theorem i_vc_jobs {k : Nat} {u : SX} {v : SY} (I : i_Rel k u v) (hk : k + 4 ≤ 2048) : wpX_jobs (fun r => wpY_jobs (fun r' => r' = r ∧ i_Rel (k + 4) u v) v) u := by
  obtain ⟨H, F, L, D, xl, xd, yl, yd, yf, yg, yj, rfl, rfl, hR⟩ := I
  obtain ⟨hH, hF, ha, hl, hd, hf⟩ := id hR
  unfold wpX_jobs
  dsimp only
  exact jx_sizeOf (by omega) (jy_jobs hl hH ⟨rfl, jb_rel hR⟩)
theorem i_vc_feasible {k : Nat} {u : SX} {v : SY} (I : i_Rel k u v) (hk : k + 4 ≤ 2048) (v1 : Int32) : wpX_feasible (fun r => wpY_feasible (fun r' v' => r' = r ∧ i_Rel (k + 4) u v') v v1) u v1 := by
  obtain ⟨H, F, L, D, xl, xd, yl, yd, yf, yg, yj, rfl, rfl, hR⟩ := I
  obtain ⟨hH, hF, ha, hl, hd, hf⟩ := id hR
  have hH2 : H < 2048 := by omega
  refine br_c (fun h => br_t h ⟨rfl, jb_rel hR⟩) (fun h0 => ?_)
  obtain ⟨j, hj, rfl⟩ := nI_of h0
  have hc : (nI j).toNatClampNeg = j := nI_clamp hj
  have YS : ∀ r : Int32, j < 1024 → (jb_FE H L D j → r = 1) → (¬ jb_FE H L D j → r = 0) → wpY_feasible (fun r' v' => r' = r ∧ i_Rel (k + 4) (nI H, nI F, xl, xd) v') (yl, yd, yf, yg, yj) (nI j) := by
    intro r hj2 ht hn
    refine br_f h0 (br_t (nI_le (b := 1023) (by omega) (by decide)) (jy_findGood hl hd (fun g hg => ?_)))
    dsimp only
    refine ⟨vp_in_nI hj2 (by decide), ?_⟩
    rw [hc]
    by_cases hfe : jb_FE H L D j
    · rw [(hg j hj2).1 hfe, ht hfe]
      exact ⟨rfl, rfl, jb_rel hR⟩
    · rw [(hg j hj2).2 hfe, hn hfe]
      exact ⟨rfl, rfl, jb_rel hR⟩
  refine pk_lt j 1024 (fun h1 => ?_) (fun h1 => ?_)
  · refine jx_isWithin (by omega) (fun h2 => br_f jb_r1 (jx_allInTime hH2 ha h2 (fun h3 => br_f jb_r1 (YS 1 h1 (fun _ => rfl) (fun z => absurd ⟨h2, h3⟩ z))) (fun h3 => br_t rfl (YS 0 h1 (fun z => absurd z.2 h3) (fun _ => rfl))))) (fun h2 => br_t rfl (YS 0 h1 (fun z => absurd z.1 h2) (fun _ => rfl)))
  · exact br_f h0 (pk_le j 1023 (fun z => absurd z (by omega)) (fun _ => ⟨rfl, jb_rel hR⟩))
theorem jy_mostInTime {post : Int32 → SY → Prop} {yl yd yf yg yj : Nat → Int32} {H F : Nat} {L D : Nat → Nat} (hl : jb_Yl H L yl) (hd : jb_Yd H D yd) (hf : jb_Yf H F yf) (hF : jb_Sub F H) (hH : H < 1024) (h : ∀ r g, jb_Ans (jb_Ok H L D F) r → post r (yl, yd, yf, g, yj)) : wpY_mostInTime post (yl, yd, yf, yg, yj) := by
  have hF1 : F < 1024 := Nat.lt_of_le_of_lt (jb_Sub_le hF) hH
  unfold wpY_mostInTime
  dsimp only
  refine jy_firmSet hl hf hF hH ?_
  exact jy_most hl hd hH hF1 (fun r g _ hr => h r g hr)
theorem i_vc_mostInTime {k : Nat} {u : SX} {v : SY} (I : i_Rel k u v) (hk : k + 4 ≤ 2048) : wpX_mostInTime (fun r => wpY_mostInTime (fun r' v' => r' = r ∧ i_Rel (k + 4) u v') v) u := by
  obtain ⟨H, F, L, D, xl, xd, yl, yd, yf, yg, yj, rfl, rfl, hR⟩ := I
  obtain ⟨hH, hF, ha, hl, hd, hf⟩ := id hR
  unfold wpX_mostInTime
  dsimp only
  refine jx_ggs (by omega) ha hF (fun r hr => ?_)
  exact jy_mostInTime hl hd hf hF hH (fun r' g hr' => ⟨jb_Ans_u hr hr', jb_rel hR⟩)
theorem i_vc_leastTime {k : Nat} {u : SX} {v : SY} (I : i_Rel k u v) (hk : k + 4 ≤ 2048) : wpX_leastTime (fun r => wpY_leastTime (fun r' v' => r' = r ∧ i_Rel (k + 4) u v') v) u := by
  obtain ⟨H, F, L, D, xl, xd, yl, yd, yf, yg, yj, rfl, rfl, hR⟩ := I
  obtain ⟨hH, hF, ha, hl, hd, hf⟩ := id hR
  have YS : ∀ r : Int32, jb_LAns (jb_Ok H L D F) L r → wpY_leastTime (fun r' v' => r' = r ∧ i_Rel (k + 4) (nI H, nI F, xl, xd) v') (yl, yd, yf, yg, yj) :=
    fun r hr => jy_leastTime hl hd hf hF hH (fun r' g hr' => ⟨jb_LAns_u hr hr', jb_rel hR⟩)
  unfold wpX_leastTime
  dsimp only
  refine jx_ggs (by omega) ha hF (fun r hr => ?_)
  rcases hr with ⟨a1, a2⟩ | ⟨m, a0, a1, a2⟩
  · exact br_t a2 (YS _ (Or.inl ⟨a1, rfl⟩))
  · subst a1
    refine br_f (jb_nn3 (by omega)) (jx_lgt hH ha hF a0 (fun l hex hl5 hmin => YS _ (Or.inr ⟨m, l, a2, rfl, ?_, hmin⟩)))
    rcases hex with e | hex
    · obtain ⟨⟨S, pS, zS⟩, _⟩ := a2
      have h1 := hmin S pS zS
      have hS := jb_Ok_lt hH pS
      have h2 : jb_tt L S ≤ 10 * 50 := by
        rw [jb_tt_10 hS]
        exact jb_sum_bd (c := 50) 10 (fun i hi hp => (hl i hi).2.1)
      exact ⟨S, pS, zS, by omega⟩
    · exact hex
end
section
/-! what is owed: affordable, welcome, elapse -/
theorem i_vc_affordable {k : Nat} {u : SX} {v : SY} (I : i_Rel k u v) (hk : k + 4 ≤ 2048) (v1 : Int32) : wpX_affordable (fun r => wpY_affordable (fun r' v' => r' = r ∧ i_Rel (k + 4) u v') v v1) u v1 := by
  obtain ⟨H, F, L, D, xl, xd, yl, yd, yf, yg, yj, rfl, rfl, hR⟩ := I
  obtain ⟨hH, hF, ha, hl, hd, hf⟩ := id hR
  have hH2 : H < 2048 := by omega
  unfold wpX_affordable
  dsimp only
  refine jx_holdsJob hH (fun hA => ?_) (fun hA => br_t rfl ?_)
  · obtain ⟨i, hi, rfl, hb⟩ := id hA
    have hF3 : jb_Sub (jb_ad F i) H := jb_ad_Sub hF hb
    have hF4 : jb_ad F i < 1024 := Nat.lt_of_le_of_lt (jb_Sub_le hF3) hH
    have YS : ∀ r : Int32, (∀ a b : Int32, jb_Ans (jb_Ok H L D F) a → jb_Ans (jb_Ok H L D (jb_ad F i)) b → (a = -3 → 0 = r) ∧ (¬ a = -3 → (a = b → 1 = r) ∧ (¬ a = b → 0 = r))) → wpY_affordable (fun r' v' => r' = r ∧ i_Rel (k + 4) (nI H, nI F, xl, xd) v') (yl, yd, yf, yg, yj) (nI i) := by
      intro r hr
      unfold wpY_affordable
      dsimp only
      refine jy_isJob hl (fun _ => ?_) (fun z => absurd hA z)
      refine br_f jb_r1 (jy_mostInTime hl hd hf hF hH (fun a g1 ha1 => ?_))
      dsimp only
      refine jy_firmSet hl hf hF hH ?_
      rw [jb_nad (by omega)]
      refine jy_most hl hd hH hF4 (fun b g2 _ hb1 => ?_)
      dsimp only
      obtain ⟨c1, c2⟩ := hr a b ha1 hb1
      exact br_c (fun h => ⟨c1 h, jb_rel hR⟩) (fun h => br_c (fun h2 => ⟨(c2 h).1 h2, jb_rel hR⟩) (fun h2 => ⟨(c2 h).2 h2, jb_rel hR⟩))
    refine br_f jb_r1 (jx_ggs hH2 ha hF (fun a ha1 => ?_))
    refine br_c (fun h => YS 0 (fun a' b' ha' _ => ?_)) (fun h => ?_)
    · have e := jb_Ans_u ha1 ha'
      exact ⟨fun _ => rfl, fun z => absurd (e.trans h) z⟩
    · rw [jb_nad (by omega)]
      refine jx_ggs hH2 ha hF3 (fun b hb1 => ?_)
      refine br_c (fun h2 => YS 1 (fun a' b' ha' hb' => ?_)) (fun h2 => YS 0 (fun a' b' ha' hb' => ?_))
      · have e := jb_Ans_u ha1 ha'
        have e2 := jb_Ans_u hb1 hb'
        rw [e, e2]
        exact ⟨fun z => absurd z h, fun _ => ⟨fun _ => rfl, fun z => absurd h2.symm z⟩⟩
      · have e := jb_Ans_u ha1 ha'
        have e2 := jb_Ans_u hb1 hb'
        rw [e, e2]
        exact ⟨fun z => absurd z h, fun _ => ⟨fun z => absurd z.symm h2, fun _ => rfl⟩⟩
  · unfold wpY_affordable
    dsimp only
    exact jy_isJob hl (fun z => absurd z hA) (fun _ => br_t rfl ⟨rfl, jb_rel hR⟩)
theorem i_vc_welcome {k : Nat} {u : SX} {v : SY} (I : i_Rel k u v) (hk : k + 4 ≤ 2048) (v1 : Int32) (v2 : Int32) : wpX_welcome (fun r u' => wpY_welcome (fun r' v' => r' = r ∧ i_Rel (k + 4) u' v') v v1 v2) u v1 v2 := by
  obtain ⟨H, F, L, D, xl, xd, yl, yd, yf, yg, yj, rfl, rfl, hR⟩ := I
  obtain ⟨hH, hF, ha, hl, hd, hf⟩ := id hR
  have hH2 : H < 2048 := by omega
  have hF1 : F < 1024 := Nat.lt_of_le_of_lt (jb_Sub_le hF) hH
  unfold wpX_welcome
  dsimp only
  refine jx_isJob (fun hJ => ?_) (fun hJ => br_t rfl ?_)
  · obtain ⟨l, d, rfl, rfl, b1, b2, b3⟩ := jb_J_nat hJ
    refine br_f jb_r1 (jx_ggs hH2 ha hF (fun r hr => ?_))
    rcases id hr with ⟨a1, a2⟩ | ⟨m, a0, a1, a2⟩
    · refine br_t a2 ?_
      unfold wpY_welcome
      dsimp only
      refine jy_fits (fun _ => ?_) (fun z => absurd hJ z)
      refine br_f jb_r1 (jy_firmSet hl hf hF hH ?_)
      refine jy_most hl hd hH hF1 (fun r' g _ hr' => ?_)
      dsimp only
      exact br_t ((jb_Ans_u hr hr').trans a2) ⟨rfl, jb_rel hR⟩
    · subst a1
      have hle : ∀ i, i < 10 → (fun i => if i = 10 then l else L i) i = L i := fun i hi => if_neg (by omega)
      have hde : ∀ i, i < 10 → (fun i => if i = 10 then d else D i) i = D i := fun i hi => if_neg (by omega)
      have hwel := jb_wel hH hF1 hle hde a2
      have YS : ∀ r' : Int32, ((∃ S, jb_Ok (jb_ad H 10) (fun i => if i = 10 then l else L i) (fun i => if i = 10 then d else D i) F S ∧ m < jb_sz S) → 1 = r') → ((¬ ∃ S, jb_Ok (jb_ad H 10) (fun i => if i = 10 then l else L i) (fun i => if i = 10 then d else D i) F S ∧ m < jb_sz S) → 0 = r') → wpY_welcome (fun r v' => r = r' ∧ i_Rel (k + 4) (nI H, nI F, upd xl 10 (nI l), upd xd 10 (nI d)) v') (yl, yd, yf, yg, yj) (nI l) (nI d) := by
        intro r' ht hn
        rw [hwel] at ht hn
        unfold wpY_welcome
        dsimp only
        refine jy_fits (fun _ => ?_) (fun z => absurd hJ z)
        refine br_f jb_r1 (jy_firmSet hl hf hF hH ?_)
        refine jy_most hl hd hH hF1 (fun r2 g hg hr2 => ?_)
        dsimp only
        have e := jb_Ans_u hr hr2
        subst e
        refine br_f (jb_nn3 (by omega)) ?_
        exact jy_wel (L' := fun i => if i = 10 then l else L i) (D' := fun i => if i = 10 then d else D i) hl hd hg hle hde b2 b3 hF1 a0 (fun j z => ⟨ht z, jb_rel (jb_R_guest hR)⟩) (fun j z => ⟨hn z, jb_rel (jb_R_guest hR)⟩)
      have e1024 : nI H ||| 1024 = nI (jb_ad H 10) := jb_nor H 1024
      refine br_f (jb_nn3 (by omega)) ?_
      intro xl1 ex1 xd1 ex2
      subst ex1
      subst ex2
      rw [e1024]
      refine jx_ggs (jb_ad_lt11 hH2 (by omega)) (jb_Arr_guest hH ha b2 b3) (jb_Sub_tr hF (jb_ad_sub H 10)) (fun r2 hr2 => ?_)
      rcases hr2 with ⟨c1, c2⟩ | ⟨m2, c0, c1, c2⟩
      · subst c2
        refine br_c (fun _ => YS 0 (fun ⟨S, hS, _⟩ => absurd hS (c1 S)) (fun _ => rfl)) (fun h => ?_)
        have h3 : (-3 : Int32) ≤ nI m := Int32.le_trans (by decide : (-3 : Int32) ≤ 0) (nI_pos' (by omega))
        exact absurd h3 h
      · subst c1
        refine pk_le m2 m (fun h => YS 0 (fun ⟨S, hS, hz⟩ => ?_) (fun _ => rfl)) (fun h => YS 1 (fun _ => rfl) (fun z => absurd ?_ z))
        · have h4 := c2.2 S hS
          omega
        · obtain ⟨⟨S, hS, hz⟩, _⟩ := c2
          exact ⟨S, hS, by omega⟩
  · unfold wpY_welcome
    dsimp only
    exact jy_fits (fun z => absurd z hJ) (fun _ => br_t rfl ⟨rfl, jb_rel hR⟩)
theorem i_vc_elapse {k : Nat} {u : SX} {v : SY} (I : i_Rel k u v) (hk : k + 4 ≤ 2048) (v1 : Int32) : wpX_elapse (fun r u' => wpY_elapse (fun r' v' => r' = r ∧ i_Rel (k + 4) u' v') v v1) u v1 := by
  obtain ⟨H, F, L, D, xl, xd, yl, yd, yf, yg, yj, rfl, rfl, hR⟩ := I
  obtain ⟨hH, hF, ha, hl, hd, hf⟩ := id hR
  refine br_c (fun h => br_t h ⟨rfl, jb_rel hR⟩) (fun h0 => br_c (fun h1 => ?_) (fun h1 => br_f h0 (br_f h1 ⟨rfl, jb_rel hR⟩)))
  obtain ⟨T, hT, rfl⟩ := nI_of h0
  have h2 : nI T ≤ nI 200 := h1
  rw [nI_leI hT (by omega)] at h2
  refine jx_elapse hH ha hF h2 (fun G E xd' hG hE hx => ?_)
  exact br_f h0 (br_t h1 (jy_elapse hl hd h2 hG (fun yl' yd' hYl hYd => ⟨rfl, jb_rel (jb_R_elapse hR hG hE hx hYl hYd)⟩)))
end
