/-! sums over places; sets of places as numbers; the criterion by deadlines -/
def jb_sum (p : Nat → Bool) (w : Nat → Nat) : Nat → Nat
  | 0 => 0
  | n + 1 => jb_sum p w n + (if p n = true then w n else 0)
theorem jb_sum_s (p : Nat → Bool) (w : Nat → Nat) (n : Nat) : jb_sum p w (n + 1) = jb_sum p w n + (if p n = true then w n else 0) := rfl
theorem jb_sum_t {p : Nat → Bool} {w : Nat → Nat} {n : Nat} (h : p n = true) : jb_sum p w (n + 1) = jb_sum p w n + w n := by
  rw [jb_sum_s, if_pos h]
theorem jb_sum_f {p : Nat → Bool} {w : Nat → Nat} {n : Nat} (h : ¬ p n = true) : jb_sum p w (n + 1) = jb_sum p w n := by
  rw [jb_sum_s, if_neg h, Nat.add_zero]
theorem jb_sum_le {p q : Nat → Bool} {w : Nat → Nat} : ∀ n, (∀ i, i < n → p i = true → q i = true) → jb_sum p w n ≤ jb_sum q w n := by
  intro n
  induction n with
  | zero => intro _; exact Nat.le_refl _
  | succ n ih =>
    intro h
    have h1 := ih (fun i hi => h i (by omega))
    by_cases hp : p n = true
    · rw [jb_sum_t hp, jb_sum_t (h n (by omega) hp)]; exact Nat.add_le_add_right h1 _
    · rw [jb_sum_f hp, jb_sum_s q]; exact Nat.le_trans h1 (Nat.le_add_right _ _)
theorem jb_sum_congr {p q : Nat → Bool} {w w' : Nat → Nat} : ∀ n, (∀ i, i < n → p i = q i) → (∀ i, i < n → p i = true → w i = w' i) → jb_sum p w n = jb_sum q w' n := by
  intro n
  induction n with
  | zero => intro _ _; rfl
  | succ n ih =>
    intro h hw
    have h1 := ih (fun i hi => h i (by omega)) (fun i hi => hw i (by omega))
    have h2 := h n (by omega)
    by_cases hp : p n = true
    · rw [jb_sum_t hp, jb_sum_t (h2 ▸ hp), h1, hw n (by omega) hp]
    · rw [jb_sum_f hp, jb_sum_f (h2 ▸ hp), h1]
theorem jb_sum_bd {p : Nat → Bool} {w : Nat → Nat} {c : Nat} : ∀ n, (∀ i, i < n → p i = true → w i ≤ c) → jb_sum p w n ≤ n * c := by
  intro n
  induction n with
  | zero => intro _; exact Nat.zero_le _
  | succ n ih =>
    intro h
    have h1 := ih (fun i hi => h i (by omega))
    have h3 : (n + 1) * c = n * c + c := Nat.succ_mul n c
    rw [h3]
    by_cases hp : p n = true
    · rw [jb_sum_t hp]; exact Nat.add_le_add h1 (h n (by omega) hp)
    · rw [jb_sum_f hp]; exact Nat.le_trans h1 (Nat.le_add_right _ _)
theorem jb_amax {p : Nat → Bool} {D : Nat → Nat} : ∀ n, (∃ i, i < n ∧ p i = true) → ∃ i, i < n ∧ p i = true ∧ ∀ j, j < n → p j = true → D j ≤ D i := by
  intro n
  induction n with
  | zero => intro ⟨i, hi, _⟩; omega
  | succ n ih =>
    intro ⟨i, hi, hp⟩
    by_cases hx : ∃ i, i < n ∧ p i = true
    · obtain ⟨m, hm, pm, hmax⟩ := ih hx
      by_cases hn : p n = true ∧ D m < D n
      · refine ⟨n, by omega, hn.1, fun j hj pj => ?_⟩
        rcases Nat.lt_or_ge j n with h | h
        · have h2 := hmax j h pj; omega
        · have e : j = n := by omega
          rw [e]; exact Nat.le_refl _
      · refine ⟨m, by omega, pm, fun j hj pj => ?_⟩
        rcases Nat.lt_or_ge j n with h | h
        · exact hmax j h pj
        · have e : j = n := by omega
          rw [e] at pj ⊢
          exact Nat.le_of_not_lt (fun z => hn ⟨pj, z⟩)
    · have none : ∀ j, j < n → ¬ p j = true := fun j hj pj => hx ⟨j, hj, pj⟩
      have e : i = n := by
        rcases Nat.lt_or_ge i n with h | h
        · exact absurd hp (none i h)
        · omega
      refine ⟨i, hi, hp, fun j hj pj => ?_⟩
      rcases Nat.lt_or_ge j n with h | h
      · exact absurd pj (none j h)
      · have e2 : j = i := by omega
        rw [e2]; exact Nat.le_refl _
/-! ===== sets ===== -/
def jb_Sub (S H : Nat) : Prop := ∀ i, S.testBit i = true → H.testBit i = true
theorem jb_Sub_rf (S : Nat) : jb_Sub S S := fun _ h => h
theorem jb_Sub_tr {R S H : Nat} (h : jb_Sub R S) (g : jb_Sub S H) : jb_Sub R H := fun i z => g i (h i z)
theorem jb_Sub_le {S H : Nat} (h : jb_Sub S H) : S ≤ H := Nat.le_of_testBit h
theorem jb_hi {S n i : Nat} (h : S < 2 ^ n) (hi : n ≤ i) : S.testBit i = false :=
  Nat.testBit_lt_two_pow (Nat.lt_of_lt_of_le h (Nat.pow_le_pow_right (by omega) hi))
theorem jb_p11 : (2048 : Nat) = 2 ^ 11 := by decide
theorem jb_p10 : (1024 : Nat) = 2 ^ 10 := by decide
theorem jb_hi11 {S i : Nat} (h : S < 2048) (hi : 11 ≤ i) : S.testBit i = false := jb_hi (n := 11) (by rw [← jb_p11]; exact h) hi
theorem jb_hi10 {S i : Nat} (h : S < 1024) (hi : 10 ≤ i) : S.testBit i = false := jb_hi (n := 10) (by rw [← jb_p10]; exact h) hi
theorem jb_lo11 {S i : Nat} (h : S < 2048) (hb : S.testBit i = true) : i < 11 :=
  Nat.lt_of_not_le (fun z => by rw [jb_hi11 h z] at hb; exact absurd hb (by decide))
theorem jb_lo10 {S i : Nat} (h : S < 1024) (hb : S.testBit i = true) : i < 10 :=
  Nat.lt_of_not_le (fun z => by rw [jb_hi10 h z] at hb; exact absurd hb (by decide))
theorem jb_lt10 {S : Nat} (h : ∀ i, S.testBit i = true → i < 10) : S < 1024 := by
  rw [jb_p10]
  refine Nat.lt_pow_two_of_testBit S (fun i hi => ?_)
  cases hb : S.testBit i
  · rfl
  · have h2 := h i hb; omega
def jb_rm (S i : Nat) : Nat := S &&& (2047 ^^^ 2 ^ i)
theorem jb_2047 (j : Nat) : (2047 : Nat).testBit j = decide (j < 11) := by
  have h : (2047 : Nat) = 2 ^ 11 - 1 := by decide
  rw [h, Nat.testBit_two_pow_sub_one]
theorem jb_rm_t {S i j : Nat} (hS : S < 2048) : (jb_rm S i).testBit j = (S.testBit j && decide (j ≠ i)) := by
  unfold jb_rm
  rw [Nat.testBit_and, Nat.testBit_xor, jb_2047, Nat.testBit_two_pow]
  by_cases h : j < 11
  · by_cases e : i = j
    · have e' : ¬ j ≠ i := fun z => z e.symm
      rw [decide_eq_true h, decide_eq_true e, decide_eq_false e']; cases S.testBit j <;> rfl
    · have e' : j ≠ i := fun z => e z.symm
      rw [decide_eq_true h, decide_eq_false e, decide_eq_true e']; cases S.testBit j <;> rfl
  · rw [jb_hi11 hS (by omega)]; rfl
theorem jb_rm_sub {S i : Nat} (hS : S < 2048) : jb_Sub (jb_rm S i) S := fun j h => by
  rw [jb_rm_t hS] at h
  cases hb : S.testBit j
  · rw [hb] at h; exact absurd h Bool.false_ne_true
  · rfl
theorem jb_rm_lt {S i : Nat} (hS : S < 2048) (hb : S.testBit i = true) : jb_rm S i < S := by
  have h1 := jb_Sub_le (jb_rm_sub (i := i) hS)
  have h2 : jb_rm S i ≠ S := fun e => by
    have h3 := jb_rm_t (S := S) (i := i) (j := i) hS
    rw [e, hb, decide_eq_false (fun z => z rfl)] at h3
    exact absurd h3 (by decide)
  omega
theorem jb_rm_of {S i j : Nat} (hS : S < 2048) (hb : S.testBit j = true) (e : j ≠ i) : (jb_rm S i).testBit j = true := by
  rw [jb_rm_t hS, hb, decide_eq_true e]; rfl
theorem jb_rm_ne {S i j : Nat} (hS : S < 2048) (hb : (jb_rm S i).testBit j = true) : S.testBit j = true ∧ j ≠ i := by
  refine ⟨jb_rm_sub hS j hb, fun e => ?_⟩
  rw [jb_rm_t hS, decide_eq_false (fun z => z e)] at hb
  cases h : S.testBit j <;> rw [h] at hb <;> exact absurd hb (by decide)
def jb_ad (S i : Nat) : Nat := S ||| 2 ^ i
theorem jb_ad_t (S i j : Nat) : (jb_ad S i).testBit j = (S.testBit j || decide (i = j)) := by
  unfold jb_ad
  rw [Nat.testBit_or, Nat.testBit_two_pow]
theorem jb_ad_s (S i : Nat) : (jb_ad S i).testBit i = true := by
  rw [jb_ad_t, decide_eq_true rfl]; cases S.testBit i <;> rfl
theorem jb_ad_n {S i j : Nat} (e : j ≠ i) : (jb_ad S i).testBit j = S.testBit j := by
  rw [jb_ad_t, decide_eq_false (fun z => e z.symm)]; cases S.testBit j <;> rfl
theorem jb_ad_sub (S i : Nat) : jb_Sub S (jb_ad S i) := fun j h => by
  rw [jb_ad_t, h]; rfl
theorem jb_ad_of {S i j : Nat} (h : (jb_ad S i).testBit j = true) : S.testBit j = true ∨ j = i := by
  by_cases e : j = i
  · exact Or.inr e
  · rw [jb_ad_n e] at h; exact Or.inl h
theorem jb_ad_lt11 {S i : Nat} (hS : S < 2048) (hi : i < 11) : jb_ad S i < 2048 := by
  rw [jb_p11] at hS ⊢
  exact Nat.or_lt_two_pow hS (Nat.pow_lt_pow_right (by omega) hi)
theorem jb_ad_lt10 {S i : Nat} (hS : S < 1024) (hi : i < 10) : jb_ad S i < 1024 := by
  rw [jb_p10] at hS ⊢
  exact Nat.or_lt_two_pow hS (Nat.pow_lt_pow_right (by omega) hi)
theorem jb_ad_Sub {S H i : Nat} (h : jb_Sub S H) (hi : H.testBit i = true) : jb_Sub (jb_ad S i) H := fun j hj => by
  rcases jb_ad_of hj with z | z
  · exact h j z
  · rw [z]; exact hi
theorem jb_ad_id {S i : Nat} (h : S.testBit i = true) : jb_ad S i = S := by
  apply Nat.eq_of_testBit_eq
  intro j
  by_cases e : j = i
  · rw [e, jb_ad_s, h]
  · rw [jb_ad_n e]
/-! ===== the time of a set, the time due by d, the criterion ===== -/
def jb_td (L D : Nat → Nat) (S d : Nat) : Nat := jb_sum (fun i => S.testBit i && decide (D i ≤ d)) L 11
def jb_tt (L : Nat → Nat) (S : Nat) : Nat := jb_sum (fun i => S.testBit i) L 11
def jb_sz (S : Nat) : Nat := jb_sum (fun i => S.testBit i) (fun _ => 1) 11
def jb_AT (L D : Nat → Nat) (S : Nat) : Prop := ∀ i, i < 11 → S.testBit i = true → jb_td L D S (D i) ≤ D i
def jb_FE (H : Nat) (L D : Nat → Nat) (S : Nat) : Prop := jb_Sub S H ∧ jb_AT L D S
theorem jb_and {a b : Bool} (h : (a && b) = true) : a = true ∧ b = true := by
  cases a <;> cases b <;> first | exact ⟨rfl, rfl⟩ | exact absurd h (by decide)
theorem jb_and_i {a b : Bool} (h : a = true) (g : b = true) : (a && b) = true := by rw [h, g]; rfl
theorem jb_td_sub {L D : Nat → Nat} {R S d : Nat} (h : jb_Sub R S) : jb_td L D R d ≤ jb_td L D S d :=
  jb_sum_le 11 (fun i _ hp => jb_and_i (h i (jb_and hp).1) (jb_and hp).2)
theorem jb_td_tt {L D : Nat → Nat} {S d : Nat} : jb_td L D S d ≤ jb_tt L S :=
  jb_sum_le 11 (fun _ _ hp => (jb_and hp).1)
theorem jb_td_all {L D : Nat → Nat} {S d : Nat} (h : ∀ i, i < 11 → S.testBit i = true → D i ≤ d) : jb_td L D S d = jb_tt L S := by
  refine jb_sum_congr 11 (fun i hi => ?_) (fun _ _ _ => rfl)
  show (S.testBit i && decide (D i ≤ d)) = S.testBit i
  cases hb : S.testBit i
  · rfl
  · rw [decide_eq_true (h i hi hb)]; rfl
theorem jb_AT_mono {L D : Nat → Nat} {R S : Nat} (h : jb_Sub R S) (ha : jb_AT L D S) : jb_AT L D R :=
  fun i hi hb => Nat.le_trans (jb_td_sub h) (ha i hi (h i hb))
theorem jb_FE_mono {H : Nat} {L D : Nat → Nat} {R S : Nat} (h : jb_Sub R S) (hf : jb_FE H L D S) : jb_FE H L D R :=
  ⟨jb_Sub_tr h hf.1, jb_AT_mono h hf.2⟩
theorem jb_FE0 {H : Nat} {L D : Nat → Nat} : jb_FE H L D 0 :=
  ⟨fun i h => by rw [Nat.zero_testBit] at h; exact absurd h (by decide), fun i _ h => by rw [Nat.zero_testBit] at h; exact absurd h (by decide)⟩
theorem jb_step {H : Nat} {L D : Nat → Nat} {S : Nat} (hS : S < 2048) (h0 : S ≠ 0) :
    jb_FE H L D S ↔ ∃ i, i < 11 ∧ S.testBit i = true ∧ H.testBit i = true ∧ jb_tt L S ≤ D i ∧ jb_FE H L D (jb_rm S i) := by
  constructor
  · intro ⟨hs, ha⟩
    obtain ⟨b, hb⟩ := Nat.exists_testBit_of_ne_zero h0
    obtain ⟨i, hi, pi, hm⟩ := jb_amax (p := fun i => S.testBit i) (D := D) 11 ⟨b, jb_lo11 hS hb, hb⟩
    refine ⟨i, hi, pi, hs i pi, ?_, jb_FE_mono (jb_rm_sub hS) ⟨hs, ha⟩⟩
    rw [← jb_td_all (D := D) (d := D i) hm]
    exact ha i hi pi
  · intro ⟨i, hi, pi, hh, ht, hs, ha⟩
    refine ⟨fun j hj => ?_, fun j hj pj => ?_⟩
    · by_cases e : j = i
      · rw [e]; exact hh
      · exact hs j (jb_rm_of hS hj e)
    · rcases Nat.lt_or_ge (D j) (D i) with h | h
      · have e : j ≠ i := fun z => by rw [z] at h; omega
        have h2 : jb_td L D S (D j) = jb_td L D (jb_rm S i) (D j) := by
          refine jb_sum_congr 11 (fun q hq => ?_) (fun _ _ _ => rfl)
          show (S.testBit q && decide (D q ≤ D j)) = ((jb_rm S i).testBit q && decide (D q ≤ D j))
          rw [jb_rm_t hS]
          by_cases eq : q = i
          · have hn : ¬ D q ≤ D j := by rw [eq]; omega
            rw [decide_eq_false hn]; cases S.testBit q <;> cases decide (q ≠ i) <;> rfl
          · rw [decide_eq_true eq]; cases S.testBit q <;> rfl
        rw [h2]
        exact ha j hj (jb_rm_of hS pj e)
      · exact Nat.le_trans jb_td_tt (Nat.le_trans ht h)
