/-! the reference's own methods, each against the pure picture -/
def jb_Yl (H : Nat) (L : Nat → Nat) (yl : Nat → Int32) : Prop := ∀ i, i < 10 → yl i = nI (L i) ∧ L i ≤ 50 ∧ (H.testBit i = true → 1 ≤ L i) ∧ (¬ H.testBit i = true → L i = 0)
def jb_Yd (H : Nat) (D : Nat → Nat) (yd : Nat → Int32) : Prop := ∀ i, H.testBit i = true → yd i = nI (D i) ∧ D i ≤ 200
def jb_Yf (H F : Nat) (yf : Nat → Int32) : Prop := ∀ i, H.testBit i = true → (F.testBit i = true → yf i = 1) ∧ (¬ F.testBit i = true → yf i = 0)
def jb_Gd (n : Nat) (P : Nat → Prop) (g : Nat → Int32) : Prop := ∀ S, S < n → (P S → g S = 1) ∧ (¬ P S → g S = 0)
theorem jb_nb1 : vp_nar .boolean 1 = 1 := by decide
theorem jb_nb0 : vp_nar .boolean 0 = 0 := by decide
theorem jb_Yl_bd {H : Nat} {L : Nat → Nat} {yl : Nat → Int32} {S : Nat} (hl : jb_Yl H L yl) (hS : S < 1024) : jb_tt L S ≤ 550 :=
  jb_tt_bd (fun i hi => (hl i (jb_lo10 hS hi)).2.1)
theorem jb_Gd_s {n : Nat} {P : Nat → Prop} {g : Nat → Int32} {x : Int32} (h : jb_Gd n P g) (ht : P n → x = 1) (hf : ¬ P n → x = 0) : jb_Gd (n + 1) P (upd g n x) := by
  intro S hS
  by_cases e : S = n
  · rw [e, pk_us]; exact ⟨ht, hf⟩
  · rw [pk_un e]; exact h S (by omega)
theorem jy_in {post : Int32 → Prop} {yl yd yf yg yj : Nat → Int32} {p S : Nat} (hS : S < 2048) (hp : p < 11) (t : S.testBit p = true → post 1) (f : ¬ S.testBit p = true → post 0) : wpY_in post (yl, yd, yf, yg, yj) (nI S) (nI p) :=
  br_c (fun h => t ((jb_bit1 hS hp).mp h)) (fun h => f (fun z => h ((jb_bit1 hS hp).mpr z)))
theorem jy_timeOf {post : Int32 → Prop} {yl yd yf yg yj : Nat → Int32} {H : Nat} {L : Nat → Nat} {S : Nat} (hl : jb_Yl H L yl) (hS : S < 1024) (h : post (nI (jb_tt L S))) : wpY_timeOf post (yl, yd, yf, yg, yj) (nI S) := by
  rw [jb_tt_10 hS] at h
  unfold wpY_timeOf
  refine loop_0 (fun n i s => wY_timeOf_4 post (nI S) yl yd yf yg yj n s (nI i)) (fun i s => s = nI (jb_sum (fun i => S.testBit i) L i)) 10 0 rfl ?_ ?_
  · intro n s e
    subst e
    exact br_t (nI_le (a := 10) (b := 10) (Nat.le_refl _) (by decide)) h
  · intro n i s hi e ih
    subst e
    refine br_f (nI_ge (b := 10) hi (by decide)) (jy_in (by omega) (by omega) (fun hb => ?_) (fun hb => ?_))
    · have hc : (nI i).toNatClampNeg = i := nI_clamp (by omega)
      refine br_f jb_r1 ⟨vp_in_nI hi (by decide), ?_⟩
      rw [hc, (hl i hi).1]
      exact nm_r ((nI_add _ _).trans (congrArg nI (jb_sum_t hb).symm)) (nm_r (nI_1 i) (ih _ rfl))
    · exact br_t rfl (nm_r (nI_1 i) (ih _ (congrArg nI (jb_sum_f hb).symm)))
theorem jy_sizeOf {post : Int32 → Prop} {yl yd yf yg yj : Nat → Int32} {S : Nat} (hS : S < 1024) (h : post (nI (jb_sz S))) : wpY_sizeOf post (yl, yd, yf, yg, yj) (nI S) := by
  rw [jb_sz_10 hS] at h
  unfold wpY_sizeOf
  refine loop_0 (fun n i s => wY_sizeOf_4 post (nI S) yl yd yf yg yj n s (nI i)) (fun i s => s = nI (jb_sum (fun i => S.testBit i) (fun _ => 1) i)) 10 0 rfl ?_ ?_
  · intro n s e
    subst e
    exact br_t (nI_le (a := 10) (b := 10) (Nat.le_refl _) (by decide)) h
  · intro n i s hi e ih
    subst e
    refine br_f (nI_ge (b := 10) hi (by decide)) (jy_in (by omega) (by omega) (fun hb => ?_) (fun hb => ?_))
    · exact br_f jb_r1 (nm_r ((nI_1 _).trans (congrArg nI (jb_sum_t (w := fun _ => 1) hb).symm)) (nm_r (nI_1 i) (ih _ rfl)))
    · exact br_t rfl (nm_r (nI_1 i) (ih _ (congrArg nI (jb_sum_f hb).symm)))
theorem jy_jobs {post : Int32 → Prop} {yl yd yf yg yj : Nat → Int32} {H : Nat} {L : Nat → Nat} (hl : jb_Yl H L yl) (hH : H < 1024) (h : post (nI (jb_sz H))) : wpY_jobs post (yl, yd, yf, yg, yj) := by
  rw [jb_sz_10 hH] at h
  unfold wpY_jobs
  refine loop_0 (fun n i s => wY_jobs_4 post yl yd yf yg yj n s (nI i)) (fun i s => s = nI (jb_sum (fun i => H.testBit i) (fun _ => 1) i)) 10 0 rfl ?_ ?_
  · intro n s e
    subst e
    exact br_t (nI_le (a := 10) (b := 10) (Nat.le_refl _) (by decide)) h
  · intro n i s hi e ih
    subst e
    obtain ⟨e1, e2, e3, e4⟩ := hl i hi
    have hc : (nI i).toNatClampNeg = i := nI_clamp (by omega)
    refine br_f (nI_ge (b := 10) hi (by decide)) ⟨vp_in_nI hi (by decide), ?_⟩
    rw [hc, e1]
    by_cases hb : H.testBit i = true
    · have h3 := e3 hb
      refine pk_le (L i) 0 (fun z => absurd z (by omega)) (fun _ => ?_)
      exact nm_r ((nI_1 _).trans (congrArg nI (jb_sum_t (p := fun i => H.testBit i) (w := fun _ => 1) hb).symm)) (nm_r (nI_1 i) (ih _ rfl))
    · have h3 := e4 hb
      refine pk_le (L i) 0 (fun _ => ?_) (fun z => absurd z (by omega))
      exact nm_r (nI_1 i) (ih _ (congrArg nI (jb_sum_f (p := fun i => H.testBit i) hb).symm))
theorem jy_hasLast {post : Int32 → Prop} {yl yd yf yg yj : Nat → Int32} {H : Nat} {L D : Nat → Nat} {S : Nat} (hl : jb_Yl H L yl) (hd : jb_Yd H D yd) (hS : S < 1024) (h0 : S ≠ 0) (hg : jb_Gd S (jb_FE H L D) yg) (t : jb_FE H L D S → post 1) (f : ¬ jb_FE H L D S → post 0) : wpY_hasLast post (yl, yd, yf, yg, yj) (nI S) := by
  have hS2 : S < 2048 := by omega
  have hbd := jb_Yl_bd hl hS
  unfold wpY_hasLast
  dsimp only
  refine jy_timeOf hl hS ?_
  refine loop_0 (fun n i (_ : Unit) => wY_hasLast_8 post (nI S) (nI (jb_tt L S)) yl yd yf yg yj n (nI i)) (fun i _ => ∀ j, j < i → ¬ (S.testBit j = true ∧ H.testBit j = true ∧ jb_tt L S ≤ D j ∧ jb_FE H L D (jb_rm S j))) 10 () (fun j hj => absurd hj (by omega)) ?_ ?_
  · intro n _ g
    refine br_t (nI_le (a := 10) (b := 10) (Nat.le_refl _) (by decide)) (f (fun z => ?_))
    obtain ⟨i, hi, a, b, c, d⟩ := (jb_step hS2 h0).mp z
    exact g i (jb_lo10 hS a) ⟨a, b, c, d⟩
  · intro n i _ hi g ih
    have hc : (nI i).toNatClampNeg = i := nI_clamp (by omega)
    have skip : ¬ (S.testBit i = true ∧ H.testBit i = true ∧ jb_tt L S ≤ D i ∧ jb_FE H L D (jb_rm S i)) → ∀ x, x = nI i + 1 → wY_hasLast_8 post (nI S) (nI (jb_tt L S)) yl yd yf yg yj n x :=
      fun hk => nm_r (nI_1 i) (ih () (lt_s g hk))
    refine br_f (nI_ge (b := 10) hi (by decide)) (jy_in hS2 (by omega) (fun hb => ?_) (fun hb => br_t rfl (skip fun z => hb z.1)))
    obtain ⟨e1, e2, e3, e4⟩ := hl i hi
    refine br_f jb_r1 ⟨vp_in_nI hi (by decide), ?_⟩
    rw [hc, e1]
    refine pk_le (L i) 0 (fun hz => skip fun z => ?_) (fun hz => ⟨vp_in_nI hi (by decide), ?_⟩)
    · have h3 := e3 z.2.1
      omega
    · have hH : H.testBit i = true := by
        cases hb : H.testBit i
        · have h3 := e4 (by rw [hb]; decide)
          omega
        · rfl
      obtain ⟨d1, d2⟩ := hd i hH
      have hr : jb_rm S i < S := jb_rm_lt hS2 hb
      have hcr : (nI (jb_rm S i)).toNatClampNeg = jb_rm S i := nI_clamp (by omega)
      have hg2 := hg (jb_rm S i) hr
      rw [d1]
      refine pk_lt (D i) (jb_tt L S) (fun hlt => skip fun z => ?_) (fun hge => ?_)
      · have h3 := z.2.2.1
        omega
      · rw [jb_nrm hS2 (by omega), hcr]
        refine ⟨vp_in_nI (by omega) (by decide), ?_⟩
        by_cases hf : jb_FE H L D (jb_rm S i)
        · rw [hg2.1 hf]
          exact br_f jb_r1 (t ((jb_step hS2 h0).mpr ⟨i, by omega, hb, hH, hge, hf⟩))
        · rw [hg2.2 hf]
          exact br_t rfl (skip fun z => hf z.2.2.2)
theorem jy_findGood {post : SY → Prop} {yl yd yf yg yj : Nat → Int32} {H : Nat} {L D : Nat → Nat} (hl : jb_Yl H L yl) (hd : jb_Yd H D yd) (h : ∀ g, jb_Gd 1024 (jb_FE H L D) g → post (yl, yd, yf, g, yj)) : wpY_findGood post (yl, yd, yf, yg, yj) := by
  unfold wpY_findGood
  dsimp only
  intro g0 eg
  rw [jb_nb1] at eg
  have hg0 : jb_Gd 1 (jb_FE H L D) g0 := by
    rw [eg]
    exact jb_Gd_s (n := 0) (fun S hS => absurd hS (by omega)) (fun _ => rfl) (fun z => absurd jb_FE0 z)
  refine pk_loop (fun n i g => wY_findGood_9 post n (nI i) yl yd yf g yj) (fun i g => 1 ≤ i ∧ jb_Gd i (jb_FE H L D) g) 1024 1 g0 (by omega) ⟨Nat.le_refl _, hg0⟩ ?_ ?_
  · intro n g hg
    exact br_t (nI_le (a := 1024) (b := 1024) (Nat.le_refl _) (by decide)) (h g hg.2)
  · intro n i g hi ⟨hi1, hg⟩ ih
    have hc : (nI i).toNatClampNeg = i := nI_clamp (by omega)
    refine br_f (nI_ge (b := 1024) hi (by decide)) (jy_hasLast hl hd hi (by omega) hg (fun hf => ?_) (fun hf => ?_))
    · refine ⟨vp_in_nI hi (by decide), ?_⟩
      rw [hc, jb_nb1]
      exact nm_e (nm_r (nI_1 i) (ih _ ⟨by omega, jb_Gd_s hg (fun _ => rfl) (fun z => absurd hf z)⟩))
    · refine ⟨vp_in_nI hi (by decide), ?_⟩
      rw [hc, jb_nb0]
      exact nm_e (nm_r (nI_1 i) (ih _ ⟨by omega, jb_Gd_s hg (fun z => absurd z hf) (fun _ => rfl)⟩))
