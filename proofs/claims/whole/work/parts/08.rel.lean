/-! the relation, and how the changing methods keep it -/
def jb_R (H F : Nat) (L D : Nat → Nat) (xl xd yl yd yf : Nat → Int32) : Prop := H < 1024 ∧ jb_Sub F H ∧ jb_Arr H L D xl xd ∧ jb_Yl H L yl ∧ jb_Yd H D yd ∧ jb_Yf H F yf
def jb_sF (F p : Nat) (c : Int32) : Nat := if c = 0 then jb_rm F p else jb_ad F p
theorem jb_sF_0 {F p : Nat} : jb_sF F p 0 = jb_rm F p := if_pos rfl
theorem jb_sF_1 {F p : Nat} : jb_sF F p 1 = jb_ad F p := if_neg jb_r1
theorem jb_rm_sf {F p : Nat} (hF : F < 2048) : ¬ (jb_rm F p).testBit p = true := fun z => (jb_rm_ne hF z).2 rfl
theorem jb_rm_o {F p i : Nat} (hF : F < 2048) (e : i ≠ p) : (jb_rm F p).testBit i = true ↔ F.testBit i = true :=
  ⟨fun z => jb_rm_sub hF i z, fun z => jb_rm_of hF z e⟩
theorem jb_sF_o {F p i : Nat} {c : Int32} (hF : F < 2048) (e : i ≠ p) : (jb_sF F p c).testBit i = true ↔ F.testBit i = true := by
  unfold jb_sF
  by_cases h : c = 0
  · rw [if_pos h]; exact jb_rm_o hF e
  · rw [if_neg h, jb_ad_n e]
theorem jb_sF_sub {F H p : Nat} {c : Int32} (hF : F < 2048) (h : jb_Sub F H) (hp : H.testBit p = true) : jb_Sub (jb_sF F p c) H := by
  intro i hi
  by_cases e : i = p
  · rw [e]; exact hp
  · exact h i ((jb_sF_o hF e).mp hi)
theorem jb_sF_Yf {F p : Nat} {c : Int32} {yf : Nat → Int32} (hF : F < 2048) (hc : c = 0 ∨ c = 1) : ((jb_sF F p c).testBit p = true → upd yf p (vp_nar .boolean c) p = 1) ∧ (¬ (jb_sF F p c).testBit p = true → upd yf p (vp_nar .boolean c) p = 0) := by
  rcases hc with h | h
  · rw [h, jb_sF_0, pk_us, jb_nb0]
    exact ⟨fun z => absurd z (jb_rm_sf hF), fun _ => rfl⟩
  · rw [h, jb_sF_1, pk_us, jb_nb1]
    exact ⟨fun _ => rfl, fun z => absurd (jb_ad_s F p) z⟩
theorem jb_R_put {H F : Nat} {L D : Nat → Nat} {xl xd yl yd yf : Nat → Int32} {p l d : Nat} {c : Int32} (h : jb_R H F L D xl xd yl yd yf) (hp : p < 10) (hc : c = 0 ∨ c = 1) (h1 : 1 ≤ l) (h2 : l ≤ 50) (h3 : d ≤ 200) :
    jb_R (jb_ad H p) (jb_sF F p c) (fun i => if i = p then l else L i) (fun i => if i = p then d else D i) (upd xl p (nI l)) (upd xd p (nI d)) (upd yl p (nI l)) (upd yd p (nI d)) (upd yf p (vp_nar .boolean c)) := by
  obtain ⟨hH, hF, ha, hl, hd, hf⟩ := h
  have hF2 : F < 2048 := Nat.lt_of_le_of_lt (jb_Sub_le hF) (by omega)
  refine ⟨jb_ad_lt10 hH hp, jb_sF_sub hF2 (jb_Sub_tr hF (jb_ad_sub H p)) (jb_ad_s H p), fun i hi => ?_, fun i hi => ?_, fun i hi => ?_, fun i hi => ?_⟩
  · by_cases e : i = p
    · rw [e, pk_us, pk_us]
      dsimp only
      rw [if_pos rfl, if_pos rfl]
      exact ⟨rfl, rfl, h2, h3⟩
    · rw [pk_un e, pk_un e]
      dsimp only
      rw [if_neg e, if_neg e]
      rw [jb_ad_n e] at hi
      exact ha i hi
  · by_cases e : i = p
    · rw [e, pk_us]
      dsimp only
      rw [if_pos rfl]
      exact ⟨rfl, h2, fun _ => h1, fun z => absurd (jb_ad_s H p) z⟩
    · rw [pk_un e]
      dsimp only
      rw [if_neg e, jb_ad_n e]
      exact hl i hi
  · by_cases e : i = p
    · rw [e, pk_us]
      dsimp only
      rw [if_pos rfl]
      exact ⟨rfl, h3⟩
    · rw [pk_un e]
      dsimp only
      rw [if_neg e]
      rw [jb_ad_n e] at hi
      exact hd i hi
  · by_cases e : i = p
    · rw [e]; exact jb_sF_Yf hF2 hc
    · rw [pk_un e, jb_sF_o hF2 e]
      rw [jb_ad_n e] at hi
      exact hf i hi
theorem jb_R_firm {H F : Nat} {L D : Nat → Nat} {xl xd yl yd yf : Nat → Int32} {p : Nat} {c : Int32} (h : jb_R H F L D xl xd yl yd yf) (hp : H.testBit p = true) (hc : c = 0 ∨ c = 1) :
    jb_R H (jb_sF F p c) L D xl xd yl yd (upd yf p (vp_nar .boolean c)) := by
  obtain ⟨hH, hF, ha, hl, hd, hf⟩ := h
  have hF2 : F < 2048 := Nat.lt_of_le_of_lt (jb_Sub_le hF) (by omega)
  refine ⟨hH, jb_sF_sub hF2 hF hp, ha, hl, hd, fun i hi => ?_⟩
  by_cases e : i = p
  · rw [e]; exact jb_sF_Yf hF2 hc
  · rw [pk_un e, jb_sF_o hF2 e]; exact hf i hi
theorem jb_R_drop {H F : Nat} {L D : Nat → Nat} {xl xd yl yd yf : Nat → Int32} {p : Nat} (h : jb_R H F L D xl xd yl yd yf) :
    jb_R (jb_rm H p) (jb_rm F p) (fun i => if i = p then 0 else L i) D xl xd (upd yl p 0) yd yf := by
  obtain ⟨hH, hF, ha, hl, hd, hf⟩ := h
  have hH2 : H < 2048 := by omega
  have hF2 : F < 2048 := Nat.lt_of_le_of_lt (jb_Sub_le hF) hH2
  refine ⟨Nat.lt_of_le_of_lt (jb_Sub_le (jb_rm_sub hH2)) hH, fun i hi => ?_, fun i hi => ?_, fun i hi => ?_, fun i hi => hd i (jb_rm_sub hH2 i hi), fun i hi => ?_⟩
  · obtain ⟨z1, z2⟩ := jb_rm_ne hF2 hi
    exact jb_rm_of hH2 (hF i z1) z2
  · obtain ⟨z1, z2⟩ := jb_rm_ne hH2 hi
    dsimp only
    rw [if_neg z2]
    exact ha i z1
  · by_cases e : i = p
    · rw [e, pk_us]
      dsimp only
      rw [if_pos rfl]
      exact ⟨rfl, by omega, fun z => absurd z (jb_rm_sf hH2), fun _ => rfl⟩
    · rw [pk_un e]
      dsimp only
      rw [if_neg e, jb_rm_o hH2 e]
      exact hl i hi
  · obtain ⟨z1, z2⟩ := jb_rm_ne hH2 hi
    rw [jb_rm_o hF2 z2]
    exact hf i z1
theorem jb_R_guest {H F : Nat} {L D : Nat → Nat} {xl xd yl yd yf : Nat → Int32} {a b : Int32} (h : jb_R H F L D xl xd yl yd yf) : jb_R H F L D (upd xl 10 a) (upd xd 10 b) yl yd yf := by
  obtain ⟨hH, hF, ha, hl, hd, hf⟩ := h
  refine ⟨hH, hF, fun i hi => ?_, hl, hd, hf⟩
  have h1 := jb_lo10 hH hi
  have e : i ≠ 10 := by omega
  rw [pk_un e, pk_un e]
  exact ha i hi
theorem jb_Arr_guest {H : Nat} {L D : Nat → Nat} {xl xd : Nat → Int32} {l d : Nat} (hH : H < 1024) (ha : jb_Arr H L D xl xd) (h2 : l ≤ 50) (h3 : d ≤ 200) :
    jb_Arr (jb_ad H 10) (fun i => if i = 10 then l else L i) (fun i => if i = 10 then d else D i) (upd xl 10 (nI l)) (upd xd 10 (nI d)) := by
  intro i hi
  by_cases e : i = 10
  · rw [e, pk_us, pk_us]
    dsimp only
    rw [if_pos rfl, if_pos rfl]
    exact ⟨rfl, rfl, h2, h3⟩
  · rw [pk_un e, pk_un e]
    dsimp only
    rw [if_neg e, if_neg e]
    rw [jb_ad_n e] at hi
    exact ha i hi
theorem jb_R_elapse {H F : Nat} {L D : Nat → Nat} {xl xd yl yd yf xd' yl' yd' : Nat → Int32} {T G E : Nat} (h : jb_R H F L D xl xd yl yd yf) (hG : jb_Left H D T 10 G) (hE : jb_Left F D T 10 E) (hx : ∀ j, j < 10 → H.testBit j = true → T ≤ D j → xd' j = nI (D j - T))
    (hYl : jb_Yl G (fun j => if G.testBit j = true then L j else 0) yl') (hYd : jb_Yd G (fun j => D j - T) yd') : jb_R G E (fun j => if G.testBit j = true then L j else 0) (fun j => D j - T) xl xd' yl' yd' yf := by
  obtain ⟨hH, hF, ha, hl, hd, hf⟩ := h
  refine ⟨hG.1, fun i hi => ?_, fun i hi => ?_, hYl, hYd, fun i hi => ?_⟩
  · obtain ⟨z1, z2⟩ := (hE.2 i).mp hi
    exact (hG.2 i).mpr ⟨hF i z1, z2⟩
  · obtain ⟨z1, z2⟩ := (hG.2 i).mp hi
    have h1 := jb_lo10 hG.1 hi
    obtain ⟨e1, e2, e3, e4⟩ := ha i z1
    dsimp only
    rw [if_pos hi]
    exact ⟨e1, hx i h1 z1 (z2 h1), e3, by omega⟩
  · obtain ⟨z1, z2⟩ := (hG.2 i).mp hi
    have e : E.testBit i = true ↔ F.testBit i = true := ⟨fun z => ((hE.2 i).mp z).1, fun z => (hE.2 i).mpr ⟨z, z2⟩⟩
    rw [e]
    exact hf i z1
theorem jx_setFirm {post : SX → Prop} {f0 : Int32} {xl xd : Nat → Int32} {F p : Nat} {c : Int32} (hF : F < 2048) (hp : p < 11) (h : post (f0, nI (jb_sF F p c), xl, xd)) : wpX_setFirm post (f0, nI F, xl, xd) (nI p) c := by
  unfold jb_sF at h
  by_cases e : c = 0
  · rw [if_pos e] at h
    exact br_t e (nm_r (jb_nrm hF hp) h)
  · rw [if_neg e] at h
    exact br_f e (nm_r (jb_nad hp) h)
