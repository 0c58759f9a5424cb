/-! ===== the invariant; what was ===== -/
theorem zRel_mono {sn sl sfin swk : Int32} {scols snear slds : zF} {qc : Int32} {qf b : zF} {N L : Nat} {go : Nat → Nat → Nat} {Ls : List Int32} (h : zRel sn sl sfin swk scols snear slds qc qf b N L go Ls) {cols2 near2 lds2 : zF} {c2 : Int32} {f2 b2 : zF} (h1 : ∀ i, i < 12 → cols2 i = scols i) (h2 : ∀ i, i < 12 → near2 i = snear i) (h3 : ∀ i, i < 36 → lds2 i = slds i) (h4 : rowC c2 f2 Ls) (h5 : ∀ j, j < 76 → b2 j = b j) : zRel sn sl sfin swk cols2 near2 lds2 c2 f2 b2 N L go Ls := by
  obtain ⟨⟨hN1, hN⟩, ⟨hL1, hL⟩, ⟨en, eb0⟩, ⟨el, eb1⟩, ⟨ef, hfs⟩, ew, hcols, hnear, hsym, hirr, hgo, hrc, hok, hcov, hrm⟩ := h
  refine ⟨⟨hN1, hN⟩, ⟨hL1, hL⟩, ⟨en, by rw [h5 0 (by omega)]; exact eb0⟩, ⟨el, by rw [h5 1 (by omega)]; exact eb1⟩, ⟨by rw [h5 2 (by omega)]; exact ef, hfs⟩, by rw [h5 3 (by omega)]; exact ew, fun i hi => ?_, fun i hi => ?_, fun i j hi hj => ?_, fun i hi => ?_, fun c i hc hi => ?_, h4, hok, hcov, fun i hi => ?_⟩
  · rw [h1 i (by omega), h5 (4 + i) (by omega)]; exact hcols i hi
  · rw [h2 i (by omega), h5 (16 + i) (by omega)]; exact hnear i hi
  · rw [h2 i (by omega), h2 j (by omega)]; exact hsym i j hi hj
  · rw [h2 i (by omega)]; exact hirr i hi
  · have : c * 12 + i < 36 := by omega
    rw [h3 _ this, h5 _ (by omega)]; exact hgo c i hc hi
  · show b2 (64 + i) = _
    rw [h5 (64 + i) (by omega)]; exact hrm i hi
def zR9 (v : zSV) (b : zF) : Prop := ∃ N L go Ls, zRel v.1 v.2.1 v.2.2.1 v.2.2.2.1 v.2.2.2.2.1 v.2.2.2.2.2.1 v.2.2.2.2.2.2.1 v.2.2.2.2.2.2.2.1 v.2.2.2.2.2.2.2.2 b N L go Ls
theorem zR9_congr {v : zSV} {b b2 : zF} (h : zR9 v b) (hb : ∀ j, j < 76 → b2 j = b j) : zR9 v b2 := by
  obtain ⟨N, L, go, Ls, hr⟩ := h
  exact ⟨N, L, go, Ls, zRel_mono hr (fun _ _ => rfl) (fun _ _ => rfl) (fun _ _ => rfl) hr.2.2.2.2.2.2.2.2.2.2.2.1 hb⟩
def zHist (hnx hct : Int32) (rg : Nat → zSV) (deeds : Int32) (past : zF) : Prop := ∃ h d, h < 16 ∧ d ≤ 16 ∧ hnx = nI h ∧ hct = nI d ∧ deeds = nI d ∧ ∀ k, k < d → zR9 (rg ((h + 16 - d + k) % 16)) (fun j => past (76 * k + j))
def zBook (kn : Int32) (kits kcls : zF) (ent : Int32) (bits bcls : zF) : Prop := ∃ n, n ≤ 20 ∧ kn = nI n ∧ ent = nI n ∧ ∀ k, k < n → kits k = bits k ∧ kcls k = bcls k
def zImg (k d : Int32) (v : zSV) (kept : Int32) (img : zF) (off : Nat) : Prop := (k = 0 ∧ kept = 0) ∨ (k = 1 ∧ kept = 1 ∧ d = img (off + 76) ∧ (¬ d < 0) ∧ zR9 v (fun j => img (off + j)))
theorem copy9_ok {tn tl tfin twk : Int32} {tcols tnear tlds : zF} {uc : Int32} {uf b : zF} {N L : Nat} {go : Nat → Nat → Nat} {Ls : List Int32} (h : zRel tn tl tfin twk tcols tnear tlds uc uf b N L go Ls) (sn sl sfin swk : Int32) (scols snear slds : zF) (qc : Int32) (qf : zF) {b2 : zF} (hb : ∀ j, j < 76 → b2 j = b j) : ∃ a1 a2 a3 a4 a5 a6 a7 a8 a9, fX6_copyFrom sn sl sfin swk scols snear slds qc qf tn tl tfin twk tcols tnear tlds uc uf = some (a1, a2, a3, a4, a5, a6, a7, a8, a9) ∧ zRel a1 a2 a3 a4 a5 a6 a7 a8 a9 b2 N L go Ls := by
  obtain ⟨c, f, e, hr⟩ := copy_ok h.2.2.2.2.2.2.2.2.2.2.2.1 qc qf
  unfold fX6_copyFrom
  rw [e]
  refine ⟨_, _, _, _, _, _, _, _, _, rfl, zRel_mono h (fun i hi => ?_) (fun i hi => ?_) (fun i hi => ?_) hr hb⟩
  · rw [pk_cpy_in (Nat.zero_le _) (by omega)]; simp
  · rw [pk_cpy_in (Nat.zero_le _) (by omega)]; simp
  · rw [pk_cpy_in (Nat.zero_le _) (by omega)]; simp
theorem remember_ok {sn sl sfin swk : Int32} {scols snear slds : zF} {qc : Int32} {qf st : zF} {N L : Nat} {go : Nat → Nat → Nat} {Ls : List Int32} (h : zRel sn sl sfin swk scols snear slds qc qf st N L go Ls) {hnx hct deeds : Int32} {rg : Nat → zSV} {past : zF} (hh : zHist hnx hct rg deeds past) (sd ent : Int32) : ∃ hnx2 hct2 rg2 deeds2 past2, fX2_remember hnx hct sn sl sfin swk scols snear slds qc qf rg = some (hnx2, hct2, rg2) ∧ fX9_notes deeds sd ent st past = some (deeds2, past2) ∧ zHist hnx2 hct2 rg2 deeds2 past2 := by
  obtain ⟨hp, d, h1, h2, rfl, rfl, rfl, h3⟩ := hh
  obtain ⟨a1, a2, a3, a4, a5, a6, a7, a8, a9, e1, hr⟩ := copy9_ok h (rg hp).1 (rg hp).2.1 (rg hp).2.2.1 (rg hp).2.2.2.1 (rg hp).2.2.2.2.1 (rg hp).2.2.2.2.2.1 (rg hp).2.2.2.2.2.2.1 (rg hp).2.2.2.2.2.2.2.1 (rg hp).2.2.2.2.2.2.2.2 (b2 := st) (fun _ _ => rfl)
  have hrem : (nI hp + 1) - (nI hp + 1) / 16 * 16 = nI ((hp + 1) % 16) := by
    rw [nI_1]
    exact pk_rem (a := hp + 1) (d := 16) (by omega) (by omega) (by omega)
  have hX : fX2_remember (nI hp) (nI d) sn sl sfin swk scols snear slds qc qf rg = some (nI ((hp + 1) % 16), nI (min (d + 1) 16), va_up rg hp (a1, a2, a3, a4, a5, a6, a7, a8, a9)) := by
    unfold fX2_remember fX2_remember_0
    rw [zcl (by omega), e1, ogd_ok (by omega) (by omega)]
    simp only [ob9, ob11]
    rw [hrem]
    congr 3
    rw [nI_1, show (16 : Int32) = nI 16 from rfl]
    by_cases hd : d = 16
    · subst hd
      rw [if_pos (by rw [zlt (by omega) (by omega)]; omega)]
      rfl
    · rw [if_neg (by rw [zlt (by omega) (by omega)]; omega)]
      congr 1
      omega
  have key : ∀ (d0 : Nat) (past0 : zF), d0 < 16 → fX9_bring 76 1216 0 (76 * nI d0) 76 st past0 = some (fun j => if 76 * d0 ≤ j ∧ j < 76 * d0 + 76 then st (0 + (j - 76 * d0)) else past0 j) := by
    intro d0 past0 hd0
    have e : (76 : Int32) * nI d0 = nI (76 * d0) := pk_mul 76 d0
    rw [e]
    exact bring_ok (a := 0) (b := 76 * d0) (n := 76) (by omega) (by omega) (by omega) (by omega) (by omega) st past0
  by_cases hd : d = 16
  · subst hd
    refine ⟨_, _, _, nI 16, (fun j => if 76 * 15 ≤ j ∧ j < 76 * 15 + 76 then st (0 + (j - 76 * 15)) else (if 0 ≤ j ∧ j < 0 + 1140 then past (76 + (j - 0)) else past j)), hX, ?_, (hp + 1) % 16, 16, by omega, by omega, rfl, rfl, rfl, ?_⟩
    · unfold fX9_notes
      have e3 : fX9_bring_same 1216 76 0 1140 past = some (fun j => if 0 ≤ j ∧ j < 0 + 1140 then past (76 + (j - 0)) else past j) := bringS_ok (a := 76) (b := 0) (n := 1140) (by omega) (by omega) (by omega) (by omega) past
      rw [if_pos (show nI 16 = (16 : Int32) from rfl), e3]
      simp only [ob1, ob2]
      rw [show nI 16 - (1 : Int32) = nI 15 from rfl, key 15 _ (by omega)]
      rfl
    · intro k hk
      by_cases hk15 : k = 15
      · subst hk15
        have e4 : ((hp + 1) % 16 + 16 - 16 + 15) % 16 = hp := by omega
        rw [e4]
        simp only [va_up, if_true]
        refine zR9_congr (b := st) ⟨N, L, go, Ls, hr⟩ (fun j hj => ?_)
        rw [if_pos (by omega)]
        exact congrArg st (by omega)
      · have e4 : ((hp + 1) % 16 + 16 - 16 + k) % 16 ≠ hp := by omega
        have e5 : ((hp + 1) % 16 + 16 - 16 + k) % 16 = (hp + 16 - 16 + (k + 1)) % 16 := by omega
        simp only [va_up, if_neg e4]
        rw [e5]
        refine zR9_congr (h3 (k + 1) (by omega)) (fun j hj => ?_)
        rw [if_neg (by omega), if_pos (by omega)]
        congr 1
        omega
  · refine ⟨_, _, _, nI (d + 1), (fun j => if 76 * d ≤ j ∧ j < 76 * d + 76 then st (0 + (j - 76 * d)) else past j), hX, ?_, (hp + 1) % 16, d + 1, by omega, by omega, rfl, by rw [show min (d + 1) 16 = d + 1 by omega], rfl, ?_⟩
    · unfold fX9_notes
      have hne : ¬ nI d = (16 : Int32) := by
        rw [show (16 : Int32) = nI 16 from rfl, zeq (by omega) (by omega)]
        exact hd
      rw [if_neg hne]
      simp only [ob2]
      rw [key d _ (by omega)]
      simp only [ob1, nI_1]
    · intro k hk
      by_cases hkd : k = d
      · subst hkd
        have e4 : ((hp + 1) % 16 + 16 - (k + 1) + k) % 16 = hp := by omega
        rw [e4]
        simp only [va_up, if_true]
        refine zR9_congr (b := st) ⟨N, L, go, Ls, hr⟩ (fun j hj => ?_)
        rw [if_pos (by omega)]
        exact congrArg st (by omega)
      · have e4 : ((hp + 1) % 16 + 16 - (d + 1) + k) % 16 ≠ hp := by omega
        have e5 : ((hp + 1) % 16 + 16 - (d + 1) + k) % 16 = (hp + 16 - d + k) % 16 := by omega
        simp only [va_up, if_neg e4]
        rw [e5]
        refine zR9_congr (h3 k (by omega)) (fun j hj => ?_)
        rw [if_neg (by omega)]
