/-! More small methods of the model. -/
section MOPS2
variable {G : GG} {l : Launch} {d : Nat} {post : Option AVal → AS → Prop} {σ : AS} {kk nn : Nat} {N : Nat}
theorem m_quarters {m u : Int32} (h : post (some (xI (qtr m (!decide (u = 0))))) σ) : AMet G l M_X12_quarters d 0 0 [xI m, xI u] σ post := by
  refine AMet.of rfl (Nat.le_of_ble_eq_true rfl) (vc_X12_quarters ⟨fun c => ⟨fun z => ?_, fun z => ?_⟩, fun c => ?_⟩)
  · rw [qtr, if_pos c, decide_eq_true z, if_neg (by decide)] at h; exact h
  · rw [qtr, if_pos c, decide_eq_false z, if_pos (by decide)] at h; exact h
  · rw [qtr, if_neg c] at h; exact h
/-- the worth of term k of the model -/
def tWm (σ : AS) (k : Nat) (co se : Int32) : Int32 := tW (gA σ 26 24 k) (gA σ 26 25 k) (gA σ 26 26 k) (!decide (gA σ 21 3 k = 0)) co se
def sumM (σ : AS) (g : Nat) (co se : Int32) : Nat → Int32
  | 0 => 0
  | k + 1 => sumM σ g co se k + tWm σ (8 * g + k) co se
/-- agreement g of the model has K terms -/
def AgM (σ : AS) (g K : Nat) : Prop := g < 30 ∧ K ≤ 8 ∧ gA σ 26 23 g = nI K ∧ ∀ s, s < K → ∃ c, c ≤ 3 ∧ gA σ 26 24 (8 * g + s) = nI c
theorem m_worth {g K : Nat} {co se : Int32} (hS : St σ) (hA : AgM σ g K) (h : post (some (xI (sumM σ g co se K))) σ) : AMet G l M_X12_worth (d + 1) 0 0 [xR (some (13, 0)), xI (nI g), xI co, xI se] σ post := by
  obtain ⟨hg, hK, h23, hk⟩ := hA
  have hne : ¬ nI g = -1 := fun e => absurd (show nI g < 0 by rw [e]; decide) (nI_pos (by omega))
  have loop : ∀ (f k : Nat), K - k = f → k ≤ K → AW G l M_X12_worth (d + 1) post σ 0 0 9 [some (xR (some (13, 0))), some (xI (nI g)), some (xI co), some (xI se), some (xI (sumM σ g co se k)), some (xI (nI (8 * g + k))), none, none] [] := by
    intro f
    induction f with
    | zero =>
      intro k hf hk'
      have e : k = K := by omega
      subst e
      refine vc_X12_worth_9 (d := d) hS ⟨fun c => absurd c hne, fun _ => ⟨vp_in_nI hg (by decide), fun _ => h, fun c => absurd ?_ c⟩⟩
      rw [nI_clamp (by omega), h23, nI_8]
      exact nI_le (Nat.le_refl _) (by omega)
    | succ f ih =>
      intro k hf hk'
      obtain ⟨ty, hty, ety⟩ := hk k (by omega)
      have z := ih (k + 1) (by omega) (by omega)
      have vk : vp_in (nI (8 * g + k)) 240 := vp_in_nI (by omega) (by decide)
      rw [sumM, tWm, show 8 * g + (k + 1) = 8 * g + k + 1 from rfl] at z
      refine vc_X12_worth_9 (d := d) hS ⟨fun c => absurd c hne, fun _ => ⟨vp_in_nI hg (by decide), fun c => absurd ?_ (show ¬ 8 * g + K ≤ 8 * g + k by omega), fun _ => ?_⟩⟩
      · rw [nI_clamp (by omega), h23, nI_8] at c
        exact (nI_leI (by omega) (by omega)).mp c
      · rw [nI_clamp (by omega), nI_1]
        refine ⟨vk, vk, vk, fun c => ?_, fun c => ⟨vk, m_quarters ?_⟩, fun c => ⟨vk, m_quarters ?_⟩, fun c => ⟨vk, m_quarters ?_⟩⟩
        · rw [c, show tW 0 (gA σ 26 25 (8 * g + k)) (gA σ 26 26 (8 * g + k)) (!decide (gA σ 21 3 (8 * g + k) = 0)) co se = gA σ 26 26 (8 * g + k) from rfl] at z
          exact z
        · rw [c, show tW 1 (gA σ 26 25 (8 * g + k)) (gA σ 26 26 (8 * g + k)) (!decide (gA σ 21 3 (8 * g + k) = 0)) co se = qtr (se - co - gA σ 26 25 (8 * g + k)) (!decide (gA σ 21 3 (8 * g + k) = 0)) * gA σ 26 26 (8 * g + k) from rfl, Int32.mul_comm] at z
          exact z
        · rw [c, show tW 2 (gA σ 26 25 (8 * g + k)) (gA σ 26 26 (8 * g + k)) (!decide (gA σ 21 3 (8 * g + k) = 0)) co se = qtr (gA σ 26 25 (8 * g + k) - co) (!decide (gA σ 21 3 (8 * g + k) = 0)) * gA σ 26 26 (8 * g + k) from rfl, Int32.mul_comm] at z
          exact z
        · have e3 : gA σ 26 24 (8 * g + k) = 3 := by
            rw [ety] at c ⊢
            have q : ∀ ty, ty ≤ 3 → ((nI ty).toInt < 0 ∨ 2 < (nI ty).toInt) → nI ty = 3 := by decide +kernel
            exact q ty hty c
          rw [e3, show tW 3 (gA σ 26 25 (8 * g + k)) (gA σ 26 26 (8 * g + k)) (!decide (gA σ 21 3 (8 * g + k) = 0)) co se = qtr (se - gA σ 26 25 (8 * g + k)) (!decide (gA σ 21 3 (8 * g + k) = 0)) * gA σ 26 26 (8 * g + k) from rfl, Int32.mul_comm] at z
          exact z
  refine AMet.of rfl (Nat.le_of_ble_eq_true rfl) (vc_X12_worth (d := d) ?_)
  have z := loop K 0 rfl (Nat.zero_le _)
  have e8 : (8 : Int32) * nI g = nI (8 * g + 0) := nI_mul 8 g
  rw [e8]
  exact z
theorem m_worth0 {co se : Int32} (hS : St σ) (h : post (some (xI 0)) σ) : AMet G l M_X12_worth (d + 1) 0 0 [xR (some (13, 0)), xI (-1), xI co, xI se] σ post :=
  AMet.of rfl (Nat.le_of_ble_eq_true rfl) (vc_X12_worth (d := d) (vc_X12_worth_9 (d := d) hS ⟨fun _ => h, fun c => absurd rfl c⟩))
theorem shr_bits {x C D : Int32} {s : Nat} (hs : s ≤ 24) (hC : (C.toBitVec.smod 32).toNat = s) (hD : ((D.toUInt32 &&& Int32.toUInt32 31).toBitVec % 32).toNat = s) : (x >>> C).toInt8 = (((x.toUInt32 >>> (D.toUInt32 &&& Int32.toUInt32 31)).toInt32) &&& 255).toInt8 := by
  apply Int8.toBitVec_inj.mp
  apply BitVec.eq_of_getLsbD_eq
  intro i hi
  show ((x.toBitVec.sshiftRight (C.toBitVec.smod 32).toNat).signExtend 8).getLsbD i = (((x.toUInt32 >>> (D.toUInt32 &&& Int32.toUInt32 31)).toBitVec &&& 255#32).signExtend 8).getLsbD i
  rw [UInt32.toBitVec_shiftRight]
  show ((x.toBitVec.sshiftRight (C.toBitVec.smod 32).toNat).signExtend 8).getLsbD i = (((x.toUInt32.toBitVec >>> ((D.toUInt32 &&& Int32.toUInt32 31).toBitVec % 32).toNat) &&& 255#32).signExtend 8).getLsbD i
  rw [hC, hD, BitVec.getLsbD_signExtend, BitVec.getLsbD_signExtend, if_pos (show i < 32 by omega), if_pos (show i < 32 by omega), BitVec.getLsbD_and, BitVec.getLsbD_sshiftRight, BitVec.getLsbD_ushiftRight]
  have h255 : (255#32).getLsbD i = true := by
    have : ∀ i, i < 8 → (255#32).getLsbD i = true := by decide
    exact this i hi
  rw [h255]
  have e : x.toUInt32.toBitVec = x.toBitVec := rfl
  rw [e]
  simp [show ¬ 32 ≤ i by omega, show s + i < 32 by omega]
theorem sgb_byt {x : Int32} : ∀ k, k < 4 → vp_nar .byte ((x >>> ((24 - (8 * (nI k - nI k / 4 * 4))) &&& 31)).toInt8.toInt32) = sgb (byt x (nI (24 - 8 * k))) := by
  intro k hk
  have hc : ∀ k, k < 4 → (((24 - (8 * (nI k - nI k / 4 * 4))) &&& 31).toBitVec.smod 32).toNat = 24 - 8 * k := by decide +kernel
  have hd : ∀ k, k < 4 → (((nI (24 - 8 * k)).toUInt32 &&& Int32.toUInt32 31).toBitVec % 32).toNat = 24 - 8 * k := by decide +kernel
  have e := shr_bits (x := x) (show 24 - 8 * k ≤ 24 by omega) (hc k hk) (hd k hk)
  rw [vp_nar_byte, e]
  unfold sgb byt
  rw [Int8.toInt8_toInt32]
end MOPS2
