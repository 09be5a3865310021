/-! readOne and readAny by contract. -/
section ANY2
variable {G : GG} {l : Launch} {σ : AS}
def okI (o : Out) : Int32 := if o.1 = 0 then 1 else 0
theorem okI_1 {o : Out} (h : o.1 = 0) : okI o = 1 := if_pos h
theorem okI_0 {o : Out} (h : ¬ o.1 = 0) : okI o = 0 := if_neg h
theorem tE_gt {n i : Nat} {b : Nat → Int32} (hi : i ≤ n) (h : ¬ tK n b i = 0) : i < tE n b i := by
  have hs := tS_le (b := b) hi
  have hlt : tS n b i < n := by
    rcases Nat.lt_or_ge (tS n b i) n with h1 | h1
    · exact h1
    · have e : tS n b i = n := by omega
      exact absurd (by rw [tK, e, tk_end]) h
  unfold tE
  split
  · omega
  · rename_i h4
    obtain ⟨q, hq⟩ : ∃ q, n - tS n b i = q + 1 := ⟨n - tS n b i - 1, by omega⟩
    rw [hq, rnn, if_pos ⟨h4, rfl⟩]
    have := rnn_le (n := n) (b := b) (K := tK n b i) q (tS n b i + 1) (by omega) (by omega)
    omega
theorem isW_k {n i w : Nat} {b : Nat → Int32} (h : isW n b i w = true) : tK n b i = 2 := by
  by_cases c : tK n b i = 2
  · exact c
  · rw [isW, if_neg c] at h
    cases h
theorem isG_k {n i : Nat} {b : Nat → Int32} {x : Int32} (h : isG n b i x = true) : tK n b i = 4 := by
  by_cases c : tK n b i = 4
  · exact c
  · rw [isG, if_neg c] at h
    cases h
theorem isW_gt {n i w : Nat} {b : Nat → Int32} (hi : i ≤ n) (h : isW n b i w = true) : i < tE n b i := tE_gt hi (by rw [isW_k h]; decide)
theorem isG_gt {n i : Nat} {b : Nat → Int32} {x : Int32} (hi : i ≤ n) (h : isG n b i x = true) : i < tE n b i := tE_gt hi (by rw [isG_k h]; decide)
theorem mkH_k {n i : Nat} {b : Nat → Int32} (h : ¬ mkH n b i = -1) : tK n b i = 2 := by
  by_cases c : tK n b i = 2
  · exact c
  · have z : ∀ w, ¬ isW n b i w = true := fun w e => c (isW_k e)
    exact absurd (by unfold mkH; rw [if_neg (z 5), if_neg (z 6), if_neg (z 7), if_neg (z 8), if_neg (z 9), if_neg (z 10)]) h
theorem rmN_ge {n i : Nat} {b : Nat → Int32} {k : Int32} (hi : i ≤ n) (h : (rmN n b i k).1.1 = 0) : i ≤ (rmN n b i k).1.2 := by
  have hle := tE_le (b := b) hi
  have hs := tS_le (b := b) hi
  unfold rmN at h ⊢
  by_cases c1 : k = 0
  · rw [if_pos c1]; exact Nat.le_refl _
  · rw [if_neg c1] at h ⊢
    by_cases c2 : tK n b i = 3 ∧ tE n b i - tS n b i ≤ 5
    · rw [if_pos c2] at h ⊢
      by_cases c3 : tV n b i < 0 ∨ hiOf k < tV n b i
      · rw [if_pos c3] at h; exact absurd h i2n0
      · rw [if_neg c3]; show i ≤ tE n b i; omega
    · rw [if_neg c2] at h; exact absurd h i1n0
theorem rm_gt {n i : Nat} {b : Nat → Int32} (hi : i ≤ n) (h : (rm n b i).1.1 = 0) : i < (rm n b i).1.2 := by
  by_cases c0 : mkH n b i = -1
  · unfold rm at h; rw [if_pos c0] at h; exact absurd h i1n0
  · have h1 := tE_gt hi (b := b) (by rw [mkH_k c0]; decide)
    have hle := tE_le (b := b) hi
    have hle2 := tE_le (b := b) hle.2
    have hs2 := tS_le (b := b) hle.2
    unfold rm at h ⊢
    rw [if_neg c0] at h ⊢
    by_cases c1 : mkH n b i = 4 ∨ mkH n b i = 6
    · rw [if_pos c1] at h ⊢
      by_cases c2 : isG n b (tE n b i) 60 = true
      · rw [if_pos c2] at h ⊢
        have := rmN_ge hle2.2 h
        omega
      · rw [if_neg c2] at h ⊢
        by_cases c3 : isG n b (tE n b i) 62 = true
        · rw [if_pos c3] at h ⊢
          have := rmN_ge hle2.2 h
          omega
        · rw [if_neg c3] at h; exact absurd h i1n0
    · rw [if_neg c1] at h ⊢
      have := rmN_ge hle.2 h
      omega
/-- a state amid the reading: token j stands here, the steps s are put behind the m of the steps' row -/
def Mid (σ σ' : AS) (n : Nat) (b : Nat → Int32) (m : Nat) (bS : Nat → Int32) (j : Nat) (s : List Int32) : Prop := RF σ σ' ∧ St σ' ∧ RW σ' 0 n b ∧ Tok σ' n b j ∧ RW σ' 1 (m + s.length) (app bS m s) ∧ gI σ' 10 0 0 = gI σ 10 0 0 ∧ gI σ' 10 1 0 = gI σ 10 1 0
def Bad (σ σ' : AS) (n : Nat) (b : Nat → Int32) (o : Out) : Prop := RF σ σ' ∧ St σ' ∧ RW σ' 0 n b ∧ gI σ' 10 0 0 = o.1 ∧ gI σ' 10 1 0 = nI o.2
theorem Mid.start {n m i : Nat} {b bS : Nat → Int32} (hS : St σ) (hR : RW σ 0 n b) (hT : Tok σ n b i) (hR1 : RW σ 1 m bS) : Mid σ σ n b m bS i [] := ⟨RF.rf, hS, hR, hT, hR1.fits (fun i hi => (app_nil i hi).symm), rfl, rfl⟩
theorem Mid.adv {σ1 σ2 : AS} {n m i j : Nat} {b bS : Nat → Int32} {s : List Int32} (h : Mid σ σ1 n b m bS i s) (T : TF σ1 σ2) (k : Tok σ2 n b j) : Mid σ σ2 n b m bS j s := ⟨h.1.tr T.rfr, T.st h.2.1, T.rw h.2.2.1, k, T.rw h.2.2.2.2.1, T.2.2.2.2.1.trans h.2.2.2.2.2.1, T.2.2.2.2.2.trans h.2.2.2.2.2.2⟩
theorem Mid.add {σ1 σ2 : AS} {n m i : Nat} {b bS : Nat → Int32} {s : List Int32} {v : Int32} (h : Mid σ σ1 n b m bS i s) (hlt : m + s.length < 1000) (A : RAdd σ1 σ2 1 (m + s.length) v) : Mid σ σ2 n b m bS i (s ++ [v]) := by
  obtain ⟨h1, h2, h3, h4, h5, h6, h7⟩ := h
  have k := (A.1 10 (by decide)).2.1
  refine ⟨h1.tr A.rfr, A.st h2, A.other h2 (by decide) (by decide) (by decide) h3, ⟨(k 3 0).trans h4.1, (k 4 0).trans h4.2.1, (k 5 0).trans h4.2.2.1, (k 6 0).trans h4.2.2.2⟩, ?_, (k 0 0).trans h6, (k 1 0).trans h7⟩
  have e := A.self h2 (by decide) hlt h5
  rw [show m + (s ++ [v]).length = m + s.length + 1 by simp; omega]
  exact e.fits (fun i hi => app_snoc i hi)
theorem Mid.join {σ1 σ2 : AS} {n m i j : Nat} {b bS : Nat → Int32} {s s' : List Int32} (h : Mid σ σ1 n b m bS i s) (k : Mid σ1 σ2 n b (m + s.length) (app bS m s) j s') : Mid σ σ2 n b m bS j (s ++ s') := by
  obtain ⟨h1, h2, h3, h4, h5, h6, h7⟩ := h
  obtain ⟨k1, k2, k3, k4, k5, k6, k7⟩ := k
  refine ⟨h1.tr k1, k2, k3, k4, ?_, k6.trans h6, k7.trans h7⟩
  rw [show m + (s ++ s').length = m + s.length + s'.length by simp; omega]
  exact k5.fits (fun i hi => app_app i hi)
theorem Mid.bad {σ1 σ2 : AS} {n m i : Nat} {b bS : Nat → Int32} {s : List Int32} {o : Out} (h : Mid σ σ1 n b m bS i s) (k : Bad σ1 σ2 n b o) : Bad σ σ2 n b o := ⟨h.1.tr k.1, k.2⟩
theorem Mid.fail {σ1 : AS} {n m i : Nat} {b bS : Nat → Int32} {s : List Int32} (h : Mid σ σ1 n b m bS i s) (k : Int32) : Bad σ (FailS σ1 k) n b (k, tS n b i) := ⟨h.1.tr fail_rfr, fail_rfr.st h.2.1, fail_rfr.rw h.2.1 (by decide) (by decide) h.2.2.1, by unfold FailS; rw [gI_o (by decide), gI_self], by unfold FailS; rw [gI_self]; exact h.2.2.2.1.2.1⟩
/-- the state behind a part read from token i on, q words of and, or waiting ahead of it -/
def AQ (σ σ' : AS) (n : Nat) (b : Nat → Int32) (m i q : Nat) (bS : Nat → Int32) (o : RR) : Prop := (o.1.1 = 0 ∧ Mid σ σ' n b m bS o.1.2 o.2 ∧ i < o.1.2 ∧ o.1.2 ≤ n ∧ o.2.length + i ≤ o.1.2 + q) ∨ (¬ o.1.1 = 0 ∧ Bad σ σ' n b o.1)
def bN : Bool → Nat
  | true => 1
  | false => 0
def One (G : GG) (l : Launch) (n : Nat) (b : Nat → Int32) (f : Nat) : Prop := ∀ (dep i m : Nat) (bS : Nat → Int32) (x y : Bool) (σ : AS) (D : Nat) (post : Option AVal → AS → Prop), dep ≤ 8 → 2 * (n - i) + 1 ≤ f → m < i → i ≤ n → n ≤ 1000 → St σ → RW σ 0 n b → Tok σ n b i → RW σ 1 m bS → 23 - 2 * dep ≤ D →
  (∀ σ', AQ σ σ' n b m i 0 bS (rd n b f true dep i x y) → post (some (xI (okI (rd n b f true dep i x y).1))) σ') → AMet G l M_X2_readOne D 0 0 [xR (some (3, 0)), xI (nI dep)] σ post
def Any (G : GG) (l : Launch) (n : Nat) (b : Nat → Int32) (f : Nat) : Prop := ∀ (dep i m : Nat) (bS : Nat → Int32) (oW aW : Bool) (v : Nat) (σ : AS) (D : Nat) (post : Option AVal → AS → Prop), dep ≤ 8 → 2 * (n - i) + 2 ≤ f → m + bN oW + bN aW < i → i ≤ n → n ≤ 1000 → v < i → St σ → RW σ 0 n b → Tok σ n b i → RW σ 1 m bS → 24 - 2 * dep ≤ D →
  (∀ σ', AQ σ σ' n b m i (bN oW + bN aW) bS (rd n b f false dep i oW aW) → post (some (xI (okI (rd n b f false dep i oW aW).1))) σ') → AW G l M_X2_readAny D post σ 0 0 7 [some (xR (some (3, 0))), some (xI (nI dep)), some (xI (bI oW)), some (xI (bI aW)), some (xI (nI v))] []
theorem Mid.pre {σ1 σ2 : AS} {n m j : Nat} {b bS : Nat → Int32} {s : List Int32} (T : TF σ σ1) (h : Mid σ1 σ2 n b m bS j s) : Mid σ σ2 n b m bS j s := ⟨T.rfr.tr h.1, h.2.1, h.2.2.1, h.2.2.2.1, h.2.2.2.2.1, h.2.2.2.2.2.1.trans T.2.2.2.2.1, h.2.2.2.2.2.2.trans T.2.2.2.2.2⟩
theorem Bad.pre {σ1 σ2 : AS} {n : Nat} {b : Nat → Int32} {o : Out} (T : RF σ σ1) (h : Bad σ1 σ2 n b o) : Bad σ σ2 n b o := ⟨T.tr h.1, h.2⟩
theorem len1 {s : List Int32} {v : Int32} : (s ++ [v]).length = s.length + 1 := by simp
theorem Mid.mark {σ2 : AS} {n m : Nat} {b bS : Nat → Int32} {o : Out × Int32} (h : After σ σ2 n b m bS o) (h0 : o.1.1 = 0) : Mid σ σ2 n b m bS o.1.2 [o.2] ∧ o.1.2 ≤ n := by
  obtain ⟨h1, h2, h3, ⟨-, h4, h5, h6, h7, h8⟩ | ⟨h4, -⟩⟩ := h
  · refine ⟨⟨h1, h2, h3, h4, h6.fits (fun i hi => ?_), h7, h8⟩, h5⟩
    unfold snoc app
    by_cases e : i = m
    · rw [if_pos e, if_neg (by omega), e, Nat.sub_self]; rfl
    · rw [if_neg e, if_pos (by omega)]
  · exact absurd h0 h4
theorem any_met {n f : Nat} {b : Nat → Int32} (ih : Any G l n b f) (dep i m : Nat) (bS : Nat → Int32) (σ : AS) (D : Nat) (post : Option AVal → AS → Prop) (hdep : dep ≤ 8) (hf : 2 * (n - i) + 2 ≤ f) (hm : m < i) (hi : i ≤ n) (hn : n ≤ 1000) (hS : St σ) (hR : RW σ 0 n b) (hT : Tok σ n b i) (hR1 : RW σ 1 m bS) (hD : 24 - 2 * dep ≤ D)
    (h : ∀ σ', AQ σ σ' n b m i 0 bS (rd n b f false dep i false false) → post (some (xI (okI (rd n b f false dep i false false).1))) σ') : AMet G l M_X2_readAny D 0 0 [xR (some (3, 0)), xI (nI dep)] σ post := by
  obtain ⟨d, rfl⟩ : ∃ d, D = d + 1 := ⟨D - 1, by omega⟩
  refine AMet.of rfl (Nat.le_of_ble_eq_true rfl) (vc_X2_readAny (d := d) ?_)
  have k := ih dep i m bS false false 0 σ (d + 1) post hdep hf (by show m + 0 + 0 < i; omega) hi hn (by omega) hS hR hT hR1 hD h
  rw [nI_0] at k
  exact k
theorem one_succ {n f : Nat} {b : Nat → Int32} (ih1 : One G l n b f) (ih2 : Any G l n b f) : One G l n b (f + 1) := by
  intro dep i m bS x y σ D post hdep hf hm hi hn hS hR hT hR1 hD h
  obtain ⟨d, rfl⟩ : ∃ d, D = d + 7 := ⟨D - 7, by omega⟩
  have hle := tE_le (b := b) hi
  have M0 := Mid.start hS hR hT hR1
  have hh1 : ∀ σ' (o : Out) (s : List Int32), rd n b (f + 1) true dep i x y = (o, s) → o.1 = 0 → Mid σ σ' n b m bS o.2 s → i < o.2 → o.2 ≤ n → s.length + i ≤ o.2 → post (some (xI 1)) σ' := by
    intro σ' o s e z k1 k2 k3 k4
    have k := h σ'
    rw [e] at k
    have := k (Or.inl ⟨z, k1, k2, k3, k4⟩)
    rw [okI_1 z] at this
    exact this
  have hh0 : ∀ σ' (o : Out) (s : List Int32), rd n b (f + 1) true dep i x y = (o, s) → ¬ o.1 = 0 → Bad σ σ' n b o → post (some (xI 0)) σ' := by
    intro σ' o s e z k1
    have k := h σ'
    rw [e] at k
    have := k (Or.inr ⟨z, k1⟩)
    rw [okI_0 z] at this
    exact this
  clear h
  refine AMet.of rfl (Nat.le_of_ble_eq_true rfl) (vc_X2_readOne (d := d + 6) hS (c_isWord hS hR hi hT ⟨hS, fun c => ?_, fun c => ?_⟩))
  · have hw := bI_ne.mp c
    have hgt := isW_gt hi hw
    refine ⟨fun c8 => ?_, fun c8 => ?_⟩
    · have h8 : dep < 8 := (nI_ltI (b := 8) (by omega) (by decide)).mp c8
      refine c_advance hS hR hle.2 hT.2.2.1 (fun σ3 T3 k3 => ⟨fun _ => ?_, fun c' => absurd c' c⟩)
      have M3 := M0.adv T3 k3
      rw [nI_1]
      refine ih1 (dep + 1) (tE n b i) m bS false false σ3 (d + 6) _ (by omega) (by omega) (by omega) hle.2 hn M3.2.1 M3.2.2.1 k3 (T3.rw hR1) (by omega) (fun σ4 A => ?_)
      rcases A with ⟨e0, A, a1, a2, a3⟩ | ⟨e0, A⟩
      · have e : rd n b (f + 1) true dep i x y = ((rd n b f true (dep + 1) (tE n b i) false false).1, (rd n b f true (dep + 1) (tE n b i) false false).2 ++ [800000]) := by
          rw [rd, if_pos hw, if_pos h8, if_pos e0]
        refine ⟨A.2.1, fun _ => c_radd A.2.1 (by decide) A.2.2.2.2.1 (by show _ < 1000; omega) (fun σ6 A6 => hh1 _ _ _ e e0 ((A.pre T3).add (by omega) A6) (by omega) a2 (by rw [len1]; omega)), fun c => ?_⟩
        rw [okI_1 e0] at c
        exact absurd c (by decide)
      · have e : rd n b (f + 1) true dep i x y = ((rd n b f true (dep + 1) (tE n b i) false false).1, []) := by
          rw [rd, if_pos hw, if_pos h8, if_neg e0]
        exact ⟨A.2.1, fun c => absurd (okI_0 e0) c, fun _ => hh0 _ _ _ e e0 (A.pre T3.rfr)⟩
    · have h8 : ¬ dep < 8 := fun q => c8 ((nI_ltI (b := 8) (by omega) (by decide)).mpr q)
      have e : rd n b (f + 1) true dep i x y = ((2, tS n b i), []) := by
        rw [rd, if_pos hw, if_neg h8]
      exact c_fail ⟨by decide, hh0 _ _ _ e i2n0 (M0.fail 2)⟩
  · have hw : ¬ isW n b i 4 = true := fun q => bI_ne.mpr q c
    refine c_isSign hS hR hi hT ⟨hS, fun c2 => ⟨fun c8 => ?_, fun c8 => ?_⟩, fun c2 => ?_⟩
    · have hg := bI_ne.mp c2
      have hgt := isG_gt hi hg
      have h8 : dep < 8 := (nI_ltI (b := 8) (by omega) (by decide)).mp c8
      refine c_advance hS hR hle.2 hT.2.2.1 (fun σ3 T3 k3 => ⟨fun c' => absurd c c', fun _ => ?_⟩)
      have M3 := M0.adv T3 k3
      rw [nI_1]
      refine any_met ih2 (dep + 1) (tE n b i) m bS σ3 (d + 6) _ (by omega) (by omega) (by omega) hle.2 hn M3.2.1 M3.2.2.1 k3 (T3.rw hR1) (by omega) (fun σ4 A => ?_)
      rcases A with ⟨e0, A, a1, a2, a3⟩ | ⟨e0, A⟩
      · have hle4 := tE_le (b := b) a2
        refine ⟨A.2.1, fun c => ?_, fun _ => c_passSign A.2.1 A.2.2.1 a2 A.2.2.2.1 (fun g => ?_) (fun g σ9 T9 k9 => ?_)⟩
        · rw [okI_1 e0] at c
          exact absurd c (by decide)
        · have e : rd n b (f + 1) true dep i x y = ((1, tS n b (rd n b f false (dep + 1) (tE n b i) false false).1.2), []) := by
            rw [rd, if_neg hw, if_pos hg, if_pos h8, if_pos e0, if_neg (by rw [g]; decide)]
          exact ⟨fun _ => hh0 _ _ _ e i1n0 ((A.pre T3).fail 1), fun c => absurd rfl c⟩
        · have e : rd n b (f + 1) true dep i x y = ((0, tE n b (rd n b f false (dep + 1) (tE n b i) false false).1.2), (rd n b f false (dep + 1) (tE n b i) false false).2) := by
            rw [rd, if_neg hw, if_pos hg, if_pos h8, if_pos e0, if_pos g]
          have hg4 := isG_gt a2 g
          exact ⟨fun c => absurd c (by decide), fun _ => hh1 _ _ _ e rfl ((A.pre T3).adv T9 k9) (by show i < tE n b (rd n b f false (dep + 1) (tE n b i) false false).1.2; omega) hle4.2 (by show _ + i ≤ tE n b (rd n b f false (dep + 1) (tE n b i) false false).1.2; omega)⟩
      · have e : rd n b (f + 1) true dep i x y = ((rd n b f false (dep + 1) (tE n b i) false false).1, []) := by
          rw [rd, if_neg hw, if_pos hg, if_pos h8, if_neg e0]
        exact ⟨A.2.1, fun _ => hh0 _ _ _ e e0 (A.pre T3.rfr), fun c => absurd (okI_0 e0) c⟩
    · have hg := bI_ne.mp c2
      have h8 : ¬ dep < 8 := fun q => c8 ((nI_ltI (b := 8) (by omega) (by decide)).mpr q)
      have e : rd n b (f + 1) true dep i x y = ((2, tS n b i), []) := by
        rw [rd, if_neg hw, if_pos hg, if_neg h8]
      exact c_fail ⟨by decide, hh0 _ _ _ e i2n0 (M0.fail 2)⟩
    · have hg : ¬ isG n b i 40 = true := fun q => bI_ne.mpr q c2
      refine c_readMark hS hR hi hT hR1 (by omega) (fun z σ' A => ⟨by decide, ?_⟩) (fun z σ' A => ⟨by decide, ?_⟩)
      · have e : rd n b (f + 1) true dep i x y = ((rm n b i).1, [(rm n b i).2]) := by
          rw [rd, if_neg hw, if_neg hg, if_pos z]
        obtain ⟨k1, k2⟩ := Mid.mark A z
        have k3 := rm_gt hi z
        exact hh1 _ _ _ e z k1 k3 k2 (by simp only [List.length_singleton]; omega)
      · have e : rd n b (f + 1) true dep i x y = ((rm n b i).1, []) := by
          rw [rd, if_neg hw, if_neg hg, if_neg z]
        refine hh0 _ _ _ e z ?_
        obtain ⟨h1, h2, h3, ⟨h4, -⟩ | ⟨-, h5, h6⟩⟩ := A
        · exact absurd h4 z
        · exact ⟨h1, h2, h3, h5, h6⟩
theorem any_succ {n f : Nat} {b : Nat → Int32} (ih1 : One G l n b f) (ih2 : Any G l n b f) : Any G l n b (f + 1) := by
  intro dep i m bS oW aW v σ D post hdep hf hm hi hn hv hS hR hT hR1 hD h
  obtain ⟨d, rfl⟩ : ∃ d, D = d + 8 := ⟨D - 8, by omega⟩
  have hh1 : ∀ σ' (o : Out) (s : List Int32), rd n b (f + 1) false dep i oW aW = (o, s) → o.1 = 0 → Mid σ σ' n b m bS o.2 s → i < o.2 → o.2 ≤ n → s.length + i ≤ o.2 + (bN oW + bN aW) → post (some (xI 1)) σ' := by
    intro σ' o s e z k1 k2 k3 k4
    have k := h σ'
    rw [e] at k
    have := k (Or.inl ⟨z, k1, k2, k3, k4⟩)
    rw [okI_1 z] at this
    exact this
  have hh0 : ∀ σ' (o : Out) (s : List Int32), rd n b (f + 1) false dep i oW aW = (o, s) → ¬ o.1 = 0 → Bad σ σ' n b o → post (some (xI 0)) σ' := by
    intro σ' o s e z k1
    have k := h σ'
    rw [e] at k
    have := k (Or.inr ⟨z, k1⟩)
    rw [okI_0 z] at this
    exact this
  clear h
  refine vc_X2_readAny_7 (d := d + 7) hS ⟨fun c => absurd c (nI_ge (show v < 1000 by omega) (by decide)), fun _ => ?_⟩
  refine ih1 dep i m bS false false σ (d + 7) _ hdep (by omega) (by omega) hi hn hS hR hT hR1 (by omega) (fun σ3 A => ?_)
  rcases A with ⟨e0, A, a1, a2, a3⟩ | ⟨e0, A⟩
  rotate_left
  · have e : rd n b (f + 1) false dep i oW aW = ((rd n b f true dep i false false).1, []) := by
      rw [rd, if_neg e0]
    exact ⟨A.2.1, fun c => absurd (okI_0 e0) c, fun _ => hh0 _ _ _ e e0 A⟩
  have hle := tE_le (b := b) a2
  have hjv : v + 1 < tE n b (rd n b f true dep i false false).1.2 ∨ True := Or.inr trivial
  -- the end: what comes behind
  have tail65 : ∀ (σ5 : AS) (s : List Int32) (w : Bool), s = (rd n b f true dep i false false).2 ++ (if aW = true then [900000] else []) ++ (if w = true then [] else if oW = true then [1000000] else []) → w = isW n b (rd n b f true dep i false false).1.2 11 → Mid σ σ5 n b m bS (rd n b f true dep i false false).1.2 s → AW G l M_X2_readAny (d + 8) post σ5 0 0 65 [some (xR (some (3, 0))), some (xI (nI dep)), some (xI (bI oW)), some (xI (bI w)), some (xI (nI v))] [] := by
    intro σ5 s w hs hw M5
    have hlen : s.length + i ≤ (rd n b f true dep i false false).1.2 + bN aW + (if w = true then 0 else bN oW) := by
      rw [hs]
      cases aW <;> cases oW <;> cases w <;> simp [bN] <;> omega
    refine vc_X2_readAny_65 (d := d + 7) M5.2.1 ⟨fun c => ?_, fun c => ⟨fun _ => ?_, fun c' => absurd c' c⟩⟩
    · have w0 : w = false := bI_eq.mp c
      subst w0
      have wN : ¬ isW n b (rd n b f true dep i false false).1.2 11 = true := by rw [← hw]; decide
      simp only [Bool.false_eq_true, if_false] at hs hlen
      refine c_isWord M5.2.1 M5.2.2.1 a2 M5.2.2.2.1 ⟨M5.2.1, fun c' => absurd c c', fun _ => ⟨fun c2 => ?_, fun c2 => ?_⟩⟩
      · have w2 := bI_ne.mp c2
        have hgt := isW_gt a2 w2
        refine c_advance M5.2.1 M5.2.2.1 hle.2 M5.2.2.2.1.2.2.1 (fun σ7 T7 k7 => ?_)
        have M7 := M5.adv T7 k7
        rw [nI_1, w2]
        refine ih2 dep (tE n b (rd n b f true dep i false false).1.2) (m + s.length) (app bS m s) true false (v + 1) σ7 (d + 8) post hdep (by omega) (by show m + s.length + 1 + 0 < _; omega) hle.2 hn (by omega) M7.2.1 M7.2.2.1 k7 M7.2.2.2.2.1 hD (fun σ' A' => ?_)
        have e : rd n b (f + 1) false dep i oW aW = ((rd n b f false dep (tE n b (rd n b f true dep i false false).1.2) true false).1, s ++ (rd n b f false dep (tE n b (rd n b f true dep i false false).1.2) true false).2) := by
          rw [rd, if_pos e0, if_neg wN, if_pos w2, hs]
        rcases A' with ⟨z, A', q1, q2, q3⟩ | ⟨z, A'⟩
        · rw [okI_1 z]
          refine hh1 _ _ _ e z (M7.join A') (by omega) q2 ?_
          rw [List.length_append]
          have : bN true + bN false = 1 := rfl
          have : bN oW ≤ 1 := by cases oW <;> decide
          omega
        · rw [okI_0 z]
          exact hh0 _ _ _ e z (M7.bad A')
      · have w2 : ¬ isW n b (rd n b f true dep i false false).1.2 12 = true := fun q => bI_ne.mpr q c2
        have e : rd n b (f + 1) false dep i oW aW = ((rd n b f true dep i false false).1, s) := by
          rw [rd, if_pos e0, if_neg wN, if_neg w2, hs]
        exact hh1 _ _ _ e e0 M5 a1 a2 (by omega)
    · have w1 : w = true := bI_ne.mp c
      subst w1
      simp only [if_true] at hs hlen
      rw [List.append_nil] at hs
      have hgt := isW_gt a2 hw.symm
      refine c_advance M5.2.1 M5.2.2.1 hle.2 M5.2.2.2.1.2.2.1 (fun σ7 T7 k7 => ?_)
      have M7 := M5.adv T7 k7
      rw [nI_1]
      refine ih2 dep (tE n b (rd n b f true dep i false false).1.2) (m + s.length) (app bS m s) oW true (v + 1) σ7 (d + 8) post hdep (by omega) (by show m + s.length + bN oW + 1 < _; omega) hle.2 hn (by omega) M7.2.1 M7.2.2.1 k7 M7.2.2.2.2.1 hD (fun σ' A' => ?_)
      have e : rd n b (f + 1) false dep i oW aW = ((rd n b f false dep (tE n b (rd n b f true dep i false false).1.2) oW true).1, s ++ (rd n b f false dep (tE n b (rd n b f true dep i false false).1.2) oW true).2) := by
        rw [rd, if_pos e0, if_pos hw.symm, hs]
      rcases A' with ⟨z, A', q1, q2, q3⟩ | ⟨z, A'⟩
      · rw [okI_1 z]
        refine hh1 _ _ _ e z (M7.join A') (by omega) q2 ?_
        rw [List.length_append]
        have : bN true = 1 := rfl
        omega
      · rw [okI_0 z]
        exact hh0 _ _ _ e z (M7.bad A')
  have tail38 : ∀ (σ5 : AS) (s : List Int32), s = (rd n b f true dep i false false).2 ++ (if aW = true then [900000] else []) → Mid σ σ5 n b m bS (rd n b f true dep i false false).1.2 s → AW G l M_X2_readAny (d + 8) post σ5 0 0 38 [some (xR (some (3, 0))), some (xI (nI dep)), some (xI (bI oW)), none, some (xI (nI v))] [] := by
    intro σ5 s hs M5
    have hlen : s.length + i ≤ (rd n b f true dep i false false).1.2 + bN aW := by
      rw [hs]
      cases aW <;> simp [bN] <;> omega
    refine vc_X2_readAny_38 (d := d + 7) M5.2.1 (c_isWord M5.2.1 M5.2.2.1 a2 M5.2.2.2.1 ⟨M5.2.1, fun c => ?_, fun c => ⟨fun c2 => ?_, fun c2 => ?_⟩⟩)
    · have w1 := bI_ne.mp c
      refine tail65 σ5 s _ ?_ rfl M5
      rw [hs]; simp [w1]
    · have w0 := bI_eq.mp c
      refine tail65 σ5 s _ ?_ rfl M5
      rw [hs]; simp [w0, bI_eq.mp c2]
    · have w0 := bI_eq.mp c
      have o1 := bI_ne.mp c2
      have : bN oW = 1 := by rw [o1]; rfl
      refine c_radd M5.2.1 (by decide) M5.2.2.2.2.1 (by show _ < 1000; omega) (fun σ8 A8 => ?_)
      refine tail65 σ8 (s ++ [1000000]) _ ?_ rfl (M5.add (by omega) A8)
      rw [hs]; simp [w0, o1]
  refine ⟨A.2.1, fun _ => ⟨fun c => ?_, fun c => ?_⟩, fun c => ?_⟩
  · refine tail38 σ3 _ ?_ A
    rw [if_neg (by rw [bI_eq.mp c]; decide), List.append_nil]
  · have q1 := bI_ne.mp c
    have : bN aW = 1 := by rw [q1]; rfl
    refine c_radd A.2.1 (by decide) A.2.2.2.2.1 (by show _ < 1000; omega) (fun σ5 A5 => ?_)
    refine tail38 σ5 _ ?_ (A.add (by omega) A5)
    rw [if_pos q1]
  · rw [okI_1 e0] at c
    exact absurd c (by decide)
theorem one_any (n : Nat) (b : Nat → Int32) : ∀ f, One G l n b f ∧ Any G l n b f
  | 0 => ⟨fun dep i m bS x y σ D post hdep hf => absurd hf (by omega), fun dep i m bS x y v σ D post hdep hf => absurd hf (by omega)⟩
  | f + 1 => ⟨one_succ (one_any n b f).1 (one_any n b f).2, any_succ (one_any n b f).1 (one_any n b f).2⟩
/-- E from token i on -/
def rdE (n : Nat) (b : Nat → Int32) (i : Nat) : RR := rd n b (2 * n + 2) false 0 i false false
theorem c_readAny {n i : Nat} {b bS : Nat → Int32} {d : Nat} {post : Option AVal → AS → Prop} (hS : St σ) (hR : RW σ 0 n b) (h0 : 0 < i) (hi : i ≤ n) (hn : n ≤ 1000) (hT : Tok σ n b i) (hR1 : RW σ 1 0 bS) (h : ∀ σ', AQ σ σ' n b 0 i 0 bS (rdE n b i) → post (some (xI (okI (rdE n b i).1))) σ') : AMet G l M_X2_readAny (d + 24) 0 0 [xR (some (3, 0)), xI 0] σ post := by
  have k := any_met (G := G) (l := l) (one_any n b (2 * n + 2)).2 0 i 0 bS σ (d + 24) post (by decide) (by omega) h0 hi hn hS hR hT hR1 (by omega) h
  rw [nI_0] at k
  exact k
end ANY2
