/-! The model mends. -/
section MMEND
variable {G : GG} {l : Launch} {d : Nat} {post : Option AVal → AS → Prop} {σ : AS} {kk nn : Nat} {N K : Nat}
theorem dl_up {asg : Nat → Option Nat} {can : Nat → Nat → Bool} {a x L : Nat} : ∀ M, L ≤ M → dl N asg can L a = some x → dl N asg can M a = some x := by
  intro M
  induction M with
  | zero =>
    intro h k
    have : L = 0 := by omega
    subst this; exact k
  | succ M ih =>
    intro h k
    by_cases e : L = M + 1
    · subst e; exact k
    · exact dl_keep (ih (by omega) k)
/-- one who may go and leaves x, of which a row of length e is known: a row of at most e + 1 -/
theorem dl_lead {asg : Nat → Option Nat} {can : Nat → Nat → Bool} {g e p : Nat} (hp : p < N) (he : e < K) (hg : asg p ≠ some g) (hc : can p g = true) (hl : leadB asg (dl N asg can K) (e + 1) p = true) : ∃ v, v ≤ e + 1 ∧ dl N asg can K g = some v := by
  have hr : rowP asg can (dl N asg can e) g (e + 1) p = true := by
    have k : rowP asg can (dl N asg can K) g (e + 1) p = true := by unfold rowP; rw [hl, hc, decide_eq_true hg]; rfl
    rw [← k]
    exact rowP_congr (fun x => (dl_fin K (by omega)).symm)
  cases c : dl N asg can (e + 1) g with
  | some v =>
    exact ⟨v, (dl_range _ _ _ c).2, dl_up K (by omega) c⟩
  | none =>
    exfalso
    rw [dl_succ] at c
    cases c2 : dl N asg can e g with
    | some y => rw [c2] at c; cases c
    | none =>
      rw [c2] at c
      have c : (if (leastP (rowP asg can (dl N asg can e) g (e + 1)) N).isSome = true then some (e + 1) else none) = none := c
      cases z : leastP (rowP asg can (dl N asg can e) g (e + 1)) N with
      | some q => rw [z] at c; cases c
      | none => rw [leastP_no z p hp] at hr; cases hr
theorem rowF_len {asg : Nat → Option Nat} {can : Nat → Nat → Bool} : ∀ L g, dl N asg can K g = some L → (rowF N asg can (dl N asg can K) L g).length = L ∧ ∀ x, x ∈ rowF N asg can (dl N asg can K) L g → x < N
  | 0, g, h => absurd (dl_range _ _ _ h).1 (by omega)
  | L + 1, g, h => by
    obtain ⟨p, hp⟩ := dl_row h
    obtain ⟨p1, p2, p3⟩ := leastP_out N hp
    obtain ⟨ld, -, -⟩ := rowP_lead p2
    rw [rowF, hp]
    dsimp only
    cases c : asg p with
    | none =>
      unfold leadB at ld
      rw [c] at ld
      have := of_decide_eq_true ld
      dsimp only
      refine ⟨by simp; omega, fun x hx => ?_⟩
      simp at hx; omega
    | some x =>
      unfold leadB at ld
      rw [c] at ld
      have e := of_decide_eq_true ld
      have ih := rowF_len L x e
      dsimp only
      refine ⟨by simp; omega, fun y hy => ?_⟩
      rcases List.mem_cons.mp hy with q | q
      · omega
      · exact ih.2 y q
theorem s_or : ∀ s, s < 64 → ∀ a, a < 6 → ∃ t, t < 64 ∧ (nI s ||| (1 <<< (nI a &&& 31))) = nI t ∧ ∀ x, x < 6 → (t.testBit x = true ↔ (s.testBit x = true ∨ x = a)) := by
  intro s hs a ha
  have h : ∀ s, s < 64 → ∀ a, a < 6 → (nI s ||| (1 <<< (nI a &&& 31))) = nI (s ||| 2 ^ a) ∧ (s ||| 2 ^ a) < 64 := by decide +kernel
  have h2 : ∀ s, s < 64 → ∀ a, a < 6 → ∀ x, x < 6 → ((s ||| 2 ^ a).testBit x = true ↔ (s.testBit x = true ∨ x = a)) := by decide +kernel
  exact ⟨s ||| 2 ^ a, (h s hs a ha).2, (h s hs a ha).1, h2 s hs a ha⟩
theorem bit01 {x y : Int32} : ((x >>> (y &&& 31)) &&& 1) = 0 ∨ ((x >>> (y &&& 31)) &&& 1) = 1 := by
  generalize x >>> (y &&& 31) = z
  have h : ∀ i, (z &&& 1).toBitVec.getLsbD i = (z.toBitVec.getLsbD i && decide (i = 0)) := by
    intro i
    rw [Int32.toBitVec_and, BitVec.getLsbD_and]
    by_cases e : i = 0
    · subst e; rfl
    · have : (1 : Int32).toBitVec.getLsbD i = false := by
        show (1#32).getLsbD i = false
        rw [BitVec.getLsbD_one]; simp [e]
      rw [this, decide_eq_false e]
  cases c : z.toBitVec.getLsbD 0
  · refine Or.inl (Int32.toBitVec_inj.mp (BitVec.eq_of_getLsbD_eq (fun i hi => ?_)))
    rw [h i]
    by_cases e : i = 0
    · subst e; rw [c]; rfl
    · rw [decide_eq_false e, Bool.and_false]
      show false = (0#32).getLsbD i
      simp
  · refine Or.inr (Int32.toBitVec_inj.mp (BitVec.eq_of_getLsbD_eq (fun i hi => ?_)))
    rw [h i]
    by_cases e : i = 0
    · subst e; rw [c]; rfl
    · rw [decide_eq_false e, Bool.and_false]
      show false = (1#32).getLsbD i
      rw [BitVec.getLsbD_one]; simp [e]
/-- what mends finds -/
def MdR (N K : Nat) (asg : Nat → Option Nat) (can : Nat → Nat → Bool) (σ' : AS) (g had L s : Nat) (r : Bool) : Prop := (r = true → ∃ v, v ≤ L ∧ dl N asg can K g = some v) ∧ (dl N asg can K g = some L → (∀ x, x < K → s.testBit x = true → ∃ v, dl N asg can K x = some v ∧ L ≤ v) → r = true ∧ ∀ i, i < L → gA σ' 26 22 (had + i) = nI ((rowF N asg can (dl N asg can K) L g).getD i 0))
def QM : Nat → Nat → Prop := fun c a => c = 26 ∧ a = 22
theorem m_mends {asg : Nat → Option Nat} {can : Nat → Nat → Bool} (hN : N ≤ 40) (hK : K ≤ 6) : ∀ (L : Nat) (g had s : Nat) (σ : AS) (post : Option AVal → AS → Prop), g < K → 1 ≤ L → L ≤ K → had + L ≤ 6 → s < 64 → St σ → CalM σ N K asg → MayM σ N K can →
    (∀ σ' r, MZ False (fun _ => False) QM σ σ' → (∀ j, j < had → gA σ' 26 22 j = gA σ 26 22 j) → MdR N K asg can σ' g had L s r → post (some (xI (bI r))) σ') → AMet G l M_X12_mends (d + L) 0 0 [xR (some (13, 0)), xI (nI g), xI (nI had), xI (nI L), xI (nI s)] σ post := by
  intro L
  induction L with
  | zero => intro g had s σ post _ h; omega
  | succ L ihL =>
    intro g had s σ post hg _ hLK hhad hs hS hC hM h
    have calk : ∀ {σ1 : AS}, MZ False (fun _ => False) QM σ σ1 → CalM σ1 N K asg := fun Z => ⟨fun p hp => (Z.2.2.2.2.2 26 7 p (by decide) (fun q => by have := q.2; omega)).trans (hC.1 p hp), hC.2.1, hC.2.2.1, hC.2.2.2.1, (Z.2.2.2.2.1 1 0 (fun q => q)).trans hC.2.2.2.2⟩
    have mayk : ∀ {σ1 : AS}, MZ False (fun _ => False) QM σ σ1 → MayM σ1 N K can := fun Z p hp => (Z.2.2.2.2.2 26 20 p (by decide) (fun q => by have := q.2; omega)).trans (hM p hp)
    -- behind p looked at in vain
    have loop : ∀ (f p : Nat) (σ1 : AS), N - p = f → p ≤ N → MZ False (fun _ => False) QM σ σ1 → (∀ j, j < had → gA σ1 26 22 j = gA σ 26 22 j) → (dl N asg can K g = some (L + 1) → (∀ x, x < K → s.testBit x = true → ∃ v, dl N asg can K x = some v ∧ L + 1 ≤ v) → ∀ q, q < p → rowP asg can (dl N asg can K) g (L + 1) q = false) → AW G l M_X12_mends (d + (L + 1)) post σ1 0 0 3 [some (xR (some (13, 0))), some (xI (nI g)), some (xI (nI had)), some (xI (nI (L + 1))), some (xI (nI s)), some (xI (nI p)), none] [] := by
      intro f
      induction f with
      | zero =>
        intro p σ1 hf hp Z o B
        have e : p = N := by omega
        subst e
        refine vc_X12_mends_3 (d := d + L) (Z.st hS) ⟨fun _ => h σ1 false Z o ⟨fun q => (by cases q), fun q1 q2 => ?_⟩, fun c => absurd (by rw [(calk Z).2.2.2.2]; exact nI_le (Nat.le_refl _) (by omega)) c⟩
        obtain ⟨x, hx⟩ := dl_row q1
        obtain ⟨x1, x2, x3⟩ := leastP_out p hx
        rw [B q1 q2 x x1] at x2; cases x2
      | succ f ih =>
        intro p σ1 hf hp Z o B
        have hpN : p < N := by omega
        have vp : vp_in (nI p) 40 := vp_in_nI (by omega) (by decide)
        have C1 := calk Z
        have M1 := mayk Z
        have skip : (rowP asg can (dl N asg can K) g (L + 1) p = false ∨ ¬ (dl N asg can K g = some (L + 1) ∧ (∀ x, x < K → s.testBit x = true → ∃ v, dl N asg can K x = some v ∧ L + 1 ≤ v))) → ∀ σ2, MZ False (fun _ => False) QM σ σ2 → (∀ j, j < had → gA σ2 26 22 j = gA σ 26 22 j) → AW G l M_X12_mends (d + (L + 1)) post σ2 0 0 3 [some (xR (some (13, 0))), some (xI (nI g)), some (xI (nI had)), some (xI (nI (L + 1))), some (xI (nI s)), some (xI (nI p + 1)), none] [] := by
          intro hh σ2 Z2 o2
          rw [nI_1]
          refine ih (p + 1) σ2 (by omega) (by omega) Z2 o2 (fun q1 q2 q hq => ?_)
          by_cases e : q = p
          · subst e
            rcases hh with hh | hh
            · exact hh
            · exact absurd ⟨q1, q2⟩ hh
          · exact B q1 q2 q (by omega)
        have rg : rI (asg p) = nI g ↔ asg p = some g := rI_a hK (fun a ha => hC.2.1 p hpN a ha) hg
        have rn : rI (asg p) = -1 ↔ asg p = none := rI_n hK (fun a ha => hC.2.1 p hpN a ha)
        have bit := may_bit M1 hK hpN (show g < 6 by omega)
        have l1 : (nI (L + 1) = 1) ↔ L = 0 := by
          have := nI_eq (a := L + 1) (b := 1) (by omega) (by decide)
          exact ⟨fun q => by have := this.mp q; omega, fun q => by subst q; rfl⟩
        refine vc_X12_mends_3 (d := d + L) (Z.st hS) ⟨fun c => absurd ((nI_leI (a := N) (b := p) (by omega) (by omega)).mp (by rw [C1.2.2.2.2] at c; exact c)) (by omega), fun _ => ⟨vp, ?_⟩⟩
        rw [nI_clamp (by omega), C1.1 p hpN]
        refine ⟨fun c => skip (Or.inl ?_) σ1 Z o, fun c => ⟨vp, fun cb => ⟨vp, fun cn => ⟨fun cl => ⟨vp, fun cc => ?_, fun cc => skip ?_ σ1 Z o⟩, fun cl => skip (Or.inl ?_) σ1 Z o⟩, fun cn => ⟨fun cl => skip (Or.inl ?_) σ1 Z o, fun cl => ?_⟩⟩, fun cb => skip (Or.inl ?_) σ1 Z o⟩⟩
        · unfold rowP; rw [decide_eq_false (fun q => q (rg.mp c))]; simp
        · -- leaves another ask
          obtain ⟨x, hx⟩ : ∃ x, asg p = some x := by
            cases z : asg p with
            | none => exact absurd (rn.mpr z) cn
            | some x => exact ⟨x, rfl⟩
          have hxK := hC.2.1 p hpN x hx
          have ex : rI (asg p) = nI x := by rw [hx]; rfl
          have hL0 : L ≠ 0 := fun e => cl (l1.mpr e)
          have can' : can p g = true := by
            have := (bit.mp (by
              rcases bit01 (x := gA σ1 26 20 p) (y := nI g) with z | z
              · exact absurd z cb
              · exact z)).2
            exact this
          have ne : asg p ≠ some g := fun q => c (rg.mpr q)
          refine vc_X12_mends_97 (d := d + L) (Z.st hS) ⟨vp_in_nI (by omega) (by decide), fun q => absurd rfl q, fun _ => ⟨vp, vp, ?_⟩⟩
          have Z2 : MZ False (fun _ => False) QM σ (sA σ1 26 22 had (nI p)) := Z.setA (by decide) ⟨rfl, rfl⟩
          have e7 : gA (sA σ1 26 22 had (nI p)) 26 7 p = nI x := (gA_o (by omega)).trans ((C1.1 p hpN).trans ex)
          obtain ⟨t, ht, et, bt⟩ := s_or s hs x (by omega)
          rw [nI_clamp (by omega), nI_clamp (by omega), e7, nI_1, nI_pred, et]
          refine ihL x (had + 1) t _ _ hxK (by omega) (by omega) (by omega) ht (Z2.st hS) (calk Z2) (mayk Z2) (fun σ3 r Z3 o3 R3 => ?_)
          have Z4 := Z2.tr Z3
          have o4 : ∀ j, j < had → gA σ3 26 22 j = gA σ 26 22 j := fun j hj => (o3 j (by omega)).trans ((gA_o (by omega)).trans (o j hj))
          refine ⟨fun q => skip ?_ σ3 Z4 o4, fun q => ?_⟩
          · have rf : r = false := bI_eq.mp q
            by_cases hh : dl N asg can K g = some (L + 1) ∧ (∀ x, x < K → s.testBit x = true → ∃ v, dl N asg can K x = some v ∧ L + 1 ≤ v)
            · refine Or.inl ?_
              cases z : rowP asg can (dl N asg can K) g (L + 1) p
              · rfl
              · exfalso
                have ld := (rowP_lead z).1
                unfold leadB at ld
                rw [hx] at ld
                have e := of_decide_eq_true ld
                have := (R3.2 e (fun y hy yb => by
                  rcases (bt y (by omega)).mp yb with w | w
                  · obtain ⟨v, v1, v2⟩ := hh.2 y hy w
                    exact ⟨v, v1, by omega⟩
                  · subst w; exact ⟨L, e, Nat.le_refl _⟩)).1
                rw [rf] at this; cases this
            · exact Or.inr hh
          · have rt : r = true := bI_ne.mp q
            obtain ⟨v, hv, ev⟩ := R3.1 rt
            have v1 := (dl_range _ _ _ ev).1
            have res : ∃ u, u ≤ v + 1 ∧ dl N asg can K g = some u := dl_lead hpN (by omega) ne can' (by unfold leadB; rw [hx]; exact decide_eq_true (by rw [ev]; rfl))
            refine h σ3 true Z4 o4 ⟨fun _ => ?_, fun q1 q2 => ⟨rfl, fun i hi => ?_⟩⟩
            · obtain ⟨u, hu, eu⟩ := res
              exact ⟨u, by omega, eu⟩
            · obtain ⟨u, hu, eu⟩ := res
              have euL : u = L + 1 := by rw [q1] at eu; exact (Option.some.inj eu).symm
              have evL : v = L := by omega
              subst evL
              have rp : rowP asg can (dl N asg can K) g (v + 1) p = true := by
                unfold rowP leadB
                rw [can', decide_eq_true ne, hx]
                simp [ev]
              have lst : leastP (rowP asg can (dl N asg can K) g (v + 1)) N = some p := leastP_some N hpN rp (B q1 q2)
              have er : rowF N asg can (dl N asg can K) (v + 1) g = p :: rowF N asg can (dl N asg can K) v x := by
                rw [rowF, lst]; dsimp only; rw [hx]
              rw [er]
              cases i with
              | zero =>
                rw [Nat.add_zero, o3 had (by omega), gA_self]; rfl
              | succ i =>
                have := (R3.2 ev (fun y hy yb => by
                  rcases (bt y (by omega)).mp yb with w | w
                  · obtain ⟨v', v1', v2'⟩ := q2 y hy w
                    exact ⟨v', v1', by omega⟩
                  · subst w; exact ⟨v, ev, Nat.le_refl _⟩)).2 i (by omega)
                rw [show had + (i + 1) = had + 1 + i by omega, this]
                rfl
        · -- its ask is closed
          obtain ⟨x, hx⟩ : ∃ x, asg p = some x := by
            cases z : asg p with
            | none => exact absurd (rn.mpr z) cn
            | some x => exact ⟨x, rfl⟩
          have hxK := hC.2.1 p hpN x hx
          rw [hx] at cc
          have xb := (bit_at s hs x (by omega)).mp cc
          by_cases hh : dl N asg can K g = some (L + 1) ∧ (∀ x, x < K → s.testBit x = true → ∃ v, dl N asg can K x = some v ∧ L + 1 ≤ v)
          · refine Or.inl ?_
            obtain ⟨v, ev, hv⟩ := hh.2 x hxK xb
            unfold rowP leadB
            rw [hx]
            have : decide (dl N asg can K x = some (L + 1 - 1)) = false := decide_eq_false (fun q => by rw [ev] at q; have := Option.some.inj q; omega)
            dsimp only
            rw [this]; rfl
          · exact Or.inr hh
        · obtain ⟨x, hx⟩ : ∃ x, asg p = some x := by
            cases z : asg p with
            | none => exact absurd (rn.mpr z) cn
            | some x => exact ⟨x, rfl⟩
          have hL0 := l1.mp cl
          unfold rowP leadB
          rw [hx]
          have : decide (dl N asg can K x = some (L + 1 - 1)) = false := decide_eq_false (fun q => by have := (dl_range _ _ _ q).1; omega)
          dsimp only
          rw [this]; rfl
        · have hn := rn.mp cn
          unfold rowP leadB
          rw [hn]
          dsimp only
          rw [decide_eq_false (fun q => cl (l1.mpr (by omega)))]; rfl
        · -- from home
          have hn := rn.mp cn
          have hL0 := l1.mp cl
          subst hL0
          have can' : can p g = true := (bit.mp (by
              rcases bit01 (x := gA σ1 26 20 p) (y := nI g) with z | z
              · exact absurd z cb
              · exact z)).2
          have ne : asg p ≠ some g := fun q => c (rg.mpr q)
          have Z2 : MZ False (fun _ => False) QM σ (sA σ1 26 22 had (nI p)) := Z.setA (by decide) ⟨rfl, rfl⟩
          refine vc_X12_mends_97 (d := d + 0) (Z.st hS) ⟨vp_in_nI (by omega) (by decide), fun _ => ?_, fun q => absurd q (by decide)⟩
          rw [nI_clamp (by omega)]
          refine h _ true Z2 (fun j hj => (gA_o (by omega)).trans (o j hj)) ⟨fun _ => ?_, fun q1 q2 => ⟨rfl, fun i hi => ?_⟩⟩
          · obtain ⟨v, hv, ev⟩ := dl_lead (K := K) (e := 0) hpN (by omega) ne can' (by unfold leadB; rw [hn]; rfl)
            exact ⟨v, hv, ev⟩
          · have rp : rowP asg can (dl N asg can K) g (0 + 1) p = true := by
              unfold rowP leadB; rw [can', decide_eq_true ne, hn]; rfl
            have lst : leastP (rowP asg can (dl N asg can K) g (0 + 1)) N = some p := leastP_some N hpN rp (B q1 q2)
            have er : rowF N asg can (dl N asg can K) (0 + 1) g = [p] := by
              rw [rowF, lst]; dsimp only; rw [hn]
            have i0 : i = 0 := by omega
            subst i0
            rw [er, Nat.add_zero, gA_self]; rfl
        · have can' : can p g = false := by
            cases z : can p g
            · rfl
            · rw [bit.mpr ⟨hg, z⟩] at cb; exact absurd cb (by decide)
          unfold rowP; rw [can']; simp
    refine AMet.of rfl (Nat.le_of_ble_eq_true rfl) (vc_X12_mends (d := d + L) ?_)
    have z := loop N 0 σ rfl (Nat.zero_le _) MZ.rf (fun _ _ => rfl) (fun _ _ q hq => absurd hq (Nat.not_lt_zero q))
    rw [nI_0] at z
    exact z
end MMEND
