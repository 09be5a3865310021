/-! The model's no. -/
section MNO
variable {G : GG} {l : Launch} {d : Nat} {post : Option AVal → AS → Prop} {σ : AS} {kk nn : Nat} {N K : Nat}
def PN : Nat → Prop := fun f => f = 0 ∨ (19 ≤ f ∧ f ≤ 28 ∧ f ≠ 26) ∨ f = 48
def QO2 : Nat → Nat → Prop := fun c a => (c = 26 ∧ (a = 20 ∨ a = 22 ∨ a = 7)) ∨ (c = 21 ∧ a = 0)
/-- the state in which the model looks who can be where, behind a no of p -/
def noS (σ : AS) (p : Nat) : AS := sI (sA (sA (T0 σ) 26 7 p (-1)) 21 0 p 1) 13 48 0 0
theorem m_mendsD {asg : Nat → Option Nat} {can : Nat → Nat → Bool} {D L g had s : Nat} (hD : L ≤ D) (hN : N ≤ 40) (hK : K ≤ 6) (hg : g < K) (h1 : 1 ≤ L) (hL : L ≤ K) (hh : had + L ≤ 6) (hs : s < 64) (hS : St σ) (hC : CalM σ N K asg) (hM : MayM σ N K can)
    (h : ∀ σ' r, MZ False (fun _ => False) QM σ σ' → (∀ j, j < had → gA σ' 26 22 j = gA σ 26 22 j) → MdR N K asg can σ' g had L s r → post (some (xI (bI r))) σ') : AMet G l M_X12_mends D 0 0 [xR (some (13, 0)), xI (nI g), xI (nI had), xI (nI L), xI (nI s)] σ post := by
  obtain ⟨d, rfl⟩ : ∃ d, D = d + L := ⟨D - L, by omega⟩
  exact m_mends hN hK L g had s σ post hg h1 hL hh hs hS hC hM h
theorem m_no {asg : Nat → Option Nat} {can : Nat → Nat → Nat → Bool} {x : Int32} (hS : St σ) (hC : CalM σ N K asg) (h29 : gI σ 13 29 0 = nI K) (hR : ∀ p, p < N → CanR (noS σ p) N K (can p))
    (h0 : (∀ p, p < N → x = nI p → asg p = none) → post (some (xI (-1))) (T0 σ))
    (h1 : ∀ p g σ' row, p < N → x = nI p → asg p = some g → row = mendRow N K (updO asg p none) (can p) g → MZ True PN QO2 σ σ' → gI σ' 13 0 0 = 0 → (∀ q, q < N → gA σ' 26 7 q = rI (applyRow (updO asg p none) (some g) row q)) → (∀ q, q < N → ∀ a, applyRow (updO asg p none) (some g) row q = some a → a < K) → gA σ' 21 0 p = 1 → (∀ q, q ≠ p → gA σ' 21 0 q = gA σ 21 0 q) → gI σ' 13 48 0 = nI row.length → row.length ≤ 6 → (∀ i, i < row.length → gA σ' 26 22 i = nI (row.getD i 0)) → post (some (xI (nI row.length))) σ') : AMet G l M_X12_no (d + 35) 0 0 [xR (some (13, 0)), xI x] σ post := by
  obtain ⟨hc, hk', hK, hN, h1'⟩ := id hC
  refine AMet.of rfl (Nat.le_of_ble_eq_true rfl) (vc_X12_no (d := d + 34) (m_isPerson hN ((T0_f (by decide)).trans h1') (fun z => ⟨hS, fun _ => h0 (fun p hp e => absurd ⟨p, hp, e⟩ z), fun q => absurd rfl q⟩) (fun p hp e => ⟨hS, fun q => absurd q (by decide), fun _ => ?_⟩)))
  have vp : vp_in (nI p) 40 := nle40 hN hp
  have rn : rI (asg p) = -1 ↔ asg p = none := rI_n hK (fun a ha => hk' p hp a ha)
  have e7 : gA (sI σ 13 0 0 0) 26 7 p = rI (asg p) := hc p hp
  rw [e, nI_clamp (by omega), e7]
  refine ⟨vp, fun c => ⟨vp, vp, vp, ?_⟩, fun c => h0 (fun q hq eq => ?_)⟩
  · obtain ⟨g, hg⟩ : ∃ g, asg p = some g := by
      cases z : asg p with
      | none => exact absurd (rn.mpr z) c
      | some x => exact ⟨x, rfl⟩
    have hgK := hk' p hp g hg
    rw [nar1, hg]
    have Z0 : MZ True PN QO2 σ (noS σ p) := (((T0_z (Or.inl rfl)).setA (by decide) (Or.inl ⟨rfl, Or.inr (Or.inr rfl)⟩)).setA (by decide) (Or.inr ⟨rfl, rfl⟩)).set (Or.inr (Or.inr rfl))
    have one : ∀ {σ1 : AS}, MZ True PN QO2 σ σ1 → gI σ1 13 1 0 = nI N := fun Z => (Z.2.2.2.2.1 1 0 (fun q => by rcases q with q | q | q <;> omega)).trans h1'
    have ks : ∀ {σ1 : AS}, MZ True PN QO2 σ σ1 → gI σ1 13 29 0 = nI K := fun Z => (Z.2.2.2.2.1 29 0 (fun q => by rcases q with q | q | q <;> omega)).trans h29
    refine m_reckons (σ := noS σ p) (N := N) (K := K) (can := can p) (Z0.st hS) hN hK (one Z0) (ks Z0) (hR p hp) (fun σ1 Z1 M1 => ?_)
    have Z2 : MZ True PN QO2 σ σ1 := Z0.tr (Z1.mono id (fun f q => Or.inr (Or.inl ⟨q.1, q.2⟩)) (fun c a q => Or.inl ⟨q.1, Or.inl q.2⟩))
    have C1 : CalM σ1 N K (updO asg p none) := ⟨fun q hq => by
        rw [Z1.2.2.2.2.2 26 7 q (by decide) (fun z => by have := z.2; omega)]
        show gA (sA (sA (T0 σ) 26 7 p (-1)) 21 0 p 1) 26 7 q = _
        rw [gA_o (by omega)]
        unfold updO
        by_cases e : q = p
        · subst e; rw [gA_self, if_pos rfl]; rfl
        · rw [gA_o (fun z => e z.2.2), if_neg e]; exact hc q hq, fun q hq a ha => by
        unfold updO at ha
        by_cases e : q = p
        · rw [if_pos e] at ha; cases ha
        · rw [if_neg e] at ha; exact hk' q hq a ha, hK, hN, one Z2⟩
    have b0 : ∀ {σ' : AS}, (∀ q, gA σ' 21 0 q = gA σ1 21 0 q) → gA σ' 21 0 p = 1 ∧ ∀ q, q ≠ p → gA σ' 21 0 q = gA σ 21 0 q := by
      intro σ' hh
      have e1 : ∀ q, gA σ1 21 0 q = gA (noS σ p) 21 0 q := fun q => Z1.2.2.2.2.2 21 0 q (by decide) (fun z => by have := z.1; omega)
      refine ⟨by rw [hh, e1]; exact gA_self, fun q hq => ?_⟩
      rw [hh, e1]
      show gA (sA (sA (T0 σ) 26 7 p (-1)) 21 0 p 1) 21 0 q = _
      rw [gA_o (fun z => hq z.2.2), gA_o (by omega)]; rfl
    have t1 : gI σ1 13 0 0 = 0 := (Z1.2.2.2.2.1 0 0 (fun q => by have := q.1; omega)).trans (by
      show gI (sI (sA (sA (T0 σ) 26 7 p (-1)) 21 0 p 1) 13 48 0 0) 13 0 0 = 0
      rw [gI_o (by decide)]; exact T0_0 (σ := σ))
    -- the last loop
    have last : ∀ (row : List Nat), row = mendRow N K (updO asg p none) (can p) g → (∀ x, x ∈ row → x < N) → row.length ≤ 6 → ∀ σ2, MZ True PN QO2 σ σ2 → gI σ2 13 0 0 = 0 → CalM σ2 N K (updO asg p none) → (∀ q, gA σ2 21 0 q = gA σ1 21 0 q) → gI σ2 13 48 0 = nI row.length → (∀ i, i < row.length → gA σ2 26 22 i = nI (row.getD i 0)) → AW G l M_X12_no (d + 35) post σ2 0 0 101 [some (xR (some (13, 0))), none, none, some (xI (nI g)), some (xI 0), none] [] := by
      intro row er hrN hr6 σ2 ZZ tt CC bb mm ll
      have loop : ∀ (f k : Nat) (σ3 : AS) (asg1 : Nat → Option Nat) (to : Option Nat), row.length - k = f → k ≤ row.length → MZ True PN QO2 σ σ3 → gI σ3 13 0 0 = 0 → (∀ q, gA σ3 21 0 q = gA σ1 21 0 q) → gI σ3 13 48 0 = nI row.length → (∀ i, i < row.length → gA σ3 26 22 i = nI (row.getD i 0)) → CalM σ3 N K asg1 → (∀ a, to = some a → a < K) → applyRow asg1 to (row.drop k) = applyRow (updO asg p none) (some g) row → AW G l M_X12_no (d + 35) post σ3 0 0 101 [some (xR (some (13, 0))), none, none, some (xI (rI to)), some (xI (nI k)), none] [] := by
        intro f
        induction f with
        | zero =>
          intro k σ3 asg1 to hf hkr Z3 t3 b3 m3 l3 C3 hto ea
          have e : k = row.length := by omega
          subst e
          refine vc_X12_no_101 (d := d + 34) (Z3.st hS) ⟨fun _ => ?_, fun c => absurd (by rw [m3]; exact nI_le (Nat.le_refl _) (by omega)) c⟩
          rw [m3]
          rw [List.drop_length] at ea
          have ea : asg1 = applyRow (updO asg p none) (some g) row := ea
          obtain ⟨b1, b2⟩ := b0 b3
          rw [er] at ea hr6 m3 l3 ⊢
          refine h1 p g σ3 _ hp e hg rfl Z3 t3 (fun q hq => ?_) (fun q hq a ha => ?_) b1 b2 m3 hr6 l3
          · rw [← ea]; exact C3.1 q hq
          · rw [← ea] at ha; exact C3.2.1 q hq a ha
        | succ f ih =>
          intro k σ3 asg1 to hf hkr Z3 t3 b3 m3 l3 C3 hto ea
          have hkl : k < row.length := by omega
          have vk : vp_in (nI k) 40 := vp_in_nI (by omega) (by decide)
          obtain ⟨y, hy⟩ : ∃ y, row.getD k 0 = y := ⟨_, rfl⟩
          have hyN : y < N := by
            refine hrN y ?_
            rw [← hy, List.getD_eq_getElem?_getD, List.getElem?_eq_getElem hkl]
            exact List.getElem_mem hkl
          have e22 : gA σ3 26 22 k = nI y := by rw [l3 k hkl, hy]
          have vy : vp_in (nI y) 40 := nle40 hN hyN
          have ed : row.drop k = y :: row.drop (k + 1) := by
            rw [List.drop_eq_getElem_cons hkl]
            congr 1
            rw [← hy, List.getD_eq_getElem?_getD, List.getElem?_eq_getElem hkl]; rfl
          refine vc_X12_no_101 (d := d + 34) (Z3.st hS) ⟨fun c => absurd ((nI_leI (a := row.length) (b := k) (by omega) (by omega)).mp (by rw [m3] at c; exact c)) (by omega), fun _ => ⟨vk, ?_⟩⟩
          rw [nI_clamp (by omega), e22, nI_clamp (by omega), C3.1 y hyN, nI_1]
          refine ⟨vy, vk, vy, ?_⟩
          rw [ed] at ea
          refine ih (k + 1) _ (updO asg1 y to) (asg1 y) (by omega) (by omega) (Z3.setA (by decide) (Or.inl ⟨rfl, Or.inr (Or.inr rfl)⟩)) t3 (fun q => (gA_o (by omega)).trans (b3 q)) m3 (fun i hi => (gA_o (by omega)).trans (l3 i hi)) ⟨fun q hq => ?_, fun q hq a ha => ?_, hK, hN, C3.2.2.2.2⟩ (fun a ha => C3.2.1 y hyN a ha) ea
          · unfold updO
            by_cases e : q = y
            · subst e; rw [gA_self, if_pos rfl]
            · rw [gA_o (fun z => e z.2.2), if_neg e]; exact C3.1 q hq
          · unfold updO at ha
            by_cases e : q = y
            · rw [if_pos e] at ha; exact hto a ha
            · rw [if_neg e] at ha; exact C3.2.1 q hq a ha
      exact loop row.length 0 σ2 (updO asg p none) (some g) rfl (Nat.zero_le _) ZZ tt bb mm ll CC (fun a ha => by cases ha; exact hgK) rfl
    -- lengths one by one
    have len : ∀ (f n : Nat) (σ2 : AS), K - n = f → n ≤ K → MZ True PN QO2 σ σ2 → gI σ2 13 0 0 = 0 → CalM σ2 N K (updO asg p none) → MayM σ2 N K (can p) → (∀ q, gA σ2 21 0 q = gA σ1 21 0 q) → gI σ2 13 48 0 = 0 → (∀ v, dl N (updO asg p none) (can p) K g = some v → n < v) → AW G l M_X12_no (d + 35) post σ2 0 0 57 [some (xR (some (13, 0))), none, some (xI (nI g)), some (xI (nI (n + 1))), none, none] [] := by
      intro f
      induction f with
      | zero =>
        intro n σ2 hf hnK Z3 t3 C3 M3 b3 m3 nv
        have e : n = K := by omega
        subst e
        have dn : dl N (updO asg p none) (can p) n g = none := by
          cases z : dl N (updO asg p none) (can p) n g with
          | none => rfl
          | some v => exact absurd (nv v z) (by have := (dl_range _ _ _ z).2; omega)
        have er : mendRow N n (updO asg p none) (can p) g = [] := by unfold mendRow; rw [dn]
        refine vc_X12_no_57 (d := d + 34) ⟨fun _ => last [] er.symm (fun x hx => by cases hx) (Nat.zero_le _) σ2 Z3 t3 C3 b3 m3 (fun i hi => absurd hi (Nat.not_lt_zero i)), fun c => absurd (by rw [ks Z3]; exact nI_lt (Nat.lt_succ_self n) (by omega)) c⟩
      | succ f ih =>
        intro n σ2 hf hnK Z3 t3 C3 M3 b3 m3 nv
        have hn : n < K := by omega
        obtain ⟨s, hs64, es, bs⟩ := s_or 0 (by decide) g (by omega)
        have es' : (1 <<< (nI g &&& 31) : Int32) = nI s := by
          rw [← es]
          have : ∀ g, g < 6 → (1 <<< (nI g &&& 31) : Int32) = nI 0 ||| (1 <<< (nI g &&& 31)) := by decide +kernel
          exact this g (by omega)
        refine vc_X12_no_57 (d := d + 34) ⟨fun c => absurd c (by rw [ks Z3]; exact nI_nlt (by omega) (by omega)), fun _ => ⟨fun c => absurd m3 c, fun _ => ?_⟩⟩
        rw [es', show (0 : Int32) = nI 0 from rfl]
        refine m_mendsD (L := n + 1) (by omega) hN hK hgK (by omega) (by omega) (by omega) hs64 (Z3.st hS) C3 M3 (fun σ3 r Zm om R => ?_)
        have Z4 : MZ True PN QO2 σ σ3 := Z3.tr (Zm.mono (fun q => q.elim) (fun f q => q.elim) (fun c a q => Or.inl ⟨q.1, Or.inr (Or.inl q.2)⟩))
        have t4 : gI σ3 13 0 0 = 0 := (Zm.2.2.2.2.1 0 0 (fun q => q)).trans t3
        have m4 : gI σ3 13 48 0 = 0 := (Zm.2.2.2.2.1 48 0 (fun q => q)).trans m3
        have b4 : ∀ q, gA σ3 21 0 q = gA σ1 21 0 q := fun q => (Zm.2.2.2.2.2 21 0 q (by decide) (fun z => by have := z.1; omega)).trans (b3 q)
        have C4 : CalM σ3 N K (updO asg p none) := ⟨fun q hq => (Zm.2.2.2.2.2 26 7 q (by decide) (fun z => by have := z.2; omega)).trans (C3.1 q hq), C3.2.1, hK, hN, one Z4⟩
        have M4 : MayM σ3 N K (can p) := fun q hq => (Zm.2.2.2.2.2 26 20 q (by decide) (fun z => by have := z.2; omega)).trans (M3 q hq)
        have comp := fun (w : dl N (updO asg p none) (can p) K g = some (n + 1)) => R.2 w (fun y hy yb => by
          rcases (bs y (by omega)).mp yb with q | q
          · rw [Nat.zero_testBit] at q; cases q
          · subst q; exact ⟨n + 1, w, Nat.le_refl _⟩)
        refine ⟨fun c => ?_, fun c => ?_⟩
        · rw [nI_1]
          have rf : r = false := bI_eq.mp c
          refine ih (n + 1) σ3 (by omega) (by omega) Z4 t4 C4 M4 b4 m4 (fun v ev => ?_)
          have := nv v ev
          rcases Nat.lt_or_ge (n + 1) v with w | w
          · exact w
          · have ve : v = n + 1 := by omega
            subst ve
            have := (comp ev).1
            rw [rf] at this; cases this
        · have rt : r = true := bI_ne.mp c
          obtain ⟨v, hv, ev⟩ := R.1 rt
          have := nv v ev
          have ve : v = n + 1 := by omega
          subst ve
          have w := (comp ev).2
          have er : mendRow N K (updO asg p none) (can p) g = rowF N (updO asg p none) (can p) (dl N (updO asg p none) (can p) K) (n + 1) g := by unfold mendRow; rw [ev]
          have rl := rowF_len (n + 1) g ev
          have Z5 : MZ True PN QO2 σ (sI σ3 13 48 0 (nI (n + 1))) := Z4.set (Or.inr (Or.inr rfl))
          have stop : AW G l M_X12_no (d + 35) post (sI σ3 13 48 0 (nI (n + 1))) 0 0 101 [some (xR (some (13, 0))), none, none, some (xI (nI g)), some (xI 0), none] [] := by
            refine last _ rfl (by rw [er]; exact rl.2) (by rw [er, rl.1]; omega) _ Z5 (by rw [gI_o (by decide)]; exact t4) ⟨C4.1, C4.2.1, hK, hN, one Z5⟩ b4 (by rw [gI_self, er, rl.1]) (fun i hi => ?_)
            rw [er, rl.1] at hi
            have := w i hi
            rw [Nat.zero_add] at this
            rw [er]; exact this
          refine vc_X12_no_57 (d := d + 34) ⟨fun _ => stop, fun _ => ⟨fun _ => stop, fun c2 => absurd c2 (by rw [gI_self]; exact nI_ne0 (by omega) (by omega))⟩⟩
    have z := len K 0 σ1 rfl (Nat.zero_le _) Z2 t1 C1 M1 (fun _ => rfl) ((Z1.2.2.2.2.1 48 0 (fun q => by have := q.2; omega)).trans gI_self) (fun v ev => by have := (dl_range _ _ _ ev).1; omega)
    exact z
  · have := (nI_eq (by omega) (by omega)).mp (e.symm.trans eq)
    subst this
    exact rn.mp c
end MNO
