/-! The model dresses those who come. -/
section MDRESS
variable {G : GG} {l : Launch} {d : Nat} {post : Option AVal → AS → Prop} {σ : AS} {kk nn : Nat} {N K : Nat}
theorem m_nextComing {A : Nat → Bool} {asg : Nat → Option Nat} {come : Nat → Int32} (hS : St σ) (hC : CalM σ N K asg) (hA : ∀ p, p < N → gA σ 21 4 p = bI (A p)) (ht : ∀ p, p < N → asg p ≠ none → gA σ 26 34 p = come p)
    (h0 : (∀ p, p < N → asg p ≠ none → A p = true) → post (some (xI (-1))) σ)
    (h1 : ∀ p, p < N → asg p ≠ none → A p = false → (∀ q, q < N → asg q ≠ none → A q = false → come p < come q ∨ (come p = come q ∧ p ≤ q)) → post (some (xI (nI p))) σ) : AMet G l M_X12_nextComing d 0 0 [xR (some (13, 0))] σ post := by
  obtain ⟨hc, hk', hK, hN, h1'⟩ := id hC
  have loop : ∀ (f k : Nat) (v : Int32), N - k = f → k ≤ N → ((v = -1 ∧ ∀ q, q < k → asg q ≠ none → A q = true) ∨ (∃ p, p < k ∧ v = nI p ∧ asg p ≠ none ∧ A p = false ∧ ∀ q, q < k → asg q ≠ none → A q = false → come p < come q ∨ (come p = come q ∧ p ≤ q))) → AW G l M_X12_nextComing d post σ 0 0 4 [some (xR (some (13, 0))), some (xI v), some (xI (nI k))] [] := by
    intro f
    induction f with
    | zero =>
      intro k v hf hk I
      have e : k = N := by omega
      subst e
      refine vc_X12_nextComing_4 hS ⟨fun _ => ?_, fun c => absurd (by rw [h1']; exact nI_le (Nat.le_refl _) (by omega)) c⟩
      rcases I with ⟨e, a⟩ | ⟨p, hp, ev, cp, a, m⟩
      · rw [e]; exact h0 a
      · rw [ev]; exact h1 p hp cp a m
    | succ f ih =>
      intro k v hf hk I
      have hkN : k < N := by omega
      have vk : vp_in (nI k) 40 := vp_in_nI (by omega) (by decide)
      have rn : rI (asg k) = -1 ↔ asg k = none := rI_n hK (fun a ha => hk' k hkN a ha)
      refine vc_X12_nextComing_4 hS ⟨fun c => absurd ((nI_leI (a := N) (b := k) (by omega) (by omega)).mp (by rw [h1'] at c; exact c)) (by omega), fun _ => ⟨vk, ?_⟩⟩
      rw [nI_clamp (by omega), hc k hkN, hA k hkN, nI_1]
      have keep : (asg k ≠ none → A k = true) → AW G l M_X12_nextComing d post σ 0 0 4 [some (xR (some (13, 0))), some (xI v), some (xI (nI (k + 1)))] [] := by
        intro at'
        refine ih (k + 1) v (by omega) (by omega) ?_
        rcases I with ⟨e, a⟩ | ⟨p, hp, ev, cp, a, m⟩
        · refine Or.inl ⟨e, fun q hq => ?_⟩
          by_cases w : q = k
          · rw [w]; exact at'
          · exact a q (by omega)
        · refine Or.inr ⟨p, by omega, ev, cp, a, fun q hq y z => ?_⟩
          by_cases w : q = k
          · rw [w] at y z; rw [at' y] at z; cases z
          · exact m q (by omega) y z
      refine ⟨fun c => keep (fun q => absurd (rn.mp c) q), fun c => ⟨vk, fun c2 => keep (fun _ => bI_ne.mp c2), fun c2 => ⟨fun c3 => ih (k + 1) _ (by omega) (by omega) ?_, fun c3 => ?_⟩⟩⟩
      · have cn : asg k ≠ none := fun q => c (rn.mpr q)
        have af := bI_eq.mp c2
        rcases I with ⟨e, a⟩ | ⟨p, hp, ev, cp, a, m⟩
        · refine Or.inr ⟨k, by omega, rfl, cn, af, fun q hq y z => ?_⟩
          by_cases w : q = k
          · rw [w]; exact Or.inr ⟨rfl, Nat.le_refl _⟩
          · rw [a q (by omega) y] at z; cases z
        · rw [ev] at c3
          exact absurd (show nI p < 0 by rw [c3]; decide) (nI_pos (by omega))
      · have cn : asg k ≠ none := fun q => c (rn.mpr q)
        have af := bI_eq.mp c2
        rcases I with ⟨e, a⟩ | ⟨p, hp, ev, cp, a, m⟩
        · exact absurd e c3
        · rw [ev, nI_clamp (by omega), ht p (by omega) cp, ht k hkN cn]
          refine ⟨vk, vp_in_nI (by omega) (by decide), fun c4 => ih (k + 1) _ (by omega) (by omega) (Or.inr ⟨p, by omega, rfl, cp, a, fun q hq y z => ?_⟩), fun c4 => ih (k + 1) _ (by omega) (by omega) (Or.inr ⟨k, by omega, rfl, cn, af, fun q hq y z => ?_⟩)⟩
          · by_cases w : q = k
            · rw [w]
              by_cases e : come p = come k
              · exact Or.inr ⟨e, by omega⟩
              · rcases Int32.lt_or_lt_of_ne e with x | x
                · exact Or.inl x
                · exact absurd c4 (Int32.not_le.mpr x)
            · exact m q (by omega) y z
          · have c5 := Int32.not_le.mp c4
            by_cases w : q = k
            · rw [w]; exact Or.inr ⟨rfl, Nat.le_refl _⟩
            · rcases m q (by omega) y z with x | x
              · exact Or.inl (Int32.lt_trans c5 x)
              · rw [← x.1]; exact Or.inl c5
  refine AMet.of rfl (Nat.le_of_ble_eq_true rfl) (vc_X12_nextComing ?_)
  have z := loop N 0 (-1) rfl (Nat.zero_le _) (Or.inl ⟨rfl, fun q hq => absurd hq (Nat.not_lt_zero q)⟩)
  rw [nI_0] at z
  exact z
/-- the first j of the order are dressed -/
def dB (ord : Nat → Nat) : Nat → Nat → Bool
  | 0, _ => false
  | j + 1, p => dB ord j p || decide (ord j = p)
theorem dB_iff {ord : Nat → Nat} {p : Nat} : ∀ j, dB ord j p = true ↔ ∃ i, i < j ∧ ord i = p
  | 0 => ⟨fun q => (by cases q), fun ⟨i, hi, _⟩ => absurd hi (Nat.not_lt_zero i)⟩
  | j + 1 => by
    rw [dB, Bool.or_eq_true_iff, dB_iff j, decide_eq_true_iff]
    constructor
    · rintro (⟨i, hi, e⟩ | e)
      · exact ⟨i, by omega, e⟩
      · exact ⟨j, by omega, e⟩
    · rintro ⟨i, hi, e⟩
      by_cases w : i = j
      · subst w; exact Or.inr e
      · exact Or.inl ⟨i, by omega, e⟩
def QD : Nat → Nat → Prop := fun c a => (c = 26 ∧ (a = 33 ∨ a = 35)) ∨ (c = 21 ∧ a = 4)
theorem m_dresses {dr m : Nat} {asg : Nat → Option Nat} {come slow : Nat → Int32} {ord : Nat → Nat} (h1d : 1 ≤ dr) (h5d : dr ≤ 5) (hS : St σ) (hC : CalM σ N K asg) (ht : ∀ p, p < N → asg p ≠ none → gA σ 26 34 p = come p) (hs : ∀ p, p < N → gA σ 26 4 p = slow p) (hO : OrdR asg come N m ord)
    (h : ∀ σ', MZ False (fun _ => False) QD σ σ' → (∀ i, i < m → gA σ' 26 35 (ord i) = tSj dr (fun j => come (ord j)) (fun j => slow (ord j)) i) → post none σ') : AMet G l M_X12_dresses (d + 1) 0 0 [xR (some (13, 0)), xI (nI dr)] σ post := by
  obtain ⟨hc, hk', hK, hN, h1'⟩ := id hC
  have ck : ∀ {σ1 : AS}, MZ False (fun _ => False) QD σ σ1 → CalM σ1 N K asg := fun Z => ⟨fun q hq => (Z.2.2.2.2.2 26 7 q (by decide) (fun z => by rcases z with z | z <;> omega)).trans (hc q hq), hk', hK, hN, (Z.2.2.2.2.1 1 0 (fun q => q)).trans h1'⟩
  have tk : ∀ {σ1 : AS}, MZ False (fun _ => False) QD σ σ1 → ∀ p, p < N → asg p ≠ none → gA σ1 26 34 p = come p := fun Z p hp cp => (Z.2.2.2.2.2 26 34 p (by decide) (fun z => by rcases z with z | z <;> omega)).trans (ht p hp cp)
  have sk : ∀ {σ1 : AS}, MZ False (fun _ => False) QD σ σ1 → ∀ p, p < N → gA σ1 26 4 p = slow p := fun Z p hp => (Z.2.2.2.2.2 26 4 p (by decide) (fun z => by rcases z with z | z <;> omega)).trans (hs p hp)
  have qd : ∀ {σ1 : AS} {c a i : Nat} {v : Int32}, MZ False (fun _ => False) QD σ σ1 → QD c a → MZ False (fun _ => False) QD σ (sA σ1 c a i v) := fun Z q => Z.setA (by rcases q with z | z <;> omega) q
  -- the next one, j being dressed
  have next : ∀ (j : Nat) (σ1 : AS) (P : Option AVal → AS → Prop), j ≤ m → MZ False (fun _ => False) QD σ σ1 → (∀ p, p < N → gA σ1 21 4 p = bI (dB ord j p)) → (j = m → P (some (xI (-1))) σ1) → (j < m → P (some (xI (nI (ord j)))) σ1) → AMet G l M_X12_nextComing d 0 0 [xR (some (13, 0))] σ1 P := by
    intro j σ1 P hj Z B e0 e1
    refine m_nextComing (A := dB ord j) (asg := asg) (come := come) (Z.st hS) (ck Z) B (tk Z) (fun all => e0 ?_) (fun p hp cp ap lp => ?_)
    · rcases Nat.lt_or_ge j m with q | q
      · obtain ⟨o1, o2⟩ := hO.2.1 j q
        obtain ⟨i, hi, ei⟩ := (dB_iff j).mp (all (ord j) o1 o2)
        rcases hO.1 i j hi q with x | x
        · rw [ei] at x; exact absurd x Int32.lt_irrefl
        · rw [ei] at x; exact absurd x.2 (Nat.lt_irrefl _)
      · omega
    · obtain ⟨i, hi, ei⟩ := hO.2.2 p hp cp
      have hij : j ≤ i := by
        rcases Nat.lt_or_ge i j with q | q
        · have := (dB_iff (ord := ord) (p := p) j).mpr ⟨i, q, ei⟩
          rw [this] at ap; cases ap
        · exact q
      have hjm : j < m := by omega
      have eij : i = j := by
        rcases Nat.lt_or_ge j i with q | q
        · exfalso
          obtain ⟨o1, o2⟩ := hO.2.1 j hjm
          have nd : dB ord j (ord j) = false := by
            cases z : dB ord j (ord j)
            · rfl
            · obtain ⟨i', hi', ei'⟩ := (dB_iff j).mp z
              rcases hO.1 i' j hi' hjm with x | x
              · rw [ei'] at x; exact absurd x Int32.lt_irrefl
              · rw [ei'] at x; exact absurd x.2 (Nat.lt_irrefl _)
          have l1 := lp (ord j) o1 o2 nd
          have l2 := hO.1 j i q hi
          rw [ei] at l2
          rcases l1 with x | x
          · rcases l2 with y | y
            · exact absurd (Int32.lt_trans x y) Int32.lt_irrefl
            · rw [y.1] at x; exact absurd x Int32.lt_irrefl
          · rcases l2 with y | y
            · rw [x.1] at y; exact absurd y Int32.lt_irrefl
            · omega
        · omega
      subst eij
      rw [← ei]; exact e1 hjm
  have main : ∀ (f j : Nat) (σ1 : AS) (v : Int32), m - j = f → j ≤ m → MZ False (fun _ => False) QD σ σ1 → (∀ p, p < N → gA σ1 21 4 p = bI (dB ord j p)) → (∀ i, i < dr → gA σ1 26 33 i = dfS dr (fun j => come (ord j)) (fun j => slow (ord j)) j i) → (∀ i, i < j → gA σ1 26 35 (ord i) = tSj dr (fun j => come (ord j)) (fun j => slow (ord j)) i) → ((j = m ∧ v = -1) ∨ (j < m ∧ v = nI (ord j))) → AW G l M_X12_dresses (d + 1) post σ1 0 0 48 [some (xR (some (13, 0))), some (xI (nI dr)), some (xI v), none, none] [] := by
    intro f
    induction f with
    | zero =>
      intro j σ1 v hf hj Z B D T V
      rcases V with ⟨e, ev⟩ | ⟨e, -⟩
      · subst e
        refine vc_X12_dresses_48 (d := d) ⟨fun _ => h σ1 Z T, fun c => absurd ev c⟩
      · omega
    | succ f ih =>
      intro j σ1 v hf hj Z B D T V
      rcases V with ⟨e, -⟩ | ⟨hjm, ev⟩
      · omega
      obtain ⟨o1, o2⟩ := hO.2.1 j hjm
      rw [ev]
      have vo : vp_in (nI (ord j)) 40 := vp_in_nI (by omega) (by decide)
      refine vc_X12_dresses_48 (d := d) ⟨fun c => absurd (show nI (ord j) < 0 by rw [c]; decide) (nI_pos (by omega)), fun _ => ?_⟩
      generalize hdf : dfS dr (fun j => come (ord j)) (fun j => slow (ord j)) j = df at D
      have pick : ∀ (f k : Nat), dr - (k + 1) = f → k + 1 ≤ dr → AW G l M_X12_dresses (d + 1) post σ1 0 0 58 [some (xR (some (13, 0))), some (xI (nI dr)), some (xI (nI (ord j))), some (xI (nI (ffl df (k + 1)))), some (xI (nI (k + 1)))] [] := by
        intro f
        induction f with
        | zero =>
          intro k hfk hk
          have e : k + 1 = dr := by omega
          have fl := ffl_le df k
          have vf : vp_in (nI (ffl df (k + 1))) 5 := vp_in_nI (by omega) (by decide)
          refine vc_X12_dresses_58 (d := d) (Z.st hS) ⟨fun _ => ⟨vf, vo, vo, vo, vo, vf, vo, ?_⟩, fun c => absurd (by rw [e]; exact nI_le (Nat.le_refl _) (by omega)) c⟩
          rw [nI_clamp (by omega), nI_clamp (by omega), nar1, gA_self, D _ (by omega), tk Z _ o1 o2, sk Z _ o1]
          have et : (if df (ffl df (k + 1)) < come (ord j) then come (ord j) else df (ffl df (k + 1))) + slow (ord j) = tSj dr (fun j => come (ord j)) (fun j => slow (ord j)) j := by
            unfold tSj tOf mx
            rw [hdf, e]
          rw [et, e]
          have Z2 : MZ False (fun _ => False) QD σ (sA (sA (sA σ1 26 35 (ord j) (tSj dr (fun j => come (ord j)) (fun j => slow (ord j)) j)) 26 33 (ffl df dr) (tSj dr (fun j => come (ord j)) (fun j => slow (ord j)) j)) 21 4 (ord j) 1) := qd (qd (qd Z (Or.inl ⟨rfl, Or.inr rfl⟩)) (Or.inl ⟨rfl, Or.inl rfl⟩)) (Or.inr ⟨rfl, rfl⟩)
          have B2 : ∀ p, p < N → gA (sA (sA (sA σ1 26 35 (ord j) (tSj dr (fun j => come (ord j)) (fun j => slow (ord j)) j)) 26 33 (ffl df dr) (tSj dr (fun j => come (ord j)) (fun j => slow (ord j)) j)) 21 4 (ord j) 1) 21 4 p = bI (dB ord (j + 1) p) := by
            intro p hp
            rw [dB]
            by_cases w : p = ord j
            · subst w; rw [gA_self, decide_eq_true rfl, Bool.or_true]; rfl
            · rw [gA_o (fun z => w z.2.2), gA_o (by omega), gA_o (by omega), decide_eq_false (fun z => w z.symm), Bool.or_false]; exact B p hp
          refine next (j + 1) _ _ (by omega) Z2 B2 (fun q => ?_) (fun q => ?_)
          · refine ih (j + 1) _ _ (by omega) (by omega) Z2 B2 (fun i hi => ?_) (fun i hi => ?_) (Or.inl ⟨q, rfl⟩)
            · rw [dfS_succ, hdf, gA_o (by omega)]
              by_cases w : i = ffl df dr
              · subst w; rw [gA_self, if_pos rfl]
              · rw [gA_o (fun z => w z.2.2), gA_o (by omega), if_neg w]; exact D i hi
            · rw [gA_o (by omega), gA_o (by omega)]
              by_cases w : i = j
              · subst w; exact gA_self
              · rw [gA_o (fun z => ?_)]
                · exact T i (by omega)
                · have ne := z.2.2
                  rcases hO.1 i j (by omega) hjm with x | x
                  · rw [ne] at x; exact absurd x Int32.lt_irrefl
                  · rw [ne] at x; exact absurd x.2 (Nat.lt_irrefl _)
          · refine ih (j + 1) _ _ (by omega) (by omega) Z2 B2 (fun i hi => ?_) (fun i hi => ?_) (Or.inr ⟨q, rfl⟩)
            · rw [dfS_succ, hdf, gA_o (by omega)]
              by_cases w : i = ffl df dr
              · subst w; rw [gA_self, if_pos rfl]
              · rw [gA_o (fun z => w z.2.2), gA_o (by omega), if_neg w]; exact D i hi
            · rw [gA_o (by omega), gA_o (by omega)]
              by_cases w : i = j
              · subst w; exact gA_self
              · rw [gA_o (fun z => ?_)]
                · exact T i (by omega)
                · have ne := z.2.2
                  rcases hO.1 i j (by omega) hjm with x | x
                  · rw [ne] at x; exact absurd x Int32.lt_irrefl
                  · rw [ne] at x; exact absurd x.2 (Nat.lt_irrefl _)
        | succ f ih2 =>
          intro k hfk hk
          have fl := ffl_le df k
          refine vc_X12_dresses_58 (d := d) (Z.st hS) ⟨fun c => absurd ((nI_leI (a := dr) (b := k + 1) (by omega) (by omega)).mp c) (by omega), fun _ => ⟨vp_in_nI (by omega) (by decide), vp_in_nI (by omega) (by decide), ?_⟩⟩
          have z := ih2 (k + 1) (by omega) (by omega)
          rw [nI_clamp (by omega), nI_clamp (by omega), D _ (by omega), D _ (by omega), nI_1]
          refine ⟨fun c => ?_, fun c => ?_⟩
          · rw [show ffl df (k + 1 + 1) = if df (k + 1) < df (ffl df (k + 1)) then k + 1 else ffl df (k + 1) from rfl, if_neg (Int32.not_lt.mpr c)] at z
            exact z
          · rw [show ffl df (k + 1 + 1) = if df (k + 1) < df (ffl df (k + 1)) then k + 1 else ffl df (k + 1) from rfl, if_pos (Int32.not_le.mp c)] at z
            exact z
      have z := pick (dr - 1) 0 (by omega) (by omega)
      rw [show ffl df (0 + 1) = 0 from ffl_1 df] at z
      exact z
  have undress : ∀ (f p : Nat) (σ1 : AS), N - p = f → p ≤ N → MZ False (fun _ => False) QD σ σ1 → (∀ i, i < dr → gA σ1 26 33 i = 0) → (∀ q, q < p → gA σ1 21 4 q = 0) → AW G l M_X12_dresses (d + 1) post σ1 0 0 22 [some (xR (some (13, 0))), some (xI (nI dr)), some (xI (nI p)), none, none] [] := by
    intro f
    induction f with
    | zero =>
      intro p σ1 hf hp Z D B
      have e : p = N := by omega
      subst e
      have B0 : ∀ q, q < p → gA σ1 21 4 q = bI (dB ord 0 q) := fun q hq => (B q hq).trans rfl
      refine vc_X12_dresses_22 (d := d) (Z.st hS) ⟨fun _ => next 0 σ1 _ (Nat.zero_le _) Z B0 (fun q => main m 0 σ1 _ rfl (Nat.zero_le _) Z B0 D (fun i hi => absurd hi (Nat.not_lt_zero i)) (Or.inl ⟨q, rfl⟩)) (fun q => main m 0 σ1 _ rfl (Nat.zero_le _) Z B0 D (fun i hi => absurd hi (Nat.not_lt_zero i)) (Or.inr ⟨q, rfl⟩)), fun c => absurd (by rw [(ck Z).2.2.2.2]; exact nI_le (Nat.le_refl _) (by omega)) c⟩
    | succ f ih =>
      intro p σ1 hf hp Z D B
      refine vc_X12_dresses_22 (d := d) (Z.st hS) ⟨fun c => absurd ((nI_leI (a := N) (b := p) (by omega) (by omega)).mp (by rw [(ck Z).2.2.2.2] at c; exact c)) (by omega), fun _ => ⟨vp_in_nI (by omega) (by decide), ?_⟩⟩
      rw [nI_clamp (by omega), nar0, nI_1]
      refine ih (p + 1) _ (by omega) (by omega) (qd Z (Or.inr ⟨rfl, rfl⟩)) (fun i hi => (gA_o (by omega)).trans (D i hi)) (fun q hq => ?_)
      by_cases w : q = p
      · subst w; exact gA_self
      · rw [gA_o (fun z => w z.2.2)]; exact B q (by omega)
  have zero : ∀ (f k : Nat) (σ1 : AS), dr - k = f → k ≤ dr → MZ False (fun _ => False) QD σ σ1 → (∀ i, i < k → gA σ1 26 33 i = 0) → AW G l M_X12_dresses (d + 1) post σ1 0 0 2 [some (xR (some (13, 0))), some (xI (nI dr)), some (xI (nI k)), none, none] [] := by
    intro f
    induction f with
    | zero =>
      intro k σ1 hf hk Z D
      have e : k = dr := by omega
      subst e
      refine vc_X12_dresses_2 (d := d) (Z.st hS) ⟨fun _ => ?_, fun c => absurd (nI_le (Nat.le_refl _) (by omega)) c⟩
      have z := undress N 0 σ1 rfl (Nat.zero_le _) Z D (fun q hq => absurd hq (Nat.not_lt_zero q))
      rw [nI_0] at z
      exact z
    | succ f ih =>
      intro k σ1 hf hk Z D
      refine vc_X12_dresses_2 (d := d) (Z.st hS) ⟨fun c => absurd ((nI_leI (a := dr) (b := k) (by omega) (by omega)).mp c) (by omega), fun _ => ⟨vp_in_nI (by omega) (by decide), ?_⟩⟩
      rw [nI_clamp (by omega), nI_1]
      refine ih (k + 1) _ (by omega) (by omega) (qd Z (Or.inl ⟨rfl, Or.inl rfl⟩)) (fun i hi => ?_)
      by_cases w : i = k
      · subst w; exact gA_self
      · rw [gA_o (fun z => w z.2.2)]; exact D i (by omega)
  refine AMet.of rfl (Nat.le_of_ble_eq_true rfl) (vc_X12_dresses (d := d) ?_)
  have z := zero dr 0 σ rfl (Nat.zero_le _) MZ.rf (fun i hi => absurd hi (Nat.not_lt_zero i))
  rw [nI_0] at z
  exact z
end MDRESS
