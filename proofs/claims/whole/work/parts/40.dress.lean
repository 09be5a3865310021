/-! Being dressed. -/
section DRESS
variable {G : GG} {l : Launch} {d : Nat} {post : Option AVal → AS → Prop} {σ : AS} {kk nn : Nat}
/-- the first of n dressers to be free -/
def ffl (df : Nat → Int32) : Nat → Nat
  | 0 => 0
  | n + 1 => if df n < df (ffl df n) then n else ffl df n
theorem ffl_le (df : Nat → Int32) : ∀ n, ffl df (n + 1) ≤ n
  | 0 => by rw [ffl]; split <;> exact Nat.le_refl _
  | n + 1 => by
    have := ffl_le df n
    rw [ffl]; split <;> omega
theorem ffl_1 (df : Nat → Int32) : ffl df 1 = 0 := Nat.le_zero.mp (ffl_le df 0)
theorem c_firstFree {dr : Nat} (hS : St σ) (h1 : 1 ≤ dr) (h5 : dr ≤ 5) (h : post (some (xI (nI (ffl (fun i => gA σ 20 5 i) dr)))) σ) : AMet G l M_X3_firstFree d 0 0 [xR (some (4, 0)), xI (nI dr)] σ post := by
  have loop : ∀ (f k : Nat), dr - k = f → 1 ≤ k → k ≤ dr → AW G l M_X3_firstFree d post σ 0 0 4 [some (xR (some (4, 0))), some (xI (nI dr)), some (xI (nI (ffl (fun i => gA σ 20 5 i) k))), some (xI (nI k))] [] := by
    intro f
    induction f with
    | zero =>
      intro k hf hk1 hk
      have e : k = dr := by omega
      subst e
      exact vc_X3_firstFree_4 hS ⟨fun _ => h, fun c => absurd (nI_le (Nat.le_refl k) (by omega)) c⟩
    | succ f ih =>
      intro k hf hk1 hk
      obtain ⟨k', rfl⟩ : ∃ k', k = k' + 1 := ⟨k - 1, by omega⟩
      have hl := ffl_le (fun i => gA σ 20 5 i) k'
      refine vc_X3_firstFree_4 hS ⟨fun c => absurd ((nI_leI (by omega) (by omega)).mp c) (by omega), fun _ => ⟨fun c => absurd ((nI_leI (by omega) (by omega)).mp c) (by omega), fun _ => ⟨vp_in_nI (by omega) (by decide), vp_in_nI (by omega) (by decide), fun c => ?_, fun c => ?_⟩⟩⟩
      · rw [nI_clamp (by omega), nI_clamp (by omega)] at c
        rw [nI_1]
        have e : ffl (fun i => gA σ 20 5 i) (k' + 1 + 1) = ffl (fun i => gA σ 20 5 i) (k' + 1) := by rw [ffl, if_neg (Int32.not_lt.mpr c)]
        have k := ih (k' + 1 + 1) (by omega) (by omega) (by omega)
        rw [e] at k; exact k
      · rw [nI_clamp (by omega), nI_clamp (by omega)] at c
        rw [nI_1]
        have e : ffl (fun i => gA σ 20 5 i) (k' + 1 + 1) = k' + 1 := by rw [ffl, if_pos (Int32.not_le.mp c)]
        have k := ih (k' + 1 + 1) (by omega) (by omega) (by omega)
        rw [e] at k; exact k
  refine AMet.of rfl (Nat.le_of_ble_eq_true rfl) (vc_X3_firstFree ?_)
  have k := loop (dr - 1) 1 rfl (Nat.le_refl 1) h1
  rw [ffl_1, nI_0] at k
  exact k
def mx (x y : Int32) : Int32 := if x < y then y else x
def tOf (dr : Nat) (df : Nat → Int32) (co sl : Int32) : Int32 := mx (df (ffl df dr)) co + sl
/-- the dressers' minutes, j people dressed -/
def dfS (dr : Nat) (co sl : Nat → Int32) : Nat → Nat → Int32
  | 0 => fun _ => 0
  | j + 1 => fun i => if i = ffl (dfS dr co sl j) dr then tOf dr (dfS dr co sl j) (co j) (sl j) else dfS dr co sl j i
/-- when the j-th is dressed -/
def tSj (dr : Nat) (co sl : Nat → Int32) (j : Nat) : Int32 := tOf dr (dfS dr co sl j) (co j) (sl j)
theorem dfS_succ {dr : Nat} {co sl : Nat → Int32} {j i : Nat} : dfS dr co sl (j + 1) i = if i = ffl (dfS dr co sl j) dr then tSj dr co sl j else dfS dr co sl j i := rfl
/-- the last minute at which one of ask a was dressed -/
def bgS (t : Nat → Int32) (ak : Nat → Nat) (a : Nat) : Nat → Int32
  | 0 => 0
  | j + 1 => if ak j = a then mx (bgS t ak a j) (t j) else bgS t ak a j
def DF (σ σ' : AS) : Prop := sameK (fun c => c ≠ 2 ∧ c ≠ 11 ∧ c ≠ 20) σ σ' ∧ (∀ c, cnt σ' c = cnt σ c) ∧ (∀ c f i, gR σ' c f i = gR σ c f i) ∧ (∀ c i, gN σ' c i = gN σ c i) ∧ (∀ f i, f ≠ 7 → gI σ' 2 f i = gI σ 2 f i) ∧ (∀ f i, f ≠ 5 → gI σ' 11 f i = gI σ 11 f i) ∧ (∀ a j, a ≠ 5 → gA σ' 20 a j = gA σ 20 a j)
theorem DF.rf : DF σ σ := ⟨sameK.rf, fun _ => rfl, fun _ _ _ => rfl, fun _ _ => rfl, fun _ _ _ => rfl, fun _ _ _ => rfl, fun _ _ _ => rfl⟩
theorem DF.tr {σ1 σ2 : AS} (h : DF σ σ1) (k : DF σ1 σ2) : DF σ σ2 := ⟨h.1.tr k.1, fun c => (k.2.1 c).trans (h.2.1 c), fun c f i => (k.2.2.1 c f i).trans (h.2.2.1 c f i), fun c i => (k.2.2.2.1 c i).trans (h.2.2.2.1 c i), fun f i z => (k.2.2.2.2.1 f i z).trans (h.2.2.2.2.1 f i z), fun f i z => (k.2.2.2.2.2.1 f i z).trans (h.2.2.2.2.2.1 f i z), fun f i z => (k.2.2.2.2.2.2 f i z).trans (h.2.2.2.2.2.2 f i z)⟩
theorem DF.st {σ' : AS} (h : DF σ σ') (hS : St σ) : St σ' := hS.of fun c _ => ⟨fun f i _ => h.2.2.1 c f i, fun i _ => h.2.2.2.1 c i, Nat.le_of_eq (h.2.1 c).symm⟩
theorem DF.al {σ' : AS} {q n : Nat} {e : Nat → Nm} (h : DF σ σ') (k : AL σ q n e) : AL σ' q n e := k.same (h.1.sub (fun c hc => by rcases hc with rfl | rfl <;> decide))
theorem DF.set5 {j : Nat} {v : Int32} : DF σ (sA σ 20 5 j v) := ⟨fun c hc => eqK_sA hc.2.2, fun _ => rfl, fun _ _ _ => rfl, fun _ _ => rfl, fun _ _ _ => rfl, fun _ _ _ => rfl, fun a j h => by rw [gA_sA, if_neg (fun e => h e.2.1)]⟩
theorem DF.setT {t : Nat} {v : Int32} : DF σ (sI σ 11 5 t v) := ⟨fun c hc => eqK_sI hc.2.1, fun _ => rfl, fun _ _ _ => rfl, fun _ _ => rfl, fun f i _ => gI_o (fun e => absurd e.1 (by decide)), fun f i h => gI_o (fun e => h e.2.1), fun _ _ _ => rfl⟩
theorem DF.setB {t : Nat} {v : Int32} : DF σ (sI σ 2 7 t v) := ⟨fun c hc => eqK_sI hc.1, fun _ => rfl, fun _ _ _ => rfl, fun _ _ => rfl, fun f i h => gI_o (fun e => h e.2.1), fun f i _ => gI_o (fun e => absurd e.1 (by decide)), fun _ _ _ => rfl⟩
theorem c_dressAll {dr m K a0 : Nat} {e pj ak : Nat → Nat} (hS : St σ) (h1 : 1 ≤ dr) (h5 : dr ≤ 5) (hA : AL σ 4 m (fun j => (11, e j))) (hinj : ∀ i j, i < m → j < m → e i = e j → i = j) (hp : ∀ j, j < m → gR σ 11 0 (e j) = some (6, pj j)) (ha : ∀ j, j < m → gR σ 11 2 (e j) = some (2, a0 + ak j) ∧ ak j < K) (hb : ∀ a, a < K → gI σ 2 7 (a0 + a) = 0)
    (h : ∀ σ', DF σ σ' → (∀ j, j < m → gI σ' 11 5 (e j) = tSj dr (fun j => gI σ 11 4 (e j)) (fun j => gI σ 6 5 (pj j)) j) → (∀ a, a < K → gI σ' 2 7 (a0 + a) = bgS (tSj dr (fun j => gI σ 11 4 (e j)) (fun j => gI σ 6 5 (pj j))) ak a m) → (∀ i, (∀ j, j < m → i ≠ e j) → gI σ' 11 5 i = gI σ 11 5 i) → post none σ') : AMet G l M_X3_dressAll (d + 4) 0 0 [xR (some (4, 0)), xI (nI dr)] σ post := by
  have hn := hA.n_lt
  have loop : ∀ (f k : Nat) (σ1 : AS), m - k = f → k ≤ m → DF σ σ1 → (∀ i, i < 5 → gA σ1 20 5 i = dfS dr (fun j => gI σ 11 4 (e j)) (fun j => gI σ 6 5 (pj j)) k i) → (∀ j, j < k → gI σ1 11 5 (e j) = tSj dr (fun j => gI σ 11 4 (e j)) (fun j => gI σ 6 5 (pj j)) j) → (∀ a, a < K → gI σ1 2 7 (a0 + a) = bgS (tSj dr (fun j => gI σ 11 4 (e j)) (fun j => gI σ 6 5 (pj j))) ak a k) → (∀ i, (∀ j, j < k → i ≠ e j) → gI σ1 11 5 i = gI σ 11 5 i) → AW G l M_X3_dressAll (d + 4) post σ1 0 0 26 [some (xR (some (4, 0))), some (xI (nI dr)), some (xI (nI k)), none, none] [] := by
    intro f
    induction f with
    | zero =>
      intro k σ1 hf hk F hd ht hg ho
      have e' : k = m := by omega
      subst e'
      exact vc_X3_dressAll_26 (d := d + 3) (F.st hS) (c_size (F.al hA) ⟨F.st hS, fun _ => h σ1 F ht hg ho, fun c => absurd (nI_le (Nat.le_refl k) (by omega)) c⟩)
    | succ f ih =>
      intro k σ1 hf hk F hd ht hg ho
      have hkm : k < m := by omega
      obtain ⟨dr', rfl⟩ : ∃ dr', dr = dr' + 1 := ⟨dr - 1, by omega⟩
      have eF : ffl (fun i => gA σ1 20 5 i) (dr' + 1) = ffl (dfS (dr' + 1) (fun j => gI σ 11 4 (e j)) (fun j => gI σ 6 5 (pj j)) k) (dr' + 1) := by
        have : ∀ n, n ≤ 5 → ffl (fun i => gA σ1 20 5 i) n = ffl (dfS (dr' + 1) (fun j => gI σ 11 4 (e j)) (fun j => gI σ 6 5 (pj j)) k) n := by
          intro n
          induction n with
          | zero => intro _; rfl
          | succ n ihn =>
            intro hn5
            have q := ihn (by omega)
            have hlt : ffl (fun i => gA σ1 20 5 i) n < 5 := by
              cases n with
              | zero => show 0 < 5; decide
              | succ n => have := ffl_le (fun i => gA σ1 20 5 i) n; omega
            have e1 : gA σ1 20 5 (ffl (fun i => gA σ1 20 5 i) n) = dfS (dr' + 1) (fun j => gI σ 11 4 (e j)) (fun j => gI σ 6 5 (pj j)) k (ffl (dfS (dr' + 1) (fun j => gI σ 11 4 (e j)) (fun j => gI σ 6 5 (pj j)) k) n) := by rw [hd _ hlt, q]
            rw [ffl, ffl]
            show (if gA σ1 20 5 n < gA σ1 20 5 (ffl (fun i => gA σ1 20 5 i) n) then n else _) = _
            rw [e1, hd n (by omega), q]
        exact this _ h5
      have hl := ffl_le (dfS (dr' + 1) (fun j => gI σ 11 4 (e j)) (fun j => gI σ 6 5 (pj j)) k) dr'
      refine vc_X3_dressAll_26 (d := d + 3) (F.st hS) (c_size (F.al hA) ⟨F.st hS, fun c => absurd ((nI_leI (by omega) (by omega)).mp c) (by omega), fun _ => c_get (F.al hA) hkm ⟨e k, rfl, c_firstFree (F.st hS) h1 h5 ?_⟩⟩)
      rw [eF]
      refine ⟨F.st hS, fun c => absurd c (nI_pos (by omega)), fun _ => ⟨fun c => absurd ((nI_leI (a := 5) (by decide) (by omega)).mp c) (by omega), fun _ => ⟨vp_in_nI (by omega) (by decide), pj k, (F.2.2.1 11 0 _).trans (hp k hkm), vp_in_nI (by omega) (by decide), a0 + ak k, (F.2.2.1 11 2 _).trans (ha k hkm).1, ?_⟩⟩⟩
      rw [nI_clamp (by omega), nI_1, hd _ (by omega), F.2.2.2.2.2.1 4 _ (by decide), (F.1 6 (by decide)).2.1, hg _ (ha k hkm).2]
      have eT : (if dfS (dr' + 1) (fun j => gI σ 11 4 (e j)) (fun j => gI σ 6 5 (pj j)) k (ffl (dfS (dr' + 1) (fun j => gI σ 11 4 (e j)) (fun j => gI σ 6 5 (pj j)) k) (dr' + 1)) < gI σ 11 4 (e k) then gI σ 11 4 (e k) else dfS (dr' + 1) (fun j => gI σ 11 4 (e j)) (fun j => gI σ 6 5 (pj j)) k (ffl (dfS (dr' + 1) (fun j => gI σ 11 4 (e j)) (fun j => gI σ 6 5 (pj j)) k) (dr' + 1))) + gI σ 6 5 (pj k) = tSj (dr' + 1) (fun j => gI σ 11 4 (e j)) (fun j => gI σ 6 5 (pj j)) k := rfl
      rw [eT]
      refine ih (k + 1) _ (by omega) (by omega) (((F.tr DF.setT).tr DF.set5).tr DF.setB) (fun i hi => ?_) (fun j hj => ?_) (fun a haK => ?_) (fun i hi => ?_)
      · rw [gA_sI, gA_sA, gA_sI, dfS_succ]
        by_cases q : i = ffl (dfS (dr' + 1) (fun j => gI σ 11 4 (e j)) (fun j => gI σ 6 5 (pj j)) k) (dr' + 1)
        · rw [if_pos ⟨rfl, rfl, q⟩, if_pos q]
        · rw [if_neg (fun z => q z.2.2), if_neg q]; exact hd i hi
      · rw [gI_o (fun z => absurd z.1 (by decide)), gI_sA, gI_sI]
        by_cases q : j = k
        · rw [if_pos ⟨rfl, rfl, by rw [q]⟩, q]
        · rw [if_neg (fun z => q (hinj j k (by omega) hkm z.2.2))]; exact ht j (by omega)
      · rw [gI_sI, bgS]
        by_cases q : ak k = a
        · rw [if_pos ⟨rfl, rfl, by rw [q]⟩, if_pos q, q]; rfl
        · rw [if_neg (fun z => q (by omega)), if_neg q, gI_sA, gI_o (fun z => absurd z.1 (by decide))]; exact hg a haK
      · rw [gI_o (fun z => absurd z.1 (by decide)), gI_sA, gI_o (fun z => hi k (Nat.lt_succ_self k) z.2.2)]
        exact ho i (fun j hj => hi j (by omega))
  have init : ∀ (f k : Nat) (σ1 : AS), 5 - k = f → k ≤ 5 → DF σ σ1 → (∀ i, i < k → gA σ1 20 5 i = 0) → (∀ f i, gI σ1 11 f i = gI σ 11 f i) → (∀ f i, gI σ1 2 f i = gI σ 2 f i) → AW G l M_X3_dressAll (d + 4) post σ1 0 0 2 [some (xR (some (4, 0))), some (xI (nI dr)), some (xI (nI k)), none, none] [] := by
    intro f
    induction f with
    | zero =>
      intro k σ1 hf hk F hz k11 k2
      have e' : k = 5 := by omega
      subst e'
      refine vc_X3_dressAll_2 (d := d + 3) (F.st hS) ⟨fun _ => ?_, fun c => absurd (nI_le (Nat.le_refl 5) (by decide)) c⟩
      have q := loop m 0 σ1 rfl (Nat.zero_le _) F (fun i hi => hz i hi) (fun j hj => absurd hj (Nat.not_lt_zero j)) (fun a haK => (k2 7 _).trans (hb a haK)) (fun i _ => k11 5 i)
      rw [nI_0] at q
      exact q
    | succ f ih =>
      intro k σ1 hf hk F hz k11 k2
      refine vc_X3_dressAll_2 (d := d + 3) (F.st hS) ⟨fun c => absurd ((nI_leI (by decide) (by omega)).mp c) (by omega), fun _ => ⟨vp_in_nI (by omega) (by decide), ?_⟩⟩
      rw [nI_clamp (by omega), nI_1]
      refine ih (k + 1) _ (by omega) (by omega) (F.tr DF.set5) (fun i hi => ?_) k11 k2
      rw [gA_sA]
      by_cases q : i = k
      · rw [if_pos ⟨rfl, rfl, q⟩]
      · rw [if_neg (fun z => q z.2.2)]; exact hz i (by omega)
  refine AMet.of rfl (Nat.le_of_ble_eq_true rfl) (vc_X3_dressAll (d := d + 3) ?_)
  have q := init 5 0 σ rfl (by decide) DF.rf (fun i hi => absurd hi (Nat.not_lt_zero i)) (fun _ _ => rfl) (fun _ _ => rfl)
  rw [nI_0] at q
  exact q
end DRESS
