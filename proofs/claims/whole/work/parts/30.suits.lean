/-! What is wanted, evaluated: the steps as a machine with a stack of truths; the bits of a long hold it. -/
section SUITS
variable {G : GG} {l : Launch} {d : Nat} {post : Option AVal → AS → Prop} {σ : AS} {kk nn : Nat}
def stK (x : Int32) : Int32 := x / 100000
def stV (x : Int32) : Int32 := x - x / 100000 * 100000
def step1 (f : Nat → Int32) (x : Int32) : List Bool → List Bool := fun st => if stK x = 8 then (match st with | t :: r => (!t) :: r | [] => []) else if stK x = 9 then (match st with | t :: u :: r => (u && t) :: r | _ => []) else if stK x = 10 then (match st with | t :: u :: r => (u || t) :: r | _ => []) else hB f (stK x) (stV x) :: st
def runB (f : Nat → Int32) : List Int32 → List Bool → List Bool
  | [], st => st
  | x :: xs, st => runB f xs (step1 f x st)
theorem runB_app (f : Nat → Int32) : ∀ (s s' : List Int32) (st : List Bool), runB f (s ++ s') st = runB f s' (runB f s st)
  | [], _, _ => rfl
  | x :: s, s', st => runB_app f s s' (step1 f x st)
/-- the stack's height behind steps: never above M, never too low -/
def hRun (M : Nat) : List Int32 → Nat → Option Nat
  | [], h => some h
  | x :: xs, h => if stK x = 8 then (if 1 ≤ h then hRun M xs h else none) else if stK x = 9 ∨ stK x = 10 then (if 2 ≤ h then hRun M xs (h - 1) else none) else (if h < M then hRun M xs (h + 1) else none)
theorem hRun_app (M : Nat) : ∀ (s s' : List Int32) (h h' : Nat), hRun M s h = some h' → hRun M (s ++ s') h = hRun M s' h'
  | [], s', h, h', e => by cases e; rfl
  | x :: s, s', h, h', e => by
    rw [hRun] at e
    show hRun M (x :: (s ++ s')) h = _
    rw [hRun]
    by_cases c1 : stK x = 8
    · rw [if_pos c1] at e ⊢
      by_cases c2 : 1 ≤ h
      · rw [if_pos c2] at e ⊢; exact hRun_app M s s' h h' e
      · rw [if_neg c2] at e; cases e
    · rw [if_neg c1] at e ⊢
      by_cases c2 : stK x = 9 ∨ stK x = 10
      · rw [if_pos c2] at e ⊢
        by_cases c3 : 2 ≤ h
        · rw [if_pos c3] at e ⊢; exact hRun_app M s s' _ h' e
        · rw [if_neg c3] at e; cases e
      · rw [if_neg c2] at e ⊢
        by_cases c3 : h < M
        · rw [if_pos c3] at e ⊢; exact hRun_app M s s' _ h' e
        · rw [if_neg c3] at e; cases e
theorem pk_100 : (100000 : Int32) = nI 100000 := by decide
theorem stK_of {k m : Nat} (hk : k ≤ 10) (hm : m ≤ 99999) : stK (nI (k * 100000 + m)) = nI k ∧ stV (nI (k * 100000 + m)) = nI m := by
  have e1 : nI (k * 100000 + m) / 100000 = nI k := by
    rw [pk_100, pk_div (by omega) (by decide) (by decide)]
    congr 1; omega
  refine ⟨e1, ?_⟩
  unfold stV
  rw [pk_100, pk_rem (by omega) (by decide) (by decide)]
  congr 1; omega
/-- marks: what is told of a mark read -/
theorem nI_k : ∀ k, k ≤ 7 → nI k * 100000 = nI (k * 100000) := by decide +kernel
theorem rmN_mark {n i k : Nat} {b : Nat → Int32} (hk : k ≤ 7) (h : (rmN n b i (nI k)).1.1 = 0) : ∃ m, m ≤ 99999 ∧ (rmN n b i (nI k)).2 = nI (k * 100000 + m) := by
  unfold rmN at h ⊢
  by_cases c1 : nI k = 0
  · rw [if_pos c1]
    refine ⟨0, by decide, ?_⟩
    show nI k * 100000 + 0 = _
    rw [nI_k k hk, Int32.add_zero, Nat.add_zero]
  · rw [if_neg c1] at h ⊢
    by_cases c2 : tK n b i = 3 ∧ tE n b i - tS n b i ≤ 5
    · rw [if_pos c2] at h ⊢
      by_cases c3 : tV n b i < 0 ∨ hiOf (nI k) < tV n b i
      · rw [if_pos c3] at h; exact absurd h i2n0
      · rw [if_neg c3]
        obtain ⟨m, hm, e⟩ := nI_of (x := tV n b i) (fun q => c3 (Or.inl q))
        have h9 : hiOf (nI k) ≤ 99999 := by
          have : ∀ k, k ≤ 7 → hiOf (nI k) ≤ 99999 := by decide +kernel
          exact this k hk
        have h8 : nI m ≤ nI 99999 := by
          rw [← e]
          exact Int32.le_trans (Int32.not_lt.mp (fun q => c3 (Or.inr q))) h9
        have h7 := (nI_leI hm (by decide)).mp h8
        refine ⟨m, h7, ?_⟩
        show nI k * 100000 + tV n b i = _
        rw [nI_k k hk, e, nI_add]
    · rw [if_neg c2] at h; exact absurd h i1n0
theorem mkH_nI {n i : Nat} {b : Nat → Int32} (h : ¬ mkH n b i = -1) : ∃ k, k ≤ 6 ∧ mkH n b i = nI k := by
  unfold mkH at h ⊢
  by_cases c5 : isW n b i 5 = true
  · rw [if_pos c5]; exact ⟨0, by decide, rfl⟩
  rw [if_neg c5] at h ⊢
  by_cases c6 : isW n b i 6 = true
  · rw [if_pos c6]; exact ⟨1, by decide, rfl⟩
  rw [if_neg c6] at h ⊢
  by_cases c7 : isW n b i 7 = true
  · rw [if_pos c7]; exact ⟨2, by decide, rfl⟩
  rw [if_neg c7] at h ⊢
  by_cases c8 : isW n b i 8 = true
  · rw [if_pos c8]; exact ⟨3, by decide, rfl⟩
  rw [if_neg c8] at h ⊢
  by_cases c9 : isW n b i 9 = true
  · rw [if_pos c9]; exact ⟨4, by decide, rfl⟩
  rw [if_neg c9] at h ⊢
  by_cases c10 : isW n b i 10 = true
  · rw [if_pos c10]; exact ⟨6, by decide, rfl⟩
  rw [if_neg c10] at h; exact absurd rfl h
theorem rm_mark {n i : Nat} {b : Nat → Int32} (h : (rm n b i).1.1 = 0) : ∃ k m, k ≤ 7 ∧ m ≤ 99999 ∧ (rm n b i).2 = nI (k * 100000 + m) := by
  by_cases c0 : mkH n b i = -1
  · unfold rm at h; rw [if_pos c0] at h; exact absurd h i1n0
  · obtain ⟨k, hk, e⟩ := mkH_nI c0
    unfold rm at h ⊢
    rw [if_neg c0] at h ⊢
    by_cases c1 : mkH n b i = 4 ∨ mkH n b i = 6
    · rw [if_pos c1] at h ⊢
      by_cases c2 : isG n b (tE n b i) 60 = true
      · rw [if_pos c2] at h ⊢
        rw [e] at h ⊢
        obtain ⟨m, h1, h2⟩ := rmN_mark (by omega) h
        exact ⟨k, m, by omega, h1, h2⟩
      · rw [if_neg c2] at h ⊢
        by_cases c3 : isG n b (tE n b i) 62 = true
        · rw [if_pos c3] at h ⊢
          rw [e, nI_1] at h ⊢
          obtain ⟨m, h1, h2⟩ := rmN_mark (by omega) h
          exact ⟨k + 1, m, by omega, h1, h2⟩
        · rw [if_neg c3] at h; exact absurd h i1n0
    · rw [if_neg c1] at h ⊢
      rw [e] at h ⊢
      obtain ⟨m, h1, h2⟩ := rmN_mark (by omega) h
      exact ⟨k, m, by omega, h1, h2⟩
theorem nk_ne : ∀ k, k ≤ 7 → ¬ nI k = 8 ∧ ¬ nI k = 9 ∧ ¬ nI k = 10 := by decide +kernel
theorem hRun_mark {n i M h : Nat} {b : Nat → Int32} (z : (rm n b i).1.1 = 0) (hM : h < M) : hRun M [(rm n b i).2] h = some (h + 1) := by
  obtain ⟨k, m, hk, hm, e⟩ := rm_mark z
  obtain ⟨n8, n9, n10⟩ := nk_ne k hk
  rw [e, hRun, (stK_of (by omega) hm).1, if_neg n8, if_neg (fun q => q.elim n9 n10), if_pos hM, hRun]
theorem hRun_not {M h : Nat} (hh : 1 ≤ h) : hRun M [800000] h = some h := by
  rw [hRun, if_pos (by decide), if_pos hh, hRun]
theorem hRun_and {M h : Nat} (hh : 2 ≤ h) : hRun M [900000] h = some (h - 1) := by
  rw [hRun, if_neg (by decide), if_pos (by decide), if_pos hh, hRun]
theorem hRun_or {M h : Nat} (hh : 2 ≤ h) : hRun M [1000000] h = some (h - 1) := by
  rw [hRun, if_neg (by decide), if_pos (by decide), if_pos hh, hRun]
theorem rd_h (n : Nat) (b : Nat → Int32) (M : Nat) : ∀ f, (∀ dep i x y h, dep ≤ 8 → (rd n b f true dep i x y).1.1 = 0 → h + 17 ≤ M + 2 * dep → hRun M (rd n b f true dep i x y).2 h = some (h + 1)) ∧ (∀ dep i o a h, dep ≤ 8 → (rd n b f false dep i o a).1.1 = 0 → h + 19 ≤ M + 2 * dep → hRun M (rd n b f false dep i o a).2 (h + bN o + bN a) = some (h + 1)) := by
  intro f
  induction f with
  | zero => exact ⟨fun dep i x y h _ z => absurd z i1n0, fun dep i x y h _ z => absurd z i1n0⟩
  | succ f ih =>
    refine ⟨fun dep i x y h hd z hM => ?_, fun dep i o a h hd z hM => ?_⟩
    · by_cases hw : isW n b i 4 = true
      · by_cases h8 : dep < 8
        · by_cases e0 : (rd n b f true (dep + 1) (tE n b i) false false).1.1 = 0
          · rw [rd, if_pos hw, if_pos h8, if_pos e0] at z ⊢
            rw [hRun_app M _ _ _ _ (ih.1 (dep + 1) _ _ _ h (by omega) e0 (by omega))]
            exact hRun_not (by omega)
          · rw [rd, if_pos hw, if_pos h8, if_neg e0] at z; exact absurd z e0
        · rw [rd, if_pos hw, if_neg h8] at z; exact absurd z i2n0
      · by_cases hg : isG n b i 40 = true
        · by_cases h8 : dep < 8
          · by_cases e0 : (rd n b f false (dep + 1) (tE n b i) false false).1.1 = 0
            · by_cases g : isG n b (rd n b f false (dep + 1) (tE n b i) false false).1.2 41 = true
              · rw [rd, if_neg hw, if_pos hg, if_pos h8, if_pos e0, if_pos g]
                exact ih.2 (dep + 1) _ false false h (by omega) e0 (by omega)
              · rw [rd, if_neg hw, if_pos hg, if_pos h8, if_pos e0, if_neg g] at z; exact absurd z i1n0
            · rw [rd, if_neg hw, if_pos hg, if_pos h8, if_neg e0] at z; exact absurd z e0
          · rw [rd, if_neg hw, if_pos hg, if_neg h8] at z; exact absurd z i2n0
        · by_cases e0 : (rm n b i).1.1 = 0
          · rw [rd, if_neg hw, if_neg hg, if_pos e0]
            exact hRun_mark e0 (by omega)
          · rw [rd, if_neg hw, if_neg hg, if_neg e0] at z; exact absurd z e0
    · by_cases e0 : (rd n b f true dep i false false).1.1 = 0
      · have bo : bN o ≤ 1 := by cases o <;> decide
        have ba : bN a ≤ 1 := by cases a <;> decide
        have k1 := ih.1 dep i false false (h + bN o + bN a) hd e0 (by omega)
        have k2 : hRun M ((rd n b f true dep i false false).2 ++ (if a = true then [900000] else [])) (h + bN o + bN a) = some (h + bN o + 1) := by
          rw [hRun_app M _ _ _ _ k1]
          cases a with
          | false => rfl
          | true =>
            have : bN true = 1 := rfl
            rw [if_pos rfl, this, hRun_and (by omega)]
            congr 1
        by_cases w1 : isW n b (rd n b f true dep i false false).1.2 11 = true
        · rw [rd, if_pos e0, if_pos w1] at z ⊢
          rw [hRun_app M _ _ _ _ k2]
          exact ih.2 dep _ o true h hd z (by omega)
        · have k3 : hRun M ((rd n b f true dep i false false).2 ++ (if a = true then [900000] else []) ++ (if o = true then [1000000] else [])) (h + bN o + bN a) = some (h + 1) := by
            rw [hRun_app M _ _ _ _ k2]
            cases o with
            | false => rfl
            | true =>
              rw [if_pos rfl]
              have : bN true = 1 := rfl
              rw [this, hRun_or (by omega)]
              congr 1
          by_cases w2 : isW n b (rd n b f true dep i false false).1.2 12 = true
          · rw [rd, if_pos e0, if_neg w1, if_pos w2] at z ⊢
            rw [hRun_app M _ _ _ _ k3]
            exact ih.2 dep _ true false h hd z (by omega)
          · rw [rd, if_pos e0, if_neg w1, if_neg w2]
            exact k3
      · rw [rd, if_neg e0] at z; exact absurd z e0
theorem rdE_h {n i : Nat} {b : Nat → Int32} (z : (rdE n b i).1.1 = 0) : hRun 19 (rdE n b i).2 0 = some 1 := (rd_h n b 19 _).2 0 i false false 0 (by decide) z (by decide)
/-- bit i of a long -/
def lb (v : Int64) (i : Nat) : Bool := v.toBitVec.getLsbD i
theorem lb_or (x y : Int64) (i : Nat) : lb (x ||| y) i = (lb x i || lb y i) := by unfold lb; rw [Int64.toBitVec_or, BitVec.getLsbD_or]
theorem lb_and (x y : Int64) (i : Nat) : lb (x &&& y) i = (lb x i && lb y i) := by unfold lb; rw [Int64.toBitVec_and, BitVec.getLsbD_and]
theorem lb_xor (x y : Int64) (i : Nat) : lb (x ^^^ y) i = (lb x i ^^ lb y i) := by unfold lb; rw [Int64.toBitVec_xor, BitVec.getLsbD_xor]
theorem lb_1 : ∀ i, i < 64 → lb 1 i = decide (i = 0) := by decide +kernel
theorem lb_m2 : ∀ i, i < 64 → lb (-2) i = decide (i ≠ 0) := by decide +kernel
theorem lb_c0 : ∀ i, i < 64 → lb ((0 : Int32).toInt64) i = false := by decide +kernel
theorem lb_c1 : ∀ i, i < 64 → lb ((1 : Int32).toInt64) i = decide (i = 0) := by decide +kernel
theorem lb_shl (x : Int64) {i : Nat} (hi : i < 64) : lb (x <<< ((1 : Int32).toInt64 &&& 63)) i = (decide (1 ≤ i) && lb x (i - 1)) := by
  have h : (((1 : Int32).toInt64 &&& 63).toBitVec.smod 64).toNat = 1 := by decide
  show (x.toBitVec <<< (((1 : Int32).toInt64 &&& 63).toBitVec.smod 64).toNat).getLsbD i = _
  rw [h, BitVec.getLsbD_shiftLeft]
  rcases Nat.lt_or_ge i 1 with q | q
  · simp [q, Nat.not_le.mpr q]
  · simp [hi, q, Nat.not_lt.mpr q, lb]
theorem lb_shr (x : Int64) (i : Nat) : lb (x.toUInt64 >>> ((1 : Int32).toInt64.toUInt64 &&& Int64.toUInt64 63)).toInt64 i = lb x (i + 1) := by
  show (x.toUInt64 >>> ((1 : Int32).toInt64.toUInt64 &&& Int64.toUInt64 63)).toBitVec.getLsbD i = x.toUInt64.toBitVec.getLsbD (i + 1)
  have h : (((1 : Int32).toInt64.toUInt64 &&& Int64.toUInt64 63).toBitVec % 64).toNat = 1 := by decide
  rw [UInt64.toBitVec_shiftRight]
  show (x.toUInt64.toBitVec >>> (((1 : Int32).toInt64.toUInt64 &&& Int64.toUInt64 63).toBitVec % 64).toNat).getLsbD i = _
  rw [h, BitVec.getLsbD_ushiftRight, Nat.add_comm]
theorem lb_top (v : Int64) : (lg_cmp (v &&& 1) 1 = 0) ↔ lb v 0 = true := by
  rw [lg_cmp_eq]
  constructor
  · intro h
    have : lb (v &&& 1) 0 = lb 1 0 := by rw [h]
    rw [lb_and, lb_1 0 (by decide)] at this
    simpa using this
  · intro h
    apply Int64.toBitVec_inj.mp
    apply BitVec.eq_of_getLsbD_eq
    intro i hi
    show lb (v &&& 1) i = lb 1 i
    rw [lb_and, lb_1 i hi]
    by_cases q : i = 0
    · subst q; rw [h]; rfl
    · rw [decide_eq_false q, Bool.and_false]
/-- the long v holds the stack st in its low bits -/
def RepB (v : Int64) (st : List Bool) : Prop := ∀ i, i < st.length → lb v i = st.getD i false
theorem RepB.tl {v : Int64} {t : Bool} {r : List Bool} (h : RepB v (t :: r)) : ∀ i, i < r.length → lb v (i + 1) = r.getD i false := fun i hi => h (i + 1) (by simpa using hi)
theorem RepB.hd {v : Int64} {t : Bool} {r : List Bool} (h : RepB v (t :: r)) : lb v 0 = t := h 0 (by simp)
theorem rep_not {v : Int64} {t : Bool} {r : List Bool} (h : RepB v (t :: r)) (hl : r.length < 63) : RepB (v ^^^ 1) ((!t) :: r) := by
  intro i hi
  have h64 : i < 64 := by simp at hi; omega
  rw [lb_xor, lb_1 i h64]
  cases i with
  | zero => rw [h.hd]; cases t <;> rfl
  | succ i =>
    rw [h.tl i (by simpa using hi), decide_eq_false (Nat.succ_ne_zero i), Bool.xor_false]; rfl
theorem rep_push {v : Int64} {st : List Bool} (t : Bool) {c : Int64} (hc : ∀ i, i < 64 → lb c i = (decide (i = 0) && t)) (h : RepB v st) (hl : st.length < 63) : RepB ((v <<< ((1 : Int32).toInt64 &&& 63)) ||| c) (t :: st) := by
  intro i hi
  have h64 : i < 64 := by simp at hi; omega
  rw [lb_or, lb_shl v h64, hc i h64]
  cases i with
  | zero => simp
  | succ i =>
    have := h i (by simpa using hi)
    simp [this]
theorem rep_or {v : Int64} {t u : Bool} {r : List Bool} (h : RepB v (t :: u :: r)) (hl : r.length < 60) : RepB ((v.toUInt64 >>> ((1 : Int32).toInt64.toUInt64 &&& Int64.toUInt64 63)).toInt64 ||| (v &&& 1)) ((u || t) :: r) := by
  intro i hi
  have h64 : i < 64 := by simp at hi; omega
  rw [lb_or, lb_shr, lb_and, lb_1 i h64]
  cases i with
  | zero =>
    have h1 := h.tl 0 (by simp)
    rw [h.hd, h1]; simp
  | succ i =>
    have h1 := h.tl (i + 1) (by simpa using hi)
    rw [h1]; simp
theorem rep_and {v : Int64} {t u : Bool} {r : List Bool} (h : RepB v (t :: u :: r)) (hl : r.length < 60) : RepB ((v.toUInt64 >>> ((1 : Int32).toInt64.toUInt64 &&& Int64.toUInt64 63)).toInt64 &&& ((v &&& 1) ||| (-2))) ((u && t) :: r) := by
  intro i hi
  have h64 : i < 64 := by simp at hi; omega
  rw [lb_and, lb_shr, lb_or, lb_and, lb_1 i h64, lb_m2 i h64]
  cases i with
  | zero =>
    have h1 := h.tl 0 (by simp)
    rw [h.hd, h1]; simp
  | succ i =>
    have h1 := h.tl (i + 1) (by simpa using hi)
    rw [h1]; simp
/-- what the steps s say of one with the fields f -/
def valE (f : Nat → Int32) (s : List Int32) : Bool := (runB f s []).headD false
theorem a_suits {x p a : Nat} {s : List Int32} (hx : gR σ 2 5 x = some (25, a)) (hN : gN σ 25 a = s.length) (hA : ∀ j, j < s.length → gA σ 25 a j = s.getD j 0) (hlen : s.length ≤ 1000) :
    ∀ (r : List Int32) (v : Nat) (w : Int64) (st : List Bool), s.drop v = r → v + r.length = s.length → RepB w st → hRun 19 r st.length = some 1 → st.length ≤ 19 → post (some (xI (bI ((runB (fun f => gI σ 6 f p) r st).headD false)))) σ →
    AW G l M_X1_suits (d + 2) post σ kk nn 5 [some (xR (some (2, x))), some (xR (some (6, p))), some (xL w), none, some (xI (nI v)), none, none, none] [] := by
  intro r
  induction r with
  | nil =>
    intro v w st hv hl hw hh h19 h
    refine vc_X1_suits_5 (d := d + 1) ⟨a, hx, fun _ => ?_, fun c => ?_⟩
    · rw [hRun] at hh
      cases st with
      | nil => cases hh
      | cons t st =>
        have ht := hw.hd
        refine ⟨fun c => ?_, fun c => ?_⟩
        · have : t = false := by
            cases t
            · rfl
            · exact absurd ((lb_top w).mpr ht) c
          rw [this] at h; exact h
        · have : t = true := ht.symm.trans ((lb_top w).mp c)
          rw [this] at h; exact h
    · rw [hN] at c
      exact absurd (nI_le (show s.length ≤ v by simp at hl; omega) (by simp at hl; omega)) c
  | cons y r ih =>
    intro v w st hv hl hw hh h19 h
    have hvl : v < s.length := by simp at hl; omega
    have hy : gA σ 25 a v = y := by
      rw [hA v hvl, List.getD_eq_getElem?_getD]
      have := congrArg (fun t => t[0]?) hv
      simp only [List.getElem?_drop, Nat.add_zero] at this
      rw [this]; rfl
    have hv' : s.drop (v + 1) = r := by
      rw [← List.drop_drop, hv]; rfl
    have hl' : v + 1 + r.length = s.length := by simp at hl; omega
    rw [hRun] at hh
    refine vc_X1_suits_5 (d := d + 1) ⟨a, hx, fun c => ?_, fun c => ⟨?_, ?_⟩⟩
    · rw [hN] at c
      exact absurd ((nI_leI (by omega) (by omega)).mp c) (by omega)
    · rw [hN]; exact vp_in_nI hvl (by omega)
    · rw [nI_clamp (by omega), hy, nI_1]
      show ((¬ stK y = 8 → _) ∧ (stK y = 8 → _))
      refine ⟨fun c8 => ⟨fun c9 => ⟨fun c10 => ⟨?_, c_holds ?_⟩, fun c10 => ?_⟩, fun c9 => ?_⟩, fun c8 => ?_⟩
      · rw [hN]; exact vp_in_nI hvl (by omega)
      · have c9 : ¬ stK y = 9 := c9
        have c10 : ¬ stK y = 10 := c10
        rw [if_neg c8, if_neg (fun q => q.elim c9 c10)] at hh
        by_cases h1 : st.length < 19
        · rw [if_pos h1] at hh
          have e : step1 (fun f => gI σ 6 f p) y st = hB (fun f => gI σ 6 f p) (stK y) (stV y) :: st := by
            unfold step1; rw [if_neg c8, if_neg c9, if_neg c10]
          rw [runB, e] at h
          refine ⟨fun q => ?_, fun q => ?_⟩
          · have q : hB (fun f => gI σ 6 f p) (stK y) (stV y) = false := bI_eq.mp q
            rw [q] at h
            exact ih (v + 1) _ _ hv' hl' (rep_push false (fun i hi => by rw [lb_c0 i hi, Bool.and_false]) hw (by omega)) hh (by simp; omega) h
          · have q : hB (fun f => gI σ 6 f p) (stK y) (stV y) = true := bI_ne.mp q
            rw [q] at h
            exact ih (v + 1) _ _ hv' hl' (rep_push true (fun i hi => by rw [lb_c1 i hi, Bool.and_true]) hw (by omega)) hh (by simp; omega) h
        · rw [if_neg h1] at hh; cases hh
      · have c9 : ¬ stK y = 9 := c9
        have c10 : stK y = 10 := c10
        rw [if_neg c8, if_pos (Or.inr c10)] at hh
        by_cases h2 : 2 ≤ st.length
        · rw [if_pos h2] at hh
          match st, h2 with
          | t :: u :: st, _ =>
            have e : step1 (fun f => gI σ 6 f p) y (t :: u :: st) = (u || t) :: st := by
              unfold step1; rw [if_neg c8, if_neg c9, if_pos c10]
            rw [runB, e] at h
            simp only [List.length_cons] at hh h19
            exact ih (v + 1) _ _ hv' hl' (rep_or hw (by omega)) hh (by simp; omega) h
        · rw [if_neg h2] at hh; cases hh
      · have c9 : stK y = 9 := c9
        rw [if_neg c8, if_pos (Or.inl c9)] at hh
        by_cases h2 : 2 ≤ st.length
        · rw [if_pos h2] at hh
          match st, h2 with
          | t :: u :: st, _ =>
            have e : step1 (fun f => gI σ 6 f p) y (t :: u :: st) = (u && t) :: st := by
              unfold step1; rw [if_neg c8, if_pos c9]
            rw [runB, e] at h
            simp only [List.length_cons] at hh h19
            exact ih (v + 1) _ _ hv' hl' (rep_and hw (by omega)) hh (by simp; omega) h
        · rw [if_neg h2] at hh; cases hh
      · rw [if_pos c8] at hh
        by_cases h1 : 1 ≤ st.length
        · rw [if_pos h1] at hh
          match st, h1 with
          | t :: st, _ =>
            have e : step1 (fun f => gI σ 6 f p) y (t :: st) = (!t) :: st := by
              unfold step1; rw [if_pos c8]
            rw [runB, e] at h
            simp only [List.length_cons] at h19
            exact ih (v + 1) _ _ hv' hl' (rep_not hw (by omega)) hh h19 h
        · rw [if_neg h1] at hh; cases hh
/-- ask x's steps are s -/
def StepsR (σ : AS) (x : Nat) (s : List Int32) : Prop := ∃ a, gR σ 2 5 x = some (25, a) ∧ a < cnt σ 25 ∧ gN σ 25 a = s.length ∧ s.length ≤ 1000 ∧ (∀ j, j < s.length → gA σ 25 a j = s.getD j 0) ∧ hRun 19 s 0 = some 1
theorem c_suits {x p : Nat} {s : List Int32} (hs : StepsR σ x s) (h : post (some (xI (bI (valE (fun f => gI σ 6 f p) s)))) σ) : AMet G l M_X1_suits (d + 2) 0 0 [xR (some (2, x)), xR (some (6, p))] σ post := by
  obtain ⟨a, h1, h2, h3, h4, h5, h6⟩ := hs
  refine AMet.of rfl (Nat.le_of_ble_eq_true rfl) (vc_X1_suits (d := d + 1) ?_)
  have k := a_suits (G := G) (l := l) (d := d) (post := post) (kk := 0) (nn := 0) (p := p) h1 h3 h5 h4 s 0 0 [] rfl (by omega) (fun i hi => absurd hi (Nat.not_lt_zero i)) h6 (by decide) h
  rw [nI_0] at k
  exact k
/-- whether ask x is open to p on a day -/
def opn (f : Nat → Int32) (s : List Int32) (call day : Int32) : Bool := if f 6 = 0 then (if 1440 * day + call < f 8 then false else valE f s) else false
theorem c_isOpenTo {x p : Nat} {s : List Int32} {day : Int32} (hs : StepsR σ x s) (h : post (some (xI (bI (opn (fun f => gI σ 6 f p) s (gI σ 2 2 x) day)))) σ) : AMet G l M_X1_isOpenTo (d + 3) 0 0 [xR (some (2, x)), xR (some (6, p)), xI day] σ post := by
  refine AMet.of rfl (Nat.le_of_ble_eq_true rfl) (vc_X1_isOpenTo (d := d + 2) ⟨fun c => ?_, fun c => ⟨fun c2 => ?_, fun c2 => c_suits hs ⟨fun z => ?_, fun z => ?_⟩⟩⟩)
  · rw [opn, if_neg c] at h; exact h
  · rw [opn, if_pos c, if_pos c2] at h; exact h
  · rw [opn, if_pos c, if_neg c2, bI_eq.mp z] at h; exact h
  · rw [opn, if_pos c, if_neg c2, bI_ne.mp z] at h; exact h
end SUITS
