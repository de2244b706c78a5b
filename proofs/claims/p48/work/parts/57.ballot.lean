/-! ballots -/
def sumN (f : Int → Int) (n : Nat) : Int := ita (fun g s => s + f g) n 0 0
theorem sumN_0 (f : Int → Int) : sumN f 0 = 0 := rfl
theorem sumN_s (f : Int → Int) (n : Nat) : sumN f (n + 1) = sumN f n + f n := by
  unfold sumN
  rw [ita_succ, Int.zero_add]
theorem sumN_congr {f g : Int → Int} : ∀ n : Nat, (∀ i : Int, 0 ≤ i → i < n → f i = g i) → sumN f n = sumN g n
  | 0, _ => rfl
  | n + 1, h => by rw [sumN_s, sumN_s, sumN_congr n (fun i a b => h i a (by omega)), h n (by omega) (by omega)]
theorem sumN_add {f g : Int → Int} : ∀ n : Nat, sumN (fun i => f i + g i) n = sumN f n + sumN g n
  | 0 => rfl
  | n + 1 => by
    rw [sumN_s, sumN_s, sumN_s, sumN_add n]
    omega
theorem sumN_pt {a v : Int} : ∀ n : Nat, sumN (fun g => if g = a then v else 0) n = if 0 ≤ a ∧ a < n then v else 0
  | 0 => by rw [sumN_0, if_neg (by omega)]
  | n + 1 => by
    rw [sumN_s, sumN_pt n]
    by_cases h : (n : Int) = a
    · rw [if_neg (by omega), if_pos h, if_pos (by omega)]; omega
    · rw [if_neg h]
      by_cases h2 : 0 ≤ a ∧ a < n
      · rw [if_pos h2, if_pos (by omega)]; omega
      · rw [if_neg h2, if_neg (by omega)]; omega
theorem sumN_nn {f : Int → Int} (h : ∀ i, 0 ≤ f i) : ∀ n m : Nat, n ≤ m → 0 ≤ sumN f n ∧ sumN f n ≤ sumN f m := by
  intro n m hnm
  have h0 : ∀ k : Nat, 0 ≤ sumN f k := by
    intro k
    induction k with
    | zero => exact Int.le_refl 0
    | succ k ih => rw [sumN_s]; have := h k; omega
  refine ⟨h0 n, ?_⟩
  induction m with
  | zero => rw [show n = 0 by omega]; exact Int.le_refl _
  | succ m ih =>
    by_cases e : n = m + 1
    · rw [e]; exact Int.le_refl _
    · rw [sumN_s]; have := h m; have := ih (by omega); omega
theorem sCnt_nn (p : Int → Prop) [∀ k, Decidable (p k)] : ∀ n : Nat, 0 ≤ sCnt (n : Int) p ∧ sCnt (n : Int) p ≤ n
  | 0 => ⟨Int.le_refl 0, Int.le_refl 0⟩
  | n + 1 => by
    have := sCnt_nn p n
    rw [sCnt_succ]
    split <;> omega
/-- votes counted by grade are the votes -/
theorem sum_cnt {v : Int → Int} : ∀ n : Nat, (∀ m : Int, 0 ≤ m → m < (n : Int) → -1 ≤ v m ∧ v m ≤ 29) → sumN (fun g => sCnt (n : Int) (fun m => v m = g)) 30 = sCnt (n : Int) (fun m => v m ≠ -1)
  | 0, _ => by
    rw [sCnt_0, sumN_congr (g := fun _ => 0) 30 (fun i _ _ => sCnt_0 _)]
    decide
  | n + 1, h => by
    have ih := sum_cnt (v := v) n (fun m a b => h m a (by omega))
    have hn := h n (by omega) (by omega)
    rw [sCnt_succ, sumN_congr (g := fun g => sCnt (n : Int) (fun m => v m = g) + (if g = v n then 1 else 0)) 30 (fun i _ _ => by
      rw [sCnt_succ]
      by_cases q : v n = i
      · rw [if_pos q, if_pos q.symm]
      · rw [if_neg q, if_neg (fun w => q w.symm), Int.add_zero]), sumN_add, ih, sumN_pt]
    by_cases q : v n = -1
    · rw [if_neg (by omega), if_neg (fun w => w q), Int.add_zero]
    · rw [if_pos (by omega), if_pos q]
/-- the trimmed sum: how many were seen, the sum -/
def tF (D T : Int) (b : Int → Int) (g : Int) (q : Int × Int) : Int × Int := (q.1 + b g, q.2 + max 0 (min (q.1 + b g) (T - D) - max q.1 D) * g)
theorem tF_1 {D T : Int} {b : Int → Int} : ∀ n : Nat, (ita (tF D T b) n 0 (0, 0)).1 = sumN b n
  | 0 => rfl
  | n + 1 => by
    rw [ita_succ, sumN_s, Int.zero_add, ← tF_1 (D := D) (T := T) n]
    rfl
def sSet1 (r : Row) (k : Int) : Int := r (38 + 18 * k + 1)
def sb (r : Row) (k gr mo g : Int) : Int := sCnt (r 546) (fun m => sVote r k m = g) + (if g = sSet1 r k then r 1 else 0) + (if g = gr then mo else 0)
def sT0 (r : Row) (k mo : Int) : Int := sVotes r k + r 1 + mo
def fb (r : Row) (k gr mo g : Int) : Int := if sT0 r k mo = 0 then sb r k gr mo g + (if g = sSet1 r k then 1 else 0) else sb r k gr mo g
def fT (r : Row) (k mo : Int) : Int := if sT0 r k mo = 0 then 1 else sT0 r k mo
def sDr (r : Row) (k mo : Int) : Int := fT r k mo * r 0 / 100
def sS (r : Row) (k gr mo : Int) : Int := (ita (tF (sDr r k mo) (fT r k mo) (fb r k gr mo)) 30 0 (0, 0)).2
def sK (r : Row) (k mo : Int) : Int := fT r k mo - sDr r k mo - sDr r k mo
def sG (r : Row) (k gr mo : Int) : Int := (2 * sS r k gr mo + sK r k mo) / (2 * sK r k mo)
theorem sb_ok {B : Int} {r : Row} (hI : IH B r) {k gr mo : Int} (hk : 0 ≤ k ∧ k < r 37) (hg : 0 ≤ gr ∧ gr < 30) (hm : 0 ≤ mo ∧ mo ≤ 20) : (∀ g, 0 ≤ sb r k gr mo g) ∧ sumN (sb r k gr mo) 30 = sT0 r k mo ∧ 0 ≤ sT0 r k mo ∧ sT0 r k mo ≤ 42 := by
  have hn := hI.1
  unfold IHn at hn
  have hr := hI.2.2.1 k hk.1 hk.2
  have hN : ((r 546).toNat : Int) = r 546 := Int.toNat_of_nonneg (by omega)
  have hc : ∀ g, 0 ≤ sCnt (r 546) (fun m => sVote r k m = g) ∧ sCnt (r 546) (fun m => sVote r k m = g) ≤ r 546 := by
    intro g
    have := sCnt_nn (fun m => sVote r k m = g) (r 546).toNat
    rw [hN] at this
    exact this
  have hv : 0 ≤ sVotes r k ∧ sVotes r k ≤ r 546 := by
    have := sCnt_nn (fun m => r (38 + 18 * k + (6 + m)) ≠ -1) (r 546).toNat
    rw [hN] at this
    exact this
  refine ⟨fun g => ?_, ?_, by unfold sT0; omega, by unfold sT0; omega⟩
  · unfold sb
    have := hc g
    split <;> split <;> omega
  · have e : sumN (sb r k gr mo) 30 = sumN (fun g => sCnt (r 546) (fun m => sVote r k m = g)) 30 + sumN (fun g => if g = sSet1 r k then r 1 else 0) 30 + sumN (fun g => if g = gr then mo else 0) 30 := by
      rw [← sumN_add, ← sumN_add]
      rfl
    have h1 := sum_cnt (v := sVote r k) (r 546).toNat (fun m a b => hr.2.2.2.2.2 m a (by omega))
    rw [hN] at h1
    rw [e, h1, sumN_pt, sumN_pt, if_pos (by unfold sSet1; omega), if_pos (by omega)]
    rfl
theorem fb_ok {B : Int} {r : Row} (hI : IH B r) {k gr mo : Int} (hk : 0 ≤ k ∧ k < r 37) (hg : 0 ≤ gr ∧ gr < 30) (hm : 0 ≤ mo ∧ mo ≤ 20) : (∀ g, 0 ≤ fb r k gr mo g) ∧ sumN (fb r k gr mo) 30 = fT r k mo ∧ 1 ≤ fT r k mo ∧ fT r k mo ≤ 42 := by
  have h := sb_ok hI hk hg hm
  have hr := hI.2.2.1 k hk.1 hk.2
  by_cases q : sT0 r k mo = 0
  · have e : fb r k gr mo = fun g => sb r k gr mo g + (if g = sSet1 r k then 1 else 0) := by funext g; unfold fb; rw [if_pos q]
    have e2 : fT r k mo = 1 := by unfold fT; rw [if_pos q]
    rw [e, e2]
    refine ⟨fun g => ?_, ?_, by omega, by omega⟩
    · have := h.1 g
      (try dsimp only)
      split <;> omega
    · rw [sumN_add, h.2.1, q, sumN_pt, if_pos (by unfold sSet1; omega)]
      rfl
  · have e : fb r k gr mo = sb r k gr mo := by funext g; unfold fb; rw [if_neg q]
    have e2 : fT r k mo = sT0 r k mo := by unfold fT; rw [if_neg q]
    rw [e, e2]
    exact ⟨h.1, h.2.1, by omega, h.2.2.2⟩
theorem sD_ok {B : Int} {r : Row} (hI : IH B r) {k gr mo : Int} (hk : 0 ≤ k ∧ k < r 37) (hg : 0 ≤ gr ∧ gr < 30) (hm : 0 ≤ mo ∧ mo ≤ 20) : 0 ≤ sDr r k mo ∧ 2 * sDr r k mo < fT r k mo ∧ 0 ≤ fT r k mo * r 0 ∧ fT r k mo * r 0 ≤ 1680 := by
  have h := fb_ok hI hk hg hm
  have hn := hI.1
  unfold IHn at hn
  have h1 : 0 ≤ fT r k mo * r 0 := Int.mul_nonneg (by omega) (by omega)
  have h2 : fT r k mo * r 0 ≤ fT r k mo * 40 := Int.mul_le_mul_of_nonneg_left (by omega) (by omega)
  unfold sDr
  omega
/-- bounds of the sum on the way -/
theorem tF_2 {D T : Int} {b : Int → Int} (hb : ∀ g, 0 ≤ b g) (hT : sumN b 30 = T) (hD : 0 ≤ D ∧ 2 * D < T) : ∀ n : Nat, n ≤ 30 → 0 ≤ (ita (tF D T b) n 0 (0, 0)).2 ∧ (ita (tF D T b) n 0 (0, 0)).2 ≤ 29 * max 0 (min (sumN b n) (T - D) - D)
  | 0, _ => by
    show (0 : Int) ≤ 0 ∧ (0 : Int) ≤ 29 * max 0 (min 0 (T - D) - D)
    omega
  | n + 1, h => by
    have ih := tF_2 hb hT hD n (by omega)
    have h1 := sumN_nn hb n 30 (by omega)
    have h2 := sumN_nn hb (n + 1) 30 h
    rw [ita_succ, Int.zero_add]
    show 0 ≤ (ita (tF D T b) n 0 (0, 0)).2 + max 0 (min ((ita (tF D T b) n 0 (0, 0)).1 + b n) (T - D) - max (ita (tF D T b) n 0 (0, 0)).1 D) * (n : Int) ∧ (ita (tF D T b) n 0 (0, 0)).2 + max 0 (min ((ita (tF D T b) n 0 (0, 0)).1 + b n) (T - D) - max (ita (tF D T b) n 0 (0, 0)).1 D) * (n : Int) ≤ _
    rw [tF_1, sumN_s] at *
    have hbn := hb n
    generalize hx : max 0 (min (sumN b n + b n) (T - D) - max (sumN b n) D) = x at *
    have hx0 : 0 ≤ x := by omega
    have hxn : x * (n : Int) ≤ x * 29 := Int.mul_le_mul_of_nonneg_left (by omega) hx0
    have hxp : 0 ≤ x * (n : Int) := Int.mul_nonneg hx0 (by omega)
    omega
theorem sS_ok {B : Int} {r : Row} (hI : IH B r) {k gr mo : Int} (hk : 0 ≤ k ∧ k < r 37) (hg : 0 ≤ gr ∧ gr < 30) (hm : 0 ≤ mo ∧ mo ≤ 20) : 0 ≤ sS r k gr mo ∧ sS r k gr mo ≤ 29 * sK r k mo ∧ 1 ≤ sK r k mo ∧ sK r k mo ≤ 42 := by
  have h := fb_ok hI hk hg hm
  have hd := sD_ok hI hk hg hm
  have := tF_2 h.1 h.2.1 ⟨hd.1, hd.2.1⟩ 30 (by omega)
  rw [h.2.1] at this
  unfold sS sK
  omega
theorem sG_ok {B : Int} {r : Row} (hI : IH B r) {k gr mo : Int} (hk : 0 ≤ k ∧ k < r 37) (hg : 0 ≤ gr ∧ gr < 30) (hm : 0 ≤ mo ∧ mo ≤ 20) : 0 ≤ sG r k gr mo ∧ sG r k gr mo ≤ 29 := by
  have h := sS_ok hI hk hg hm
  unfold sG
  refine ⟨Int.ediv_nonneg (by omega) (by omega), ?_⟩
  have : (2 * sS r k gr mo + sK r k mo) / (2 * sK r k mo) < 30 := Int.ediv_lt_of_lt_mul (by omega) (by omega)
  omega
/-! the class's ballot -/
abbrev F12 : Nat → Prop := fun a => a = 1 ∨ a = 2
def CB (z : ZZ) (b : Int → Int) (t : Int) : Prop := (∀ g, 0 ≤ g → g < 30 → z 2 g = b g) ∧ z 1 1 = t
theorem c_addVotes {z : ZZ} {b : Int → Int} {t g v : Int} (h : CB z b t) (hg : 0 ≤ g ∧ g < 30) (hb : 0 ≤ b g ∧ b g ≤ 1000) (ht : 0 ≤ t ∧ t ≤ 1000) (hv : 0 ≤ v ∧ v ≤ 100) : ∃ z', fX0_addVotes g v z = some z' ∧ CB z' (rup b g (b g + v)) (t + v) ∧ Fra F12 z z' := by
  have e := h.1 g hg.1 hg.2
  refine ⟨zup (zup z 2 g (b g + v)) 1 1 (t + v), ?_, ⟨fun x h1 h2 => ?_, ?_⟩, fun a ha => ?_⟩
  · have e1 : (zup z 2 g (b g + v)) 1 1 = t := by rw [zup_ne (by decide)]; exact h.2
    unfold fX0_addVotes zl
    dsimp only
    rw [if_neg (by omega), if_pos hg.2, e, if_pos (inR_s (by omega)), e1, if_pos (inR_s (by omega))]
  · rw [zup_ne (by decide), zup_at]
    unfold rup
    split
    · rfl
    · exact h.1 x h1 h2
  · rw [zup_at, if_pos rfl]
  · rw [zup_ne (fun q => ha (Or.inl q)), zup_ne (fun q => ha (Or.inr q))]
theorem c_addVotes_no {z : ZZ} {g v : Int} (hg : g < 0) : fX0_addVotes g v z = some z := by
  unfold fX0_addVotes
  rw [if_pos hg]
theorem c_bclear {z : ZZ} : ∃ z', fX0_clear z = some z' ∧ CB z' (fun _ => 0) 0 ∧ Fra F12 z z' := by
  have key := lp_forI (step := fun q => fX0_clear_s7 q.1 q.2) (fun i (a : ZZ) => (i, a)) (fun i a => zup a 2 i 0) (fun a => a) (fun i a => (∀ g, 0 ≤ g → g < i → a 2 g = 0) ∧ a 1 1 = 0 ∧ Fra F12 z a) 0 30 (zup z 1 1 0) (by omega) (by omega) ⟨fun g a b => by omega, by rw [zup_at, if_pos rfl], fun a ha => zup_ne (fun q => ha (Or.inl q))⟩ (fun i a h1 h2 h => by
    have g : inR (i + 1) := inR_s (by omega)
    refine ⟨?_, fun g' b1 b2 => ?_, ?_, fun x hx => ?_⟩
    · show fX0_clear_s7 i a = _
      simp only [fX0_clear_s7, if_pos h2, if_pos (show 0 ≤ i ∧ i < 30 by omega), zl, if_pos g]
    · rw [zup_at]
      split
      · rfl
      · exact h.1 g' b1 (by omega)
    · rw [zup_ne (by decide)]
      exact h.2.1
    · rw [zup_ne (fun q => hx (Or.inr q))]
      exact h.2.2 x hx) (fun a h => by
    show fX0_clear_s7 30 a = _
    simp only [fX0_clear_s7, if_neg (Int.lt_irrefl 30)])
  refine ⟨_, ?_, ⟨key.2.1, key.2.2.1⟩, key.2.2.2⟩
  unfold fX0_clear zl
  dsimp only
  rw [show zlp (fun q => fX0_clear_s7 q.1 q.2) FU (0, zup z 1 1 0) = _ from key.1]
  rfl
theorem RC_fra {z z' : ZZ} {r : Row} (h : RC z r) (hf : ∀ a, 3 ≤ a → a < 16 → z' a = z a) : RC z' r := by
  unfold RC TL TH at *
  simp only [hf 3 (by decide) (by decide), hf 4 (by decide) (by decide), hf 5 (by decide) (by decide), hf 6 (by decide) (by decide), hf 7 (by decide) (by decide), hf 8 (by decide) (by decide), hf 9 (by decide) (by decide), hf 10 (by decide) (by decide), hf 11 (by decide) (by decide), hf 12 (by decide) (by decide), hf 13 (by decide) (by decide), hf 14 (by decide) (by decide), hf 15 (by decide) (by decide)]
  exact h
theorem RC_12 {z z' : ZZ} {r : Row} (h : RC z r) (hf : Fra F12 z z') : RC z' r := RC_fra h (fun a h1 _ => hf a (by unfold F12; omega))
theorem Fra_trans {A : Nat → Prop} {z z' z'' : ZZ} (h1 : Fra A z z') (h2 : Fra A z' z'') : Fra A z z'' := fun a ha => (h2 a ha).trans (h1 a ha)
theorem rup_at {r : Row} {k v j : Int} : rup r k v j = if j = k then v else r j := rfl
theorem c_trim {z : ZZ} {b : Int → Int} {T tr : Int} (h : CB z b T) (hb : ∀ g, 0 ≤ b g) (hT : sumN b 30 = T) (hT2 : 1 ≤ T ∧ T ≤ 42) (htr : 0 ≤ T * tr ∧ T * tr ≤ 1680) (hD : 2 * (T * tr / 100) < T) :
    ∃ z', fX0_trimEnds tr z = some z' ∧ Fra F12 z z' ∧ z' 1 2 = (ita (tF (T * tr / 100) T b) 30 0 (0, 0)).2 ∧ z' 1 3 = T - T * tr / 100 - T * tr / 100 := by
  have hD0 : 0 ≤ T * tr / 100 := by omega
  generalize hDD : T * tr / 100 = D at *
  have key := lp_forI (step := fun q => fX0_trimEnds_s35 D (T - D) q.1 q.2.1 q.2.2) (fun i (a : Int × ZZ) => (a.1, i, a.2)) (fun i a => (a.1 + b i, if max a.1 D < min (a.1 + b i) (T - D) then zup a.2 1 2 (a.2 1 2 + (min (a.1 + b i) (T - D) - max a.1 D) * i) else a.2)) (fun a => a.2)
    (fun i a => a.1 = (ita (tF D T b) i.toNat 0 (0, 0)).1 ∧ a.2 1 2 = (ita (tF D T b) i.toNat 0 (0, 0)).2 ∧ a.2 1 3 = T - D - D ∧ (∀ g, 0 ≤ g → g < 30 → a.2 2 g = b g) ∧ Fra F12 z a.2) 0 30 (0, zup (zup z 1 3 (T - D - D)) 1 2 0) (by omega) (by omega) (by
      refine ⟨rfl, ?_, ?_, fun g h1 h2 => ?_, fun a ha => ?_⟩
      · show zup (zup z 1 3 (T - D - D)) 1 2 0 1 2 = 0
        rw [zup_at, if_pos rfl]
      · show zup (zup z 1 3 (T - D - D)) 1 2 0 1 3 = _
        rw [zup_at, if_neg (by decide), zup_at, if_pos rfl]
      · show zup (zup z 1 3 (T - D - D)) 1 2 0 2 g = _
        rw [zup_ne (by decide), zup_ne (by decide)]
        exact h.1 g h1 h2
      · show zup (zup z 1 3 (T - D - D)) 1 2 0 a = _
        rw [zup_ne (fun q => ha (Or.inl q)), zup_ne (fun q => ha (Or.inl q))]) (fun i a h1 h2 hp => by
    obtain ⟨p1, p2, p3, p4, p5⟩ := hp
    have g : inR (i + 1) := inR_s (by omega)
    have ei : (i + 1).toNat = i.toNat + 1 := by omega
    have eN : ((i.toNat : Nat) : Int) = i := Int.toNat_of_nonneg h1
    have hs := sumN_nn hb i.toNat 30 (by omega)
    have hs2 := sumN_nn hb (i.toNat + 1) 30 (by omega)
    have hsum := tF_2 hb hT ⟨hD0, hD⟩ i.toNat (by omega)
    have hsum2 := tF_2 hb hT ⟨hD0, hD⟩ (i.toNat + 1) (by omega)
    rw [tF_1] at p1
    rw [sumN_s, eN] at hs2
    have e2 : (ita (tF D T b) (i.toNat + 1) 0 (0, 0)).2 = a.2 1 2 + max 0 (min (a.1 + b i) (T - D) - max a.1 D) * i := by
      rw [ita_succ, Int.zero_add, eN]
      show (ita (tF D T b) i.toNat 0 (0, 0)).2 + max 0 (min ((ita (tF D T b) i.toNat 0 (0, 0)).1 + b i) (T - D) - max (ita (tF D T b) i.toNat 0 (0, 0)).1 D) * i = _
      rw [p2, tF_1, p1]
    have hbi := hb i
    have g1 : inR (a.1 + b i) := inR_s (by omega)
    have eb : a.2 2 i = b i := p4 i h1 h2
    refine ⟨?_, ?_, ?_, ?_, ?_, ?_⟩
    · have hfr : (if D < a.1 then a.1 else D) = max a.1 D := by split <;> omega
      have hto : (if a.1 + b i < T - D then a.1 + b i else T - D) = min (a.1 + b i) (T - D) := by split <;> omega
      have hb83 : fX0_trimEnds_b83 D (T - D) (a.1 + b i) i (max a.1 D) (min (a.1 + b i) (T - D)) a.2 = some (Sum.inl (a.1 + b i, i + 1, if max a.1 D < min (a.1 + b i) (T - D) then zup a.2 1 2 (a.2 1 2 + (min (a.1 + b i) (T - D) - max a.1 D) * i) else a.2)) := by
        unfold fX0_trimEnds_b83 fX0_trimEnds_b109 zl
        dsimp only
        rw [if_pos g, if_pos g]
        by_cases q : max a.1 D < min (a.1 + b i) (T - D)
        · rw [if_pos q, if_pos q]
          rw [show max 0 (min (a.1 + b i) (T - D) - max a.1 D) = min (a.1 + b i) (T - D) - max a.1 D by omega] at e2
          rw [if_pos (inR_s (by rw [← e2]; omega))]
        · rw [if_neg q, if_neg q]
      have hb57 : ∀ x, x = max a.1 D → fX0_trimEnds_b57 D (T - D) a.1 i x a.2 = some (Sum.inl (a.1 + b i, i + 1, if max a.1 D < min (a.1 + b i) (T - D) then zup a.2 1 2 (a.2 1 2 + (min (a.1 + b i) (T - D) - max a.1 D) * i) else a.2)) := by
        intro x hx
        subst hx
        unfold fX0_trimEnds_b57
        rw [if_pos (show 0 ≤ i ∧ i < 30 by omega), eb, if_pos g1]
        by_cases q : a.1 + b i < T - D
        · rw [if_pos q]
          rw [show min (a.1 + b i) (T - D) = a.1 + b i by omega] at hb83
          rw [hb83, show min (a.1 + b i) (T - D) = a.1 + b i by omega]
        · rw [if_neg q]
          rw [show min (a.1 + b i) (T - D) = T - D by omega] at hb83
          rw [hb83, show min (a.1 + b i) (T - D) = T - D by omega]
      show fX0_trimEnds_s35 D (T - D) a.1 i a.2 = _
      unfold fX0_trimEnds_s35
      rw [if_pos h2]
      by_cases q : D < a.1
      · rw [if_pos q]
        exact hb57 _ (by omega)
      · rw [if_neg q]
        exact hb57 _ (by omega)
    · show a.1 + b i = _
      rw [ei, tF_1, sumN_s, eN, p1]
    · show (if max a.1 D < min (a.1 + b i) (T - D) then zup a.2 1 2 (a.2 1 2 + (min (a.1 + b i) (T - D) - max a.1 D) * i) else a.2) 1 2 = _
      rw [ei, e2]
      by_cases q : max a.1 D < min (a.1 + b i) (T - D)
      · rw [if_pos q, zup_at, if_pos rfl, show max 0 (min (a.1 + b i) (T - D) - max a.1 D) = min (a.1 + b i) (T - D) - max a.1 D by omega]
      · rw [if_neg q, show max 0 (min (a.1 + b i) (T - D) - max a.1 D) = 0 by omega, Int.zero_mul, Int.add_zero]
    · show (if max a.1 D < min (a.1 + b i) (T - D) then zup a.2 1 2 (a.2 1 2 + (min (a.1 + b i) (T - D) - max a.1 D) * i) else a.2) 1 3 = _
      split
      · rw [zup_at, if_neg (by decide)]
        exact p3
      · exact p3
    · intro g' b1 b2
      show (if max a.1 D < min (a.1 + b i) (T - D) then zup a.2 1 2 (a.2 1 2 + (min (a.1 + b i) (T - D) - max a.1 D) * i) else a.2) 2 g' = _
      split
      · rw [zup_ne (by decide)]
        exact p4 g' b1 b2
      · exact p4 g' b1 b2
    · intro x hx
      show (if max a.1 D < min (a.1 + b i) (T - D) then zup a.2 1 2 (a.2 1 2 + (min (a.1 + b i) (T - D) - max a.1 D) * i) else a.2) x = _
      split
      · rw [zup_ne (fun q => hx (Or.inl q))]
        exact p5 x hx
      · exact p5 x hx) (fun a hp => by
    show fX0_trimEnds_s35 D (T - D) a.1 30 a.2 = _
    simp only [fX0_trimEnds_s35, if_neg (Int.lt_irrefl 30)])
  refine ⟨_, ?_, key.2.2.2.2.2, key.2.2.1, key.2.2.2.1⟩
  unfold fX0_trimEnds zl
  dsimp only
  rw [h.2, if_pos (inR_s (by omega)), if_pos (by omega), hDD, if_pos (inR_s (by omega))]
  have e11 : zup (zup z 1 3 (T - D - D)) 1 2 0 1 1 = T := by rw [zup_at, if_neg (by decide), zup_at, if_neg (by decide)]; exact h.2
  have e11' : zup z 1 3 (T - D - D) 1 1 = T := by rw [zup_at, if_neg (by decide)]; exact h.2
  rw [if_pos (inR_s (by omega))]
  rw [show zlp (fun q => fX0_trimEnds_s35 D (T - D) q.1 q.2.1 q.2.2) FU (0, 0, zup (zup z 1 3 (T - D - D)) 1 2 0) = _ from key.1]
  rfl
