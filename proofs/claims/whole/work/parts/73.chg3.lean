/-! lending and giving back -/
section CH
variable {z : ZZ} {r : Row} {B v1 v2 v3 : Int}
abbrev sLend (r : Row) (m k : Int) : Prop := r (547 + 6 * m + 3) = -1 ∧ r (547 + 6 * m + 0) = r (471 + 5 * k + 0) ∧ sLendable r k
theorem m_mayLend (hM : z 154 = r) (hI : IH B r) (q1 : 0 ≤ v1 ∧ v1 < r 546) (q2 : 0 ≤ v2 ∧ v2 < r 470) : fX6_mayLend v1 v2 z = some (bI (sLend r v1 v2)) := by
  have hn := hI.1
  unfold IHn at hn
  unfold fX6_mayLend fX6_mayLend_b20
  rw [mg12 hM (by omega), mg10 hM (by omega)]
  simp only [Option.bind_some, mg12 hM (k := v1) (c := 3) (by omega), m_isLent hM hI q2, hM, m_isInForce hM hI q2, ite_bI]
  by_cases a : r (547 + 6 * v1 + 0) = r (471 + 5 * v2 + 0)
  · rw [if_pos a]
    by_cases b : r (547 + 6 * v1 + 3) = -1
    · rw [if_pos b, if_neg (show ¬ (1 : Int) = 0 by decide)]
      by_cases c : sLent r v2
      · rw [if_pos c, bI_f (fun w => w.2.2.1 c)]
      · rw [if_neg c]
        by_cases d : sForce r v2 (r 3)
        · rw [if_pos d, bI_t ⟨b, a, c, d⟩]
        · rw [if_neg d, bI_f (fun w => d w.2.2.2)]
    · rw [if_neg b, bI_f (fun w => b w.1)]
  · rw [if_neg a, bI_f (fun w => a w.2.1)]
    by_cases b : r (547 + 6 * v1 + 3) = -1
    · rw [if_pos b, if_pos True.intro]
    · rw [if_neg b]
theorem g_lend (hI : IH B r) (q1 : 0 ≤ v1 ∧ v1 < r 546) (q2 : 0 ≤ v2 ∧ v2 < r 470) (q3 : sLend r v1 v2) : ∃ r' v, Chg r r' v (fL_lend v1 v2) (fX6_lend v1 v2) ∧ IH B r' := by
  have hn := hI.1
  unfold IHn at hn
  have hh := hI.2.2.2.1
  have I2 : IH B (rup (rup r (547 + 6 * v1 + 3) v2) (471 + 5 * v2 + 4) 1) := by
    have hno : ∀ m, 0 ≤ m → m < r 546 → r (547 + 6 * m + 3) ≠ v2 := fun m a b w => q3.2.2.1 ((hh v2 q2.1 q2.2).2.2.2.2.mpr ⟨m, a, b, w⟩)
    refine IH_hand hI q1 q2 (by omega) (Or.inr rfl) (fun i a b => ?_) (fun m m' a b c d e => ?_)
    · by_cases e : i = v2
      · rw [if_pos e]
        exact ⟨fun _ => ⟨v1, q1.1, q1.2, by rw [if_pos rfl, e]⟩, fun _ => rfl⟩
      · rw [if_neg e]
        refine (hh i a b).2.2.2.2.trans ⟨?_, ?_⟩
        · rintro ⟨m, s, t, u⟩
          refine ⟨m, s, t, ?_⟩
          rw [if_neg (fun w => by rw [w, q3.1] at u; omega)]
          exact u
        · rintro ⟨m, s, t, u⟩
          refine ⟨m, s, t, ?_⟩
          by_cases f : m = v1
          · rw [if_pos f] at u
            exact absurd u.symm e
          · rw [if_neg f] at u
            exact u
    · by_cases f : m = v1
      · rw [if_pos f, if_neg (fun w => e (f.trans w.symm))]
        exact fun w => absurd w.symm (hno m' c d)
      · rw [if_neg f]
        by_cases f' : m' = v1
        · rw [if_pos f']
          exact fun w => absurd w (hno m a b)
        · rw [if_neg f']
          exact fun w => (hI.2.2.2.2.1 m a b).2.2.2.2.2 m' c d e w
  have k2 : rup (rup r (547 + 6 * v1 + 3) v2) (471 + 5 * v2 + 4) 1 470 = r 470 := by rw [rup_ne (by omega), rup_ne (by omega)]
  have hq : ¬ sRet r v2 := q3.2.2.2.1
  refine ⟨_, sLapse (rup (rup r (547 + 6 * v1 + 3) v2) (471 + 5 * v2 + 4) 1) v2, ⟨fun z hR hu hl => ?_, fun z hM h8 => ?_⟩, I2⟩
  · obtain ⟨z1, e1, R1, w1⟩ := c_rem hR hI hu hl
    have es : fX4_set 12 v1 3 v2 z1 = some (zup z1 13 (v1 * 6 + 3) v2) := set_ok kT12 (by rw [(RCn R1).2.2.2.2.1]; exact q1) (by rw [(RCn R1).2.2.2.2.1]; show r 546 ≤ 12; omega) (show 0 ≤ 3 ∧ 3 < 6 by omega)
    have R2 := RC_lent (v := 1) (k := v2) (B := B) (RC_up12 (v := v2) R1 hI.1 q1 (c := 3) (by omega)) (by
      have := hI.1
      unfold IHn at *
      rw [rup_ne (by omega), rup_ne (by omega), rup_ne (by omega), rup_ne (by omega), rup_ne (by omega), rup_ne (by omega), rup_ne (by omega), rup_ne (by omega), rup_ne (by omega), rup_ne (by omega)]
      exact this) (by rw [rup_ne (by omega)]; exact q2)
    refine ⟨zup (zup z1 13 (v1 * 6 + 3) v2) 159 0 (sLapse (rup (rup r (547 + 6 * v1 + 3) v2) (471 + 5 * v2 + 4) 1) v2), ?_, ?_, Qt_RC Qt_159 R2, w1 _ (fun a p1 p2 p3 p4 p5 => ?_)⟩
    · simp only [fL_lend, fX5_lend, n_row, (RCn hR).2.2.2.2.1, (RCn hR).2.2.2.1, if_pos q1, if_pos q2, Option.bind_some, c_harnessOf hR hI q1, if_pos q3.1, cg12 hR hI q1 (c := 0) (by omega), cg10 hR hI q2 (c := 0) (by omega), if_pos q3.2.1, c_isLendable hR hI q2, ite_bI, if_pos q3.2.2, e1, es, c_lapseOf R2 I2 (show 0 ≤ v2 ∧ v2 < rup (rup r (547 + 6 * v1 + 3) v2) (471 + 5 * v2 + 4) 1 470 by rw [k2]; exact q2)]
    · rw [zup_at, if_pos rfl]
    · rw [zup_ne p3, zup_ne (by omega)]
  · have hM1 := zup_154 (e := 0) hM
    obtain ⟨z1, e1, r1, w1⟩ := m_rec hM h8 (FM_rf _)
    have r2 : zup (zup z1 154 (547 + 6 * v1 + 3) v2) 154 (471 + 5 * v2 + 4) 1 154 = rup (rup r (547 + 6 * v1 + 3) v2) (471 + 5 * v2 + 4) 1 := by
      funext j
      rw [zup_at, zup_at, r1]
      rfl
    refine ⟨zup (zup z1 154 (547 + 6 * v1 + 3) v2) 154 (471 + 5 * v2 + 4) 1, ?_, r2, w1 _ (fun a p1 p2 p3 p4 => by rw [zup_ne p2, zup_ne p2]) (fun j p1 p2 p3 => by rw [zup_ne (by decide), zup_ne (by decide)])⟩
    simp only [fX6_lend, fX6_lend_b26, fX6_lend_b27, fX6_setMember, fX6_setHarness, zl, mi_member hM1 hI, mi_harness hM1 hI, m_failsb, m_fails0, m_fails1, if_pos q1, if_pos q2, ite_bI, if_true, Option.bind_some, m_mayLend hM1 hI q1 q2, if_pos q3, e1, if_pos (show 0 ≤ 547 + 6 * v1 + 3 ∧ 547 + 6 * v1 + 3 < 765 by omega), if_pos (show 0 ≤ 471 + 5 * v2 + 4 ∧ 471 + 5 * v2 + 4 < 765 by omega), m_lapse r2 I2 (show 0 ≤ v2 ∧ v2 < rup (rup r (547 + 6 * v1 + 3) v2) (471 + 5 * v2 + 4) 1 470 by rw [k2]; exact q2)]
theorem g_back (hI : IH B r) (q1 : 0 ≤ v1 ∧ v1 < r 546) (q2 : r (547 + 6 * v1 + 3) ≠ -1) : ∃ r' v, Chg r r' v (fL_giveBack v1) (fX6_giveBack v1) ∧ IH B r' := by
  have hn := hI.1
  unfold IHn at hn
  have hh := hI.2.2.2.1
  have hm := hI.2.2.2.2.1 v1 q1.1 q1.2
  have hw : 0 ≤ r (547 + 6 * v1 + 3) ∧ r (547 + 6 * v1 + 3) < r 470 := by have := hm.2.2.1; omega
  generalize hh0 : r (547 + 6 * v1 + 3) = w at *
  have hun : ∀ m, 0 ≤ m → m < r 546 → m ≠ v1 → r (547 + 6 * m + 3) ≠ w := fun m a b c d => q2 (hm.2.2.2.2.2 m a b (fun e => c e.symm) d.symm)
  have I2 : IH B (rup (rup r (547 + 6 * v1 + 3) (-1)) (471 + 5 * w + 4) 0) := by
    refine IH_hand hI q1 hw (by omega) (Or.inl rfl) (fun i a b => ?_) (fun m m' a b c d e => ?_)
    · by_cases e : i = w
      · rw [if_pos e]
        refine ⟨fun f => by omega, ?_⟩
        rintro ⟨m, s, t, u⟩
        by_cases f : m = v1
        · rw [if_pos f] at u; omega
        · rw [if_neg f] at u
          exact absurd (u.trans e) (hun m s t f)
      · rw [if_neg e]
        refine (hh i a b).2.2.2.2.trans ⟨?_, ?_⟩
        · rintro ⟨m, s, t, u⟩
          refine ⟨m, s, t, ?_⟩
          rw [if_neg (fun x => by rw [x, hh0] at u; exact e u.symm)]
          exact u
        · rintro ⟨m, s, t, u⟩
          refine ⟨m, s, t, ?_⟩
          by_cases f : m = v1
          · rw [if_pos f] at u; omega
          · rw [if_neg f] at u
            exact u
    · by_cases f : m = v1
      · rw [if_pos f]
        exact fun _ => rfl
      · rw [if_neg f]
        by_cases f' : m' = v1
        · rw [if_pos f']
          exact fun x => x
        · rw [if_neg f']
          exact fun x => (hI.2.2.2.2.1 m a b).2.2.2.2.2 m' c d e x
  refine ⟨_, w, ⟨fun z hR hu hl => ?_, fun z hM h8 => ?_⟩, I2⟩
  · obtain ⟨z1, e1, R1, w1⟩ := c_rem hR hI hu hl
    have es : fX4_set 12 v1 3 (-1) z1 = some (zup z1 13 (v1 * 6 + 3) (-1)) := set_ok kT12 (by rw [(RCn R1).2.2.2.2.1]; exact q1) (by rw [(RCn R1).2.2.2.2.1]; show r 546 ≤ 12; omega) (show 0 ≤ 3 ∧ 3 < 6 by omega)
    have R2 := RC_lent (v := 0) (k := w) (B := B) (RC_up12 (v := -1) R1 hI.1 q1 (c := 3) (by omega)) (by
      have := hI.1
      unfold IHn at *
      rw [rup_ne (by omega), rup_ne (by omega), rup_ne (by omega), rup_ne (by omega), rup_ne (by omega), rup_ne (by omega), rup_ne (by omega), rup_ne (by omega), rup_ne (by omega), rup_ne (by omega)]
      exact this) (by rw [rup_ne (by omega)]; exact hw)
    refine ⟨zup (zup z1 13 (v1 * 6 + 3) (-1)) 159 0 w, ?_, ?_, Qt_RC Qt_159 R2, w1 _ (fun a p1 p2 p3 p4 p5 => ?_)⟩
    · simp only [fL_giveBack, fX5_giveBack, n_row, (RCn hR).2.2.2.2.1, if_pos q1, Option.bind_some, c_harnessOf hR hI q1, hh0, if_neg q2, e1, es]
    · rw [zup_at, if_pos rfl]
    · rw [zup_ne p3, zup_ne (by omega)]
  · have hM1 := zup_154 (e := 0) hM
    obtain ⟨z1, e1, r1, w1⟩ := m_rec hM h8 (FM_rf _)
    have r2 : zup (zup z1 154 (547 + 6 * v1 + 3) (-1)) 154 (471 + 5 * w + 4) 0 154 = rup (rup r (547 + 6 * v1 + 3) (-1)) (471 + 5 * w + 4) 0 := by
      funext j
      rw [zup_at, zup_at, r1]
      rfl
    refine ⟨zup (zup z1 154 (547 + 6 * v1 + 3) (-1)) 154 (471 + 5 * w + 4) 0, ?_, r2, w1 _ (fun a p1 p2 p3 p4 => by rw [zup_ne p2, zup_ne p2]) (fun j p1 p2 p3 => by rw [zup_ne (by decide), zup_ne (by decide)])⟩
    simp only [fX6_giveBack, fX6_giveBack_b34, fX6_setMember, fX6_setHarness, zl, mi_member hM1 hI, m_failsb, m_fails0, m_fails1, if_pos q1, if_true, Option.bind_some, mg12 hM1 (k := v1) (c := 3) (by omega), mg12 r1 (k := v1) (c := 3) (by omega), hh0, if_neg q2, e1, if_pos (show 0 ≤ 547 + 6 * v1 + 3 ∧ 547 + 6 * v1 + 3 < 765 by omega), if_pos (show 0 ≤ 471 + 5 * w + 4 ∧ 471 + 5 * w + 4 < 765 by omega)]
end CH
