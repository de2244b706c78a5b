/-! the JDK's methods that the class and the model call, over the steady state -/
def zlen (w : Nat) : Int := ((zSH z0 (w + 100)).2 : Nat)
theorem isW_all : ∀ w ∈ zWl, 1000100 ≤ w ∧ w < 1000150 ∧ zSTl.lookup w = some (31, 0) ∧ zSTl.lookup (w + 100) = some (32, (zSH z0 (w + 100)).2) ∧ (zSH z0 (w + 100)).2 < 60 ∧ zshr (zlen w) 0 = zlen w ∧ ∀ j, j < (zSH z0 (w + 100)).2 → 0 ≤ zKC (w + 100) j ∧ zKC (w + 100) j < 128 := by decide +kernel
theorem isW_ge {w : Nat} (h : isW w) : 1000000 ≤ w := by have := (isW_all w h).1; omega
theorem isW_sh {w : Nat} (h : isW w) (ln : ZR) : zSH ln w = (31, 0) := by
  have h1 := isW_all w h
  show (if w < 151 then _ else if w < 1000000 then _ else if w = 1000000 then _ else zST w) = _
  rw [if_neg (by omega), if_neg (by omega), if_neg (by omega)]
  unfold zST
  rw [if_neg (by omega), if_neg (by omega), if_neg (by omega), h1.2.2.1]
  rfl
theorem isW_sh1 {w : Nat} (h : isW w) (ln : ZR) : zSH ln (w + 100) = (32, (zSH z0 (w + 100)).2) := by
  have h1 := isW_all w h
  show (if w + 100 < 151 then _ else if w + 100 < 1000000 then _ else if w + 100 = 1000000 then _ else zST (w + 100)) = _
  rw [if_neg (by omega), if_neg (by omega), if_neg (by omega)]
  unfold zST
  rw [if_neg (by omega), if_neg (by omega), if_neg (by omega), h1.2.2.2.1]
  rfl
theorem isW_c0 {w : Nat} (h : isW w) (z : ZZ) : zCT z w 0 = .ref (w + 100) := by unfold zCT; rw [isW_sh h]; rfl
theorem isW_c1 {w : Nat} (h : isW w) (z : ZZ) : zCT z w 1 = .int (iN 0) := by unfold zCT; rw [isW_sh h]; rfl
theorem inR_len {w : Nat} (h : isW w) : inR (zlen w) := by
  have := (isW_all w h).2.2.2.2.1
  unfold zlen
  constructor <;> omega
theorem isW_ch {w : Nat} (h : isW w) {j : Int} (hj : 0 ≤ j ∧ j < zlen w) : 0 ≤ zKC (w + 100) j ∧ zKC (w + 100) j < 128 := by
  have h1 := (isW_all w h).2.2.2.2.2.2 j.toNat (by unfold zlen at hj; omega)
  have e : ((j.toNat : Nat) : Int) = j := Int.toNat_of_nonneg hj.1
  rw [e] at h1
  exact h1
theorem inR_ch {w : Nat} (h : isW w) {j : Int} (hj : 0 ≤ j ∧ j < zlen w) : inR (zKC (w + 100) j) := by
  have := isW_ch h hj
  constructor <;> omega
theorem ch_fix : ∀ c : Nat, c < 128 → ((iN (zand c 255)).toUInt32 % 65536).toInt32 = iN c ∧ narrow .char (.int (iN c)) = .int (iN c) := by decide +kernel
theorem ch_fix' {c : Int} (h : 0 ≤ c ∧ c < 128) : ((iN (zand c 255)).toUInt32 % 65536).toInt32 = iN c ∧ narrow .char (.int (iN c)) = .int (iN c) := by
  have := ch_fix c.toNat (by omega)
  have e : ((c.toNat : Nat) : Int) = c := Int.toNat_of_nonneg (by omega)
  rw [e] at this
  exact this
section JD
variable {ln : ZR} {N : Nat} {z : ZZ} {w : Nat}
theorem CJcoder (hw : isW w) : X mJ0_coder_7d493 0 (xEnt [.ref w] (xL mJ0_coder_7d493)) [] (zmk ln N z) 0 0 (Qd True (.inl (some (.int (iN 0)))) (zmk ln N z)) := by
  refine X_to (M := [some (.ref w)]) (su := []) rfl rfl ?_
  refine X_gets (pc' := 3) dJ0_coder_7d493_0 rfl (q := ("java/lang/String", "COMPACT_STRINGS", "Z", .int 1)) (List.mem_of_getElem? (i := 3) rfl) tq312 ?_
  refine X_to (M := [some (.ref w)]) (su := [.int (iN 1)]) rfl rfl ?_
  refine X_if_eq dJ0_coder_7d493_3 (tgt := 13) rfl (pc' := 6) rfl (inR_c (n := 1) rfl) (fun c => by omega) (fun _ => ?_)
  refine X_aload_n (pc' := 7) dJ0_coder_7d493_6 rfl rfl ?_
  refine X_getfS (k := 1) (n := 0) (pc' := 10) dJ0_coder_7d493_7 rfl (Or.inr ⟨rfl, tq1369⟩) (isW_ge hw) (isW_sh hw ln) ((zCD_c (Or.inr (isW_ge hw))).trans (isW_c1 hw z)) ?_
  refine X_goto dJ0_coder_7d493_10 (tgt := 14) rfl ?_
  exact X_ret (v := some (.int (iN 0))) rfl ⟨⟨.byte, rfl, rfl⟩, dJ0_coder_7d493_14⟩ ⟨trivial, rfl, rfl⟩
theorem CJlat (hw : isW w) : X mJ0_isLatin1_aae02 0 (xEnt [.ref w] (xL mJ0_isLatin1_aae02)) [] (zmk ln N z) 0 0 (Qd True (.inl (some (.int (iN 1)))) (zmk ln N z)) := by
  refine X_to (M := [some (.ref w)]) (su := []) rfl rfl ?_
  refine X_gets (pc' := 3) dJ0_isLatin1_aae02_0 rfl (q := ("java/lang/String", "COMPACT_STRINGS", "Z", .int 1)) (List.mem_of_getElem? (i := 3) rfl) tq312 ?_
  refine X_to (M := [some (.ref w)]) (su := [.int (iN 1)]) rfl rfl ?_
  refine X_if_eq dJ0_isLatin1_aae02_3 (tgt := 17) rfl (pc' := 6) rfl (inR_c (n := 1) rfl) (fun c => by omega) (fun _ => ?_)
  refine X_aload_n (pc' := 7) dJ0_isLatin1_aae02_6 rfl rfl ?_
  refine X_getfS (k := 1) (n := 0) (pc' := 10) dJ0_isLatin1_aae02_7 rfl (Or.inr ⟨rfl, tq1369⟩) (isW_ge hw) (isW_sh hw ln) ((zCD_c (Or.inr (isW_ge hw))).trans (isW_c1 hw z)) ?_
  refine X_if_ne dJ0_isLatin1_aae02_10 (tgt := 17) rfl (pc' := 13) rfl (inR_c (n := 0) rfl) (fun c => absurd rfl c) (fun _ => ?_)
  refine X_iconst (pc' := 14) dJ0_isLatin1_aae02_13 rfl ?_
  refine X_goto dJ0_isLatin1_aae02_14 (tgt := 18) rfl ?_
  exact X_zret dJ0_isLatin1_aae02_18 rfl (Or.inr rfl) ⟨trivial, rfl, rfl⟩
theorem CJlen (hw : isW w) : X mJ0_length_8abf5 0 (xEnt [.ref w] (xL mJ0_length_8abf5)) [] (zmk ln N z) 0 0 (Qd True (.inl (some (.int (iN (zlen w))))) (zmk ln N z)) := by
  refine X_to (M := [some (.ref w)]) (su := []) rfl rfl ?_
  refine X_aload_n (pc' := 1) dJ0_length_8abf5_0 rfl rfl ?_
  refine X_getfS (k := 0) (n := 0) (pc' := 4) dJ0_length_8abf5_1 rfl (Or.inl ⟨rfl, tq1368⟩) (isW_ge hw) (isW_sh hw ln) ((zCD_c (Or.inr (isW_ge hw))).trans (isW_c0 hw z)) ?_
  refine X_alenS (pc' := 5) dJ0_length_8abf5_4 rfl (by have := isW_ge hw; omega) (isW_sh1 hw ln) (Or.inr rfl) ?_
  refine X_aload_n (pc' := 6) dJ0_length_8abf5_5 rfl rfl ?_
  refine Y_callW [] (pc' := 9) dJ0_length_8abf5_6 rfl VJ0_335 (by decide) (isW_ge hw) (isW_sh hw ln) rfl rfl (cs rfl) (cs rfl) rfl (CJcoder hw) (Nat.zero_add _).symm (Nat.zero_add _).symm (fun _ => ?_)
  refine X_ishr (pc' := 10) (a := zlen w) dJ0_length_8abf5_9 rfl ?_
  rw [(isW_all w hw).2.2.2.2.2.1]
  exact X_iret dJ0_length_8abf5_10 rfl ⟨trivial, rfl, rfl⟩
theorem CJidx3 {a b : Int} {f : Nat} (ha : 0 ≤ a ∧ a < b) (hb : b < 2147483648) : X mJ3_checkIndex_8e157 0 (xEnt [.int (iN a), .int (iN b), .ref f] (xL mJ3_checkIndex_8e157)) [] (zmk ln N z) 0 0 (Qd True (.inl (some (.int (iN a)))) (zmk ln N z)) := by
  refine X_to (M := [some (.int (iN a)), some (.int (iN b)), some (.ref f)]) (su := []) rfl rfl ?_
  refine X_iload_n (pc' := 1) dJ3_checkIndex_8e157_0 rfl rfl ?_
  refine X_if_lt dJ3_checkIndex_8e157_1 (tgt := 9) rfl (pc' := 4) rfl ⟨by omega, by omega⟩ (fun c => by omega) (fun _ => ?_)
  refine X_iload_n (pc' := 5) dJ3_checkIndex_8e157_4 rfl rfl ?_
  refine X_iload_n (pc' := 6) dJ3_checkIndex_8e157_5 rfl rfl ?_
  refine X_icmp_lt dJ3_checkIndex_8e157_6 (tgt := 16) rfl (pc' := 9) rfl ⟨by omega, by omega, by omega, by omega⟩ (fun _ => ?_) (fun c => by omega)
  refine X_iload_n (pc' := 17) dJ3_checkIndex_8e157_16 rfl rfl ?_
  exact X_iret dJ3_checkIndex_8e157_17 rfl ⟨trivial, rfl, rfl⟩
theorem CJidx0 {a b : Int} (ha : 0 ≤ a ∧ a < b) (hb : b < 2147483648) : X mJ0_checkIndex_df160 0 (xEnt [.int (iN a), .int (iN b)] (xL mJ0_checkIndex_df160)) [] (zmk ln N z) 0 0 (Qd True (.inl none) (zmk ln N z)) := by
  refine X_to (M := [some (.int (iN a)), some (.int (iN b))]) (su := []) rfl rfl ?_
  refine X_iload_n (pc' := 1) dJ0_checkIndex_df160_0 rfl rfl ?_
  refine X_iload_n (pc' := 2) dJ0_checkIndex_df160_1 rfl rfl ?_
  refine X_gets (pc' := 5) dJ0_checkIndex_df160_2 rfl (q := ("jdk/internal/util/Preconditions", "SIOOBE_FORMATTER", "Ljava/util/function/BiFunction;", .ref 1000050)) (List.mem_of_getElem? (i := 4) rfl) tq328 ?_
  refine Y_callS [.int (iN a), .int (iN b), .ref 1000050] (pc' := 8) dJ0_checkIndex_df160_5 rfl SJ0_1059 (by decide) rfl (cs rfl) (cs rfl) rfl (CJidx3 ha hb) (Nat.zero_add _).symm (Nat.zero_add _).symm (fun _ => ?_)
  refine X_pop (pc' := 9) dJ0_checkIndex_df160_8 rfl rfl ?_
  exact X_vret dJ0_checkIndex_df160_9 rfl ⟨trivial, rfl, rfl⟩
theorem CJchar1 (hw : isW w) {j : Int} (hj : 0 ≤ j ∧ j < zlen w) : X mJ1_charAt_3b067 0 (xEnt [.ref (w + 100), .int (iN j)] (xL mJ1_charAt_3b067)) [] (zmk ln N z) 0 0 (Qd True (.inl (some (.int (iN (zKC (w + 100) j))))) (zmk ln N z)) := by
  have hl := inR_len hw
  refine X_to (M := [some (.ref (w + 100)), some (.int (iN j))]) (su := []) rfl rfl ?_
  refine X_iload_n (pc' := 1) dJ1_charAt_3b067_0 rfl rfl ?_
  refine X_aload_n (pc' := 2) dJ1_charAt_3b067_1 rfl rfl ?_
  refine X_alenS (pc' := 3) dJ1_charAt_3b067_2 rfl (by have := isW_ge hw; omega) (isW_sh1 hw ln) (Or.inr rfl) ?_
  refine Y_callSv [.int (iN j), .int (iN (zlen w))] (pc' := 6) dJ1_charAt_3b067_3 rfl SJ1_9 (by decide) rfl (cs rfl) (cs rfl) rfl (CJidx0 hj hl.2) (Nat.zero_add _).symm (Nat.zero_add _).symm (fun _ => ?_)
  refine X_aload_n (pc' := 7) dJ1_charAt_3b067_6 rfl rfl ?_
  refine X_iload_n (pc' := 8) dJ1_charAt_3b067_7 rfl rfl ?_
  refine Y_baldK (pc' := 9) dJ1_charAt_3b067_8 rfl (by have := isW_ge hw; omega) (isW_sh1 hw ln) (by have := (isW_all w hw).2.2.2.2.1; omega) hj ?_
  refine X_sipush (pc' := 12) dJ1_charAt_3b067_9 rfl (by decide) ?_
  refine X_iand (pc' := 13) dJ1_charAt_3b067_12 rfl ?_
  refine X_i2c (pc' := 14) dJ1_charAt_3b067_13 rfl ?_
  have hc := ch_fix' (isW_ch hw hj)
  rw [hc.1]
  exact X_ret (v := some (.int (iN (zKC (w + 100) j)))) rfl ⟨⟨.char, rfl, hc.2⟩, dJ1_charAt_3b067_14⟩ ⟨trivial, rfl, rfl⟩
theorem CJchar (hw : isW w) {j : Int} (hj : 0 ≤ j ∧ j < zlen w) : X mJ0_charAt_5068e 0 (xEnt [.ref w, .int (iN j)] (xL mJ0_charAt_5068e)) [] (zmk ln N z) 0 0 (Qd True (.inl (some (.int (iN (zKC (w + 100) j))))) (zmk ln N z)) := by
  refine X_to (M := [some (.ref w), some (.int (iN j))]) (su := []) rfl rfl ?_
  refine X_aload_n (pc' := 1) dJ0_charAt_5068e_0 rfl rfl ?_
  refine Y_callW [] (pc' := 4) dJ0_charAt_5068e_1 rfl VJ0_492 (by decide) (isW_ge hw) (isW_sh hw ln) rfl rfl (cs rfl) (cs rfl) rfl (CJlat hw) (Nat.zero_add _).symm (Nat.zero_add _).symm (fun _ => ?_)
  refine X_if_eq dJ0_charAt_5068e_4 (tgt := 16) rfl (pc' := 7) rfl (inR_c (n := 1) rfl) (fun c => by omega) (fun _ => ?_)
  refine X_aload_n (pc' := 8) dJ0_charAt_5068e_7 rfl rfl ?_
  refine X_getfS (k := 0) (n := 0) (pc' := 11) dJ0_charAt_5068e_8 rfl (Or.inl ⟨rfl, tq1368⟩) (isW_ge hw) (isW_sh hw ln) ((zCD_c (Or.inr (isW_ge hw))).trans (isW_c0 hw z)) ?_
  refine X_iload_n (pc' := 12) dJ0_charAt_5068e_11 rfl rfl ?_
  refine Y_callS [.ref (w + 100), .int (iN j)] (pc' := 15) dJ0_charAt_5068e_12 rfl SJ0_495 (by decide) rfl (cs rfl) (cs rfl) rfl (CJchar1 hw hj) (Nat.zero_add _).symm (Nat.zero_add _).symm (fun _ => ?_)
  exact X_ret (v := some (.int (iN (zKC (w + 100) j)))) rfl ⟨⟨.char, rfl, (ch_fix' (isW_ch hw hj)).2⟩, dJ0_charAt_5068e_15⟩ ⟨trivial, rfl, rfl⟩
end JD
/-! small things that the walks use -/
theorem isH_lat {j : Int} (h : 0 ≤ j ∧ j < 8) : isH (34 + 13 * j.toNat) := by
  have : ∀ k : Nat, k < 8 → isH (34 + 13 * k) := by unfold isH; decide +kernel
  exact this _ (by omega)
theorem isH_small {p : Nat} (h : isH p) : p < 1000000 := by have := (isH_all p h).1.1; omega
theorem zK_all : (∀ x ∈ zKCl, x.1 = 1000001 ∨ x.1 = 1000002 ∨ x.1 = 1000003 → ∀ y ∈ x.2, 0 ≤ y ∧ y < 400) := by decide +kernel
theorem zK_at {l : List Int} (h : ∀ y ∈ l, 0 ≤ y ∧ y < 400) (k : Nat) : 0 ≤ l.getD k 0 ∧ l.getD k 0 < 400 := by
  rw [List.getD_eq_getElem?_getD]
  cases e : l[k]? with
  | none => simp
  | some y => exact h y (List.mem_of_getElem? e)
theorem inR_K1000001 (k : Int) : inR (zKC 1000001 k) := by
  have : 0 ≤ zKC 1000001 k ∧ zKC 1000001 k < 400 := zK_at (l := (zKCl.lookup 1000001).getD []) (by decide +kernel) k.toNat
  constructor <;> omega
theorem inR_K1000002 (k : Int) : inR (zKC 1000002 k) := by
  have : 0 ≤ zKC 1000002 k ∧ zKC 1000002 k < 400 := zK_at (l := (zKCl.lookup 1000002).getD []) (by decide +kernel) k.toNat
  constructor <;> omega
theorem inR_K1000003 (k : Int) : inR (zKC 1000003 k) := by
  have : 0 ≤ zKC 1000003 k ∧ zKC 1000003 k < 400 := zK_at (l := (zKCl.lookup 1000003).getD []) (by decide +kernel) k.toNat
  constructor <;> omega
theorem zlk2 {n1 n2 o1 o2 d a : Int} (h1 : ¬ a = n1) (h2 : ¬ a = n2) : Op.lookupswitch.offset [(n1, o1), (n2, o2)] d a = d := by
  rw [Op.lookupswitch.offset_cons, Op.lookupswitch.offset_cons, Op.lookupswitch.offset_nil, if_neg (fun e => h1 e.symm), if_neg (fun e => h2 e.symm)]

