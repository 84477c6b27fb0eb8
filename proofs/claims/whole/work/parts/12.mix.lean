/-! ===== FieldMixtures$Mixture ===== -/
section ZMIX
variable {sc : Nat × (Nat → Int32)} {Q : Option Value → zA → Prop} {p : Nat → Option Nat} {iv : Nat → Nat → Int32} {m x : Nat} {l : List (Nat × Nat)}
theorem c_placeOf (hm : zMx m) (hl : isMix iv m l) (hx : x < 10000) : zEv sc 28 0 [.ref m, .int (nI x), .null] [] (zst p iv) Q ↔ Q (some (.int (nI (mPl l x)))) (zst p iv) := by
  have hlen := hl.1.1
  have loop : ∀ d k, l.length - k = d → k ≤ l.length → (∀ j, j < k → mA l j < x) → (zEv sc 28 2 [.ref m, .int (nI x), .int (nI k)] [] (zst p iv) Q ↔ Q (some (.int (nI (mPl l x)))) (zst p iv)) := by
    intro d
    induction d with
    | zero =>
      intro k hd hk hj
      have hk2 : k = l.length := by omega
      subst hk2
      rw [mPl_of (Nat.le_refl _) hj (fun z => absurd z (Nat.lt_irrefl _))]
      simp only [u28_0, u28_1, u28_2, u28_3, u28_4, u28_7, u28_10, u28_11, u28_14, u28_15, u28_16, u28_17, u28_20, u28_23, u28_26, u28_27, hm.1, hl.2.1, Int32.le_refl, if_true]
    | succ d ih =>
      intro k hd hk hj
      have hk2 : k < l.length := by omega
      have h1 : ¬ nI l.length ≤ nI k := nI_ge hk2 (by omega)
      have h2 : vp_in (nI k) 12 := vp_in_nI (by omega) (by omega)
      have h3 : (nI k).toNatClampNeg = k := nI_clamp (by omega)
      have hA := mA_lt hl.1 hk2
      rw [u28_2]
      simp only [u28_3, u28_4, u28_7, u28_10, u28_11, u28_14, u28_15, u28_16, u28_17, u28_20, u28_23, u28_26, u28_27, hm.1, hm.2.1, hm.2.2.2.1, hm.2.2.2.2.2.1, hl.2.1, h1, h2, h3, (hl.2.2 k hk2).1, zRef_some, true_and, if_false, nI_leI (show x < 2 ^ 31 by omega) (show mA l k < 2 ^ 31 by omega), nI_1]
      by_cases h4 : x ≤ mA l k
      · rw [if_pos h4, mPl_of hk hj (fun _ => by omega)]
      · rw [if_neg h4]
        exact ih (k + 1) (by omega) (by omega) (fun j hj2 => by
          by_cases e : j = k
          · subst e; omega
          · exact hj j (by omega))
  simp only [u28_0, u28_1]
  rw [← nI_0]
  exact loop _ 0 rfl (Nat.zero_le _) (fun j hj => absurd hj (Nat.not_lt_zero _))
end ZMIX
