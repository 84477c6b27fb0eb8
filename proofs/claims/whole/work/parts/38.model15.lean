/-! ===== FieldMixturesModel: all parts ===== -/
section ZMF
variable {sc : Nat × (Nat → Int32)} {Q : Option Value → zA → Prop} {h : zA} {p : Nat → Option Nat} {iv : Nat → Nat → Int32} {cs d : CS} {hs : List CS} {t : List Nat} {x y z w lo hi : Int32} {q k i n m : Nat}
/-- the reader's fields and the contest's row change, no other -/
def dM (iv2 iv : Nat → Nat → Int32) : Prop := (∀ c, c ≠ 91 → c ≠ 92 → iv2 c = iv c) ∧ ∀ g, g < 10 → iv2 91 g = iv 91 g
theorem dM.tr {a b c : Nat → Nat → Int32} (h1 : dM a b) (h2 : dM b c) : dM a c := ⟨fun x hx hy => (h1.1 x hx hy).trans (h2.1 x hx hy), fun g hg => (h1.2 g hg).trans (h2.2 g hg)⟩
theorem rM.dm {iv2 : Nat → Nat → Int32} (h : rM iv2 iv) : dM iv2 iv := ⟨fun c hc _ => h.1 c hc, h.2⟩
theorem dM.tp {iv2 : Nat → Nat → Int32} (h : dM iv2 iv) (T : tPt iv t) : tPt iv2 t := T.keep (h.2 5 (by omega)) (h.1 95 (by omega) (by omega))
theorem dM.w92 {iv2 : Nat → Nat → Int32} (e : ∀ c, c ≠ 92 → iv2 c = iv c) : dM iv2 iv := ⟨fun c _ hc => e c hc, fun g _ => by rw [e 91 (by omega)]⟩
theorem dp_104 {r : Nat} {iv1 : Nat → Nat → Int32} (hr : r < 10) (e : iv1 91 12 = nI r) : zEv sc 149 104 [.ref 91, .int (nI i)] [] (zst p iv1) Q ↔ (if r = 0 then zEv sc 149 5 [.ref 91, .int (nI i)] [] (zst p iv1) Q else Q (some (.int (nI i))) (zst p iv1)) := by
  simp only [u149_104, u149_105, z91.1, e]
  rw [u149_108]
  by_cases g : r = 0
  · subst g
    rw [if_pos (by decide), if_pos rfl]
    simp only [u149_113]
  · rw [if_neg (nI_nle (by omega) (by omega)), if_neg g]
    simp only [u149_111, u149_112]
end ZMF
