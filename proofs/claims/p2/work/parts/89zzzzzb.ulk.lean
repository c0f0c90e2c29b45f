/-! the reference looks behind: what sums use -/
theorem PxX.so {X : List Nd} : ∀ (g f c : Nat), PxX X g f c → (f ≤ c ∧ c < X.length) ∧ ∀ k, f ≤ k → k ≤ c → (X.getD k nd0).1 ≤ 8 := by
  intro g
  induction g with
  | zero => intro f c h; exact h.elim
  | succ g ih =>
    intro f c h
    obtain ⟨h1, h⟩ := h
    rcases h with ⟨e, h⟩ | ⟨a1, a2, a3, a4⟩ | ⟨a1, e, a2, a3, a4, a5, a6⟩
    · refine ⟨⟨by omega, h1⟩, fun k k1 k2 => ?_⟩
      have : k = c := by omega
      rw [this]
      rcases h with ⟨w, -⟩ | ⟨w, -⟩ | ⟨w, -⟩ <;> rw [w] <;> decide
    · obtain ⟨b1, b2⟩ := ih _ _ a4
      refine ⟨⟨by omega, h1⟩, fun k k1 k2 => ?_⟩
      by_cases e : k = c
      · rw [e, a1]; decide
      · exact b2 k k1 (by omega)
    · obtain ⟨b1, b2⟩ := ih _ _ a5
      obtain ⟨c1, c2⟩ := ih _ _ a6
      refine ⟨⟨by omega, h1⟩, fun k k1 k2 => ?_⟩
      by_cases q : k = c
      · rw [q]; exact a1.2
      · by_cases q2 : k ≤ e
        · exact b2 k k1 q2
        · exact c2 k (by omega) (by omega)
section
variable {m : Nat} {A : Nat → Nat → Int32} {X : List Nd} {M : Mem} {h : Nat} {Q : Option Value → Mem → Prop} {k f c : Nat}
theorem U_loop (F : Fix M) (h4 : m < 4) (hX : XR M m X) (hl : X.length ≤ 810) (hc : c < X.length) (hs : ∀ k, f ≤ k → k ≤ c → (X.getD k nd0).1 ≤ 8) : ∀ (d k : Nat) (a : Int32), k + d = c + 1 → f ≤ k → Q (some (.int (a ||| usX ((X.drop k).take d)))) M → T (h + 1) mdX11_usesIn 5 [(0, .ref 29), (2, .int (Int32.ofNat (810 * m + c))), (3, .int a), (4, .int (Int32.ofNat (810 * m + k)))] [] M Q := by
  intro d
  induction d with
  | zero =>
    intro k a hk hfk H
    refine VX11_usesIn_5 ?_
    unfold DX11_usesIn_5 DX11_usesIn_50
    have H : Q (some (.int a)) M := by
      have e : a ||| usX ((X.drop k).take 0) = a := by rw [List.take_zero]; exact Int32.or_zero
      rw [e] at H
      exact H
    have lt : Int32.ofNat (810 * m + c) < Int32.ofNat (810 * m + k) := (ltn32 (by omega) (by omega)).mpr (by omega)
    exact ⟨fun _ => H, fun _ => ⟨fun _ => H, fun z => absurd lt z⟩⟩
  | succ d ih =>
    intro k a hk hfk H
    refine VX11_usesIn_5 ?_
    unfold DX11_usesIn_5 DX11_usesIn_42
    have nlt : ¬ Int32.ofNat (810 * m + c) < Int32.ofNat (810 * m + k) := fun z => by
      have := (ltn32 (by omega) (by omega)).mp z
      omega
    have lk : (Int32.ofNat (810 * m + k)).toNatClampNeg = 810 * m + k := lt32 (by omega)
    obtain ⟨-, x2⟩ := hX
    obtain ⟨e1, e2, -⟩ := x2 k (by omega)
    have vk : ∀ {n : Nat}, n = 3240 → vp_in (Int32.ofNat (810 * m + k)) n := fun e => by rw [e]; exact vp_of (by omega) (by decide)
    have hd : (X.drop k).take (d + 1) = X.getD k nd0 :: (X.drop (k + 1)).take d := by
      have : X.drop k = X[k] :: X.drop (k + 1) := List.drop_eq_getElem_cons (by omega)
      rw [this, List.take_succ_cons]
      have e : X.getD k nd0 = X[k] := by rw [List.getD_eq_getElem?_getD, List.getElem?_eq_getElem (by omega)]; rfl
      rw [e]
    rw [hd] at H
    have st : Int32.ofNat (810 * m + k) + 1 = Int32.ofNat (810 * m + (k + 1)) := by rw [succ32]; rfl
    rw [lk]
    refine ⟨fun z => absurd z (nm32 (by omega)), fun _ => ⟨fun z => absurd z nlt, fun _ => ⟨ok29 F, 49, rf29_25 F, ok49 F, vk (ln49 F), ?_⟩⟩⟩
    rw [e1, st]
    by_cases q : (X.getD k nd0).1 = 1
    · refine ⟨fun z => absurd (by rw [q]; rfl) z, fun _ => ⟨50, rf29_26 F, ok50 F, vk (ln50 F), ?_⟩⟩
      rw [e2]
      have ea : xa m (X.getD k nd0) = (X.getD k nd0).2.1 := if_pos (by rw [q]; decide)
      rw [ea]
      have eu : usX (X.getD k nd0 :: (X.drop (k + 1)).take d) = ((1 : Int32) <<< ((X.getD k nd0).2.1.toInt32 &&& 31)) ||| usX ((X.drop (k + 1)).take d) := by
        show (if (X.getD k nd0).1 = 1 then _ else (0 : Int32)) ||| _ = _
        rw [if_pos q]
      rw [eu, ← Int32.or_assoc] at H
      exact ih (k + 1) _ (by omega) (by omega) H
    · have eu : usX (X.getD k nd0 :: (X.drop (k + 1)).take d) = usX ((X.drop (k + 1)).take d) := by
        show (if (X.getD k nd0).1 = 1 then _ else (0 : Int32)) ||| _ = _
        rw [if_neg q, Int32.zero_or]
      rw [eu] at H
      refine ⟨fun _ => ih (k + 1) _ (by omega) (by omega) (by rw [Int32.or_zero]; exact H), fun z => ?_⟩
      have w := hs k hfk (by omega)
      exact absurd (inj32 (by omega) (by decide) (z.trans rfl)) q
theorem U_in (F : Fix M) (h4 : m < 4) (hX : XR M m X) (hl : X.length ≤ 810) (hp : PxE X f c) (H : Q (some (.int (usX ((X.drop f).take (c + 1 - f))))) M) : E (h + 1) mdX11_usesIn [.ref 29, .int (Int32.ofNat (810 * m + f)), .int (Int32.ofNat (810 * m + c))] M Q := by
  obtain ⟨g, hp⟩ := hp
  obtain ⟨⟨h1, h2⟩, h3⟩ := PxX.so _ _ _ hp
  refine KX11_usesIn ?_
  unfold DX11_usesIn_0
  exact U_loop F h4 hX hl h2 h3 (c + 1 - f) f 0 (by omega) (Nat.le_refl _) (by rw [Int32.zero_or]; exact H)
theorem U_no {x : Int32} (H : Q (some (.int 0)) M) : E (h + 1) mdX11_usesIn [.ref 29, .int x, .int (-1)] M Q := by
  refine KX11_usesIn ?_
  unfold DX11_usesIn_0
  refine VX11_usesIn_5 ?_
  unfold DX11_usesIn_5 DX11_usesIn_50
  exact ⟨fun _ => H, fun z => absurd rfl z⟩
theorem U_si {c1 c2 : Nat} (F : Fix M) (h4 : m < 4) (hX : XR M m X) (hl : X.length ≤ 810) (hs : SuI A X m c1 c2 k) (H : Q (some (.int (usI A X m c1 c2 k))) M) : E (h + 1) mdX11_usesIn [.ref 29, .int (A c1 (40 * m + k)), .int (A c2 (40 * m + k))] M Q := by
  unfold usI at H
  rcases hs with e | ⟨f, c, a1, a2, a3, a4, a5⟩
  · rw [if_pos e] at H
    rw [e]
    exact U_no H
  · rw [a4, if_neg (nm32 (by omega)), a3, lt32 (by omega), lt32 (by omega)] at H
    rw [a3, a4]
    have e3 : 810 * m + f - 810 * m = f := by omega
    have e4 : 810 * m + c + 1 - (810 * m + f) = c + 1 - f := by omega
    rw [e3, e4] at H
    exact U_in F h4 hX hl a5 H
theorem U_of (F : Fix M) (h4 : m < 4) (hX : XR M m X) (hl : X.length ≤ 810) (hA : ∀ c, 58 ≤ c → c ≤ 75 → c ≠ 72 → mAI M c = A c) (hk : k < 40) (s1 : SuI A X m 64 65 k) (s2 : SuI A X m 66 67 k) (H : Q (some (.int (uvK A X m k))) M) : E (h + 2) mdX11_usesOf [.ref 29, .int (Int32.ofNat (40 * m + k))] M Q := by
  have l40 := lt40 h4 hk
  refine KX11_usesOf ?_
  unfold DX11_usesOf_0
  rw [l40]
  refine ⟨ok29 F, 64, rf29_44 F, ok64 F, ix40 h4 hk (ln64 F), 65, rf29_45 F, ok65 F, ix40 h4 hk (ln65 F), ?_⟩
  rw [hA 64 (by decide) (by decide) (by decide), hA 65 (by decide) (by decide) (by decide)]
  refine U_si F h4 hX hl s1 (fun _ => ⟨_, rfl, 66, rf29_46 F, ok66 F, ix40 h4 hk (ln66 F), 67, rf29_47 F, ok67 F, ix40 h4 hk (ln67 F), ?_⟩)
  rw [hA 66 (by decide) (by decide) (by decide), hA 67 (by decide) (by decide) (by decide)]
  exact U_si F h4 hX hl s2 (fun _ => ⟨_, rfl, H⟩)
end
