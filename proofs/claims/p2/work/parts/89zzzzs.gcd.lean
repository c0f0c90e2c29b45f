/-! the reference: the codes of a node, by sort -/
def trF (c : Int32) : Int32 := ((c &&& 3) ||| ((c >>> ((2 : Int32) &&& 31)) &&& 1)) ||| ((c >>> ((1 : Int32) &&& 31)) &&& (-4))
def rcS (so nu : Int32) (l : List Int32) : Int32 := if so = 2 then 2 else if so = 3 then (1 : Int32) <<< (nu &&& 31) else if so = 4 ∨ so = 5 then l.headD 0 ||| (match l.tail with | [] => 1 | b :: _ => b) else if so = 6 then l.foldl seF 1 else if so = 7 then l.headD 0 &&& (-2) else if so = 8 then l.headD 0 else if so = 9 then l.tail.foldl pjF (l.headD 0) else if so = 10 then trF (l.headD 0) else 1
section
variable {m : Nat} {A : Nat → Nat → Int32} {pn : Nat → Int32} {S : RBs} {G : Nat → List Nat} {M M' : Mem} {h : Nat} {Q : Option Value → Mem → Prop} {n : Nat}
theorem G_codes (hB : BuM m A pn S M) (hR : RgB m S G) (hn : 700 * m ≤ n ∧ n < 700 * m + S.1) (hl : S.2 80 n = 4 ∨ S.2 80 n = 5 ∨ S.2 80 n = 6 ∨ S.2 80 n = 7 ∨ S.2 80 n = 8 ∨ S.2 80 n = 9 ∨ S.2 80 n = 10 → G n ≠ []) (H : Q (some (.int (rcS (S.2 80 n) (S.2 88 n) ((G n).map (S.2 89))))) M) : E (h + 3) mdX11_codes [.ref 29, .int (Int32.ofNat n)] M Q := by
  obtain ⟨F, h4, b2, b3, b4, b5, b6⟩ := id hB
  obtain ⟨lk, nd, ch⟩ := hR.2.1 n hn.1 hn.2
  have h7 := hR.1.2
  have ln : (Int32.ofNat n).toNatClampNeg = n := lt32 (by omega)
  have vv : ∀ {k x : Nat}, x < 2800 → k = 2800 → vp_in (Int32.ofNat x) k := fun hx e => by rw [e]; exact vp_of hx (by decide)
  have hn2 : n < 2800 := by omega
  have m80 : mAI M 80 n = S.2 80 n := by rw [b4 80 (by decide) (by decide)]
  have m82 : mAI M 82 n = hdI (G n) := by rw [b4 82 (by decide) (by decide)]; exact lk.1
  have m84 : ∀ c, mAI M 84 c = S.2 84 c := fun c => by rw [b4 84 (by decide) (by decide)]
  have m88 : mAI M 88 n = S.2 88 n := by rw [b4 88 (by decide) (by decide)]
  have m89 : ∀ c, mAI M 89 c = S.2 89 c := fun c => by rw [b4 89 (by decide) (by decide)]
  have big : ∀ c ∈ G n, c < 2800 := fun c hc => by have := (ch c hc).2; omega
  refine KX11_codes ?_
  unfold DX11_codes_0 DX11_codes_106
  rw [ln]
  refine ⟨ok29 F, 82, rf29_64 F, ok82 F, vv hn2 (ln82 F), 80, rf29_62 F, ok80 F, vv hn2 (ln80 F), ?_⟩
  rw [m80, m82]
  generalize hG : G n = l at hl H lk nd ch big m82
  generalize hso : S.2 80 n = so at hl H m80
  have cons : so = 4 ∨ so = 5 ∨ so = 6 ∨ so = 7 ∨ so = 8 ∨ so = 9 ∨ so = 10 → ∃ c r, l = c :: r := fun z => by
    cases l with
    | nil => exact absurd rfl (hl z)
    | cons c r => exact ⟨c, r, rfl⟩
  have hd1 : ∀ c r, hdI (c :: r) = Int32.ofNat c := fun c r => by unfold hdI; rw [if_neg (by simp)]; rfl
  have lc : ∀ c, c < 2800 → (Int32.ofNat c).toNatClampNeg = c := fun c hc => lt32 (by omega)
  have pre : ∀ so : Int32, (so = 4 ∨ so = 5) → ∀ c r, l = c :: r → Q (some (.int (rcS so (S.2 88 n) (l.map (S.2 89))))) M → ∃ b8 : Nat, mR M 29 71 = some b8 ∧ ok M b8 21 ∧ vp_in (hdI l) (mL M b8) ∧ ∃ b10 : Nat, mR M 29 66 = some b10 ∧ ok M b10 21 ∧ vp_in (hdI l) (mL M b10) ∧ (¬ (mAI M b10 (hdI l).toNatClampNeg) = (-1) → ∃ b12 : Nat, mR M 29 71 = some b12 ∧ ∃ b13 : Nat, mR M 29 66 = some b13 ∧ ok M b13 21 ∧ vp_in (hdI l) (mL M b13) ∧ ok M b12 21 ∧ vp_in (mAI M b13 (hdI l).toNatClampNeg) (mL M b12) ∧ Q (some (.int ((mAI M b8 (hdI l).toNatClampNeg) ||| (mAI M b12 (mAI M b13 (hdI l).toNatClampNeg).toNatClampNeg)))) M) ∧ ((mAI M b10 (hdI l).toNatClampNeg) = (-1) → Q (some (.int ((mAI M b8 (hdI l).toNatClampNeg) ||| 1))) M) := by
    intro so hs c r e H
    subst e
    have hc := big c List.mem_cons_self
    rw [hd1, lc c hc]
    unfold rcS at H
    rw [if_neg (by rcases hs with z | z <;> rw [z] <;> decide), if_neg (by rcases hs with z | z <;> rw [z] <;> decide), if_pos hs] at H
    refine ⟨89, rf29_71 F, ok89 F, vv hc (ln89 F), 84, rf29_66 F, ok84 F, vv hc (ln84 F), ?_⟩
    rw [m84, m89]
    have nx := lk.nx
    cases r with
    | nil =>
      have nx : S.2 84 c = -1 := nx
      exact ⟨fun z => absurd nx z, fun _ => H⟩
    | cons d r =>
      have nx : S.2 84 c = Int32.ofNat d ∧ NxC S.2 d r := nx
      have hd := big d (by simp)
      rw [nx.1]
      refine ⟨fun _ => ⟨89, rf29_71 F, 84, rf29_66 F, ok84 F, vv hc (ln84 F), ok89 F, by rw [m84, nx.1]; exact vv hd (ln89 F), ?_⟩, fun z => absurd z (nm32 (by omega))⟩
      rw [m84, nx.1, lc d hd, m89]
      exact H
  refine ⟨fun e => ?_, fun e => ?_, fun e => ?_, fun e => ?_, fun e => ?_, fun e => ?_, fun e => ?_, fun e => ?_, fun e => ?_, fun e => ?_⟩
  · rw [e] at H; exact H
  · rw [e] at H
    refine ⟨88, rf29_70 F, ok88 F, vv hn2 (ln88 F), ?_⟩
    rw [m88]
    exact H
  · obtain ⟨c, r, el⟩ := cons (Or.inl e)
    rw [e] at H
    exact pre 4 (Or.inl rfl) c r el H
  · obtain ⟨c, r, el⟩ := cons (Or.inr (Or.inl e))
    rw [e] at H
    exact pre 5 (Or.inr rfl) c r el H
  · obtain ⟨c, r, el⟩ := cons (Or.inr (Or.inr (Or.inl e)))
    rw [e] at H
    subst el
    rw [hd1]
    refine cd_seq (h := h + 2) hB r c 1 lk.nx big ?_
    have H : Q (some (.int (((c :: r).map (S.2 89)).foldl seF 1))) M := H
    rw [List.foldl_map] at H
    exact H
  · obtain ⟨c, r, el⟩ := cons (Or.inr (Or.inr (Or.inr (Or.inl e))))
    rw [e] at H
    subst el
    have hc := big c List.mem_cons_self
    rw [hd1, lc c hc]
    refine ⟨89, rf29_71 F, ok89 F, vv hc (ln89 F), ?_⟩
    rw [m89]
    exact H
  · obtain ⟨c, r, el⟩ := cons (Or.inr (Or.inr (Or.inr (Or.inr (Or.inl e)))))
    rw [e] at H
    subst el
    have hc := big c List.mem_cons_self
    rw [hd1, lc c hc]
    refine ⟨89, rf29_71 F, ok89 F, vv hc (ln89 F), ?_⟩
    rw [m89]
    exact H
  · obtain ⟨c, r, el⟩ := cons (Or.inr (Or.inr (Or.inr (Or.inr (Or.inr (Or.inl e))))))
    rw [e] at H
    subst el
    have hc := big c List.mem_cons_self
    rw [hd1, lc c hc]
    refine ⟨89, rf29_71 F, ok89 F, vv hc (ln89 F), 84, rf29_66 F, ok84 F, vv hc (ln84 F), ?_⟩
    rw [m89, m84]
    have H : Q (some (.int ((r.map (S.2 89)).foldl pjF (S.2 89 c)))) M := H
    rw [List.foldl_map] at H
    refine cd_all (h := h + 1) hB r (S.2 89 c) _ ?_ (fun z hz => big z (List.mem_cons_of_mem _ hz)) H
    have nx := lk.nx
    cases r with
    | nil => exact nx
    | cons d r => exact nx
  · obtain ⟨c, r, el⟩ := cons (Or.inr (Or.inr (Or.inr (Or.inr (Or.inr (Or.inr e))))))
    rw [e] at H
    subst el
    have hc := big c List.mem_cons_self
    rw [hd1, lc c hc]
    refine ⟨89, rf29_71 F, ok89 F, vv hc (ln89 F), 89, rf29_71 F, ok89 F, vv hc (ln89 F), 89, rf29_71 F, ok89 F, vv hc (ln89 F), ?_⟩
    rw [m89]
    exact H
  · have ne : ∀ k : Int32, ¬ (k.toInt < 2 ∨ 10 < k.toInt) → so ≠ k := fun k hk z => hk (by rw [← z]; exact e)
    unfold rcS at H
    rw [if_neg (ne 2 (by decide)), if_neg (ne 3 (by decide)), if_neg (by rintro (z | z); exact ne 4 (by decide) z; exact ne 5 (by decide) z), if_neg (ne 6 (by decide)), if_neg (ne 7 (by decide)), if_neg (ne 8 (by decide)), if_neg (ne 9 (by decide)), if_neg (ne 10 (by decide))] at H
    exact H
end
