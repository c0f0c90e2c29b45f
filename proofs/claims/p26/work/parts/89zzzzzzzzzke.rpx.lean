section
/-! the reference's part1 and look, exactly -/
/-- the outputs, bit by bit -/
def ouM (M : Mem) (m S : Nat) : Int32 := shM (fun s => decide (mAI M 38 (16 * m + s) = 1)) S
theorem ouM_y {M : Mem} {m s : Nat} (h : mAI M 38 (16 * m + s) = 1) : ouM M m (s + 1) = ouM M m s ||| ((1 : Int32) <<< (Int32.ofNat s &&& 31)) := by
  unfold ouM
  show (if decide (mAI M 38 (16 * m + s) = 1) = true then _ else _) = _
  rw [if_pos (decide_eq_true h)]
theorem ouM_n {M : Mem} {m s : Nat} (h : ¬ mAI M 38 (16 * m + s) = 1) : ouM M m (s + 1) = ouM M m s ||| 0 := by
  unfold ouM
  show (if decide (mAI M 38 (16 * m + s) = 1) = true then _ else _) = _
  rw [if_neg (by rw [decide_eq_true_eq]; exact h), Int32.or_zero]
theorem mv_lt {s v n w : Nat} (hs : s < n) (hv : v < w) : s * w + v < n * w := by
  have : (s + 1) * w ≤ n * w := Nat.mul_le_mul_right _ hs
  rw [Nat.succ_mul] at this
  omega
section
variable {Y : XsT} {o : Int32} {t n m : Nat} {f g : Nat → Nat} {M : Mem}
/-- one parting that changed nothing -/
theorem Nx1.cl (hY : OkX t Y) (hn : n = Y.1.length) (h : Nx1 Y o t n f g) (e : ∀ s, s < n → f s = g s) : Nx1 Y o t n g g := fun s hs => by
  obtain ⟨a1, a2, a3⟩ := h s hs
  exact ⟨a1, a2.cg hY hn e (by omega) hs, fun c hc al => a3 c hc (al.cg hY hn (fun s hs => (e s hs).symm) (by omega) hs)⟩
theorem gO_n {d : Int32} (h : d < 0) : gO f d = d := if_pos h
theorem gO_q {q : Nat} (h : q < 48) : gO f (Int32.ofNat q) = Int32.ofNat (f q) := by
  unfold gO
  rw [if_neg (nn32 (by omega)), lt32 (by omega)]
theorem alk_iff (hY : OkX t Y) (hn : n = Y.1.length) (n48 : n ≤ 48) (hT : ∀ s v, s < n → v < 2 ^ t → mAI M 129 (32 * (48 * m + s) + v) = Y.2.1 s v ∧ mAI M 130 (32 * (48 * m + s) + v) = Y.2.2 s v) (hC : ∀ s, s < n → mAI M 128 (48 * m + s) = Int32.ofNat (f s) ∧ f s ≤ s) {a b : Nat} (ha : a < n) (hb : b < n) : alkR M m t o a b ↔ alK Y o t f a b := by
  have e0 : (mAI M 128 (48 * m + a) = mAI M 128 (48 * m + b)) ↔ f a = f b := by
    rw [(hC a ha).1, (hC b hb).1]
    have h1 := (hC a ha).2
    have h2 := (hC b hb).2
    exact ⟨fun e => inj32 (by omega) (by omega) e, fun e => by rw [e]⟩
  have ev : ∀ v, v < 2 ^ t → (alV M m o a b v ↔ (gO f (Y.2.1 a v) = gO f (Y.2.1 b v) ∧ Y.2.2 a v &&& o = Y.2.2 b v &&& o)) := fun v hv => by
    unfold alV
    rw [(hT a v ha hv).1, (hT a v ha hv).2, (hT b v hb hv).1, (hT b v hb hv).2]
    have ng : ∀ s, s < n → ∀ {d : Int32}, d = Y.2.1 s v → (d < 0 ∧ gO f d = d) ∨ ∃ q, q < n ∧ d = Int32.ofNat q ∧ ¬ d < 0 ∧ gO f d = Int32.ofNat (f q) ∧ f q ≤ q ∧ d.toNatClampNeg = q := fun s hs d ed => by
      rcases hY.2.1 s v with z | z | ⟨q, q1, q2⟩
      · exact Or.inl (by rw [ed, z]; exact ⟨by decide, gO_n (by decide)⟩)
      · exact Or.inl (by rw [ed, z]; exact ⟨by decide, gO_n (by decide)⟩)
      · exact Or.inr ⟨q, by omega, by rw [ed, q2], by rw [ed, q2]; exact nn32 (by omega), by rw [ed, q2]; exact gO_q (by omega), (hC q (by omega)).2, by rw [ed, q2]; exact lt32 (by omega)⟩
    generalize ea : Y.2.1 a v = da
    generalize eb : Y.2.1 b v = db
    have h1 := ng a ha ea.symm
    have h2 := ng b hb eb.symm
    refine and_congr_left' ?_
    rcases h1 with ⟨n1, g1⟩ | ⟨q1, l1, e1, n1, g1, f1, c1⟩
    · rcases h2 with ⟨n2, g2⟩ | ⟨q2, l2, e2, n2, g2, f2, c2⟩
      · rw [g1, g2]
        exact ⟨fun z => z.elim (fun y => absurd n1 y.1) (fun y => y.2), fun z => Or.inr ⟨n1, z⟩⟩
      · rw [g1, g2]
        refine ⟨fun z => z.elim (fun y => absurd n1 y.1) (fun y => ?_), fun z => ?_⟩
        · rw [y.2] at n1; exact absurd n1 n2
        · rw [z] at n1; exact absurd n1 (nn32 (by omega))
    · rcases h2 with ⟨n2, g2⟩ | ⟨q2, l2, e2, n2, g2, f2, c2⟩
      · rw [g1, g2]
        refine ⟨fun z => z.elim (fun y => absurd n2 y.2.1) (fun y => absurd y.1 n1), fun z => ?_⟩
        rw [← z] at n2; exact absurd n2 (nn32 (by omega))
      · rw [g1, g2, c1, c2, (hC q1 l1).1, (hC q2 l2).1]
        exact ⟨fun z => z.elim (fun y => y.2.2) (fun y => absurd y.1 n1), fun z => Or.inl ⟨n1, n2, z⟩⟩
  exact ⟨fun z => ⟨e0.mp z.1, fun v hv => (ev v hv).mp (z.2 v hv)⟩, fun z => ⟨e0.mpr z.1, fun v hv => (ev v hv).mpr (z.2 v hv)⟩⟩
end
section
variable {M M1 M' : Mem} {m n s t h a b : Nat} {Y : XsT} {Q : Option Value → Mem → Prop}
theorem R_part1x {S : Nat} (F : Fix M) (h4 : m < 4) (hr : SrI M m n) (hL : LdO M) (hf : FrE M m t) (t5 : t ≤ 5) (eS : mAI M 34 m = Int32.ofNat S) (hS : S ≤ 16) (hY : OkX t Y) (hn : n = Y.1.length) (hT : TiR M m t Y (n * 2 ^ t)) (K : ∀ M' f, SkF m M M' → (∀ c, c ≤ 127 ∨ c = 129 ∨ c = 130 → mAI M' c = mAI M c) → ClF M' m n f → GFn Y (ouM M m S) t n f → mI M' 29 = mI M 29 → Q none M') : E (h + 3) mdX11_part1 [.ref 29, .int (Int32.ofNat m)] M Q := by
  have n48 : n ≤ 48 := hr.2.1.2
  have lm : (Int32.ofNat m).toNatClampNeg = m := lt32 (by omega)
  have vm : ∀ {k : Nat}, k = 4 → vp_in (Int32.ofNat m) k := fun e => by rw [e]; exact vp_of (by omega) (by decide)
  have e48 : ∀ q : Nat, 48 * Int32.ofNat m + Int32.ofNat q = Int32.ofNat (48 * m + q) := fun q => by rw [Int32.ofNat_add, Int32.ofNat_mul]; rfl
  have l48 : ∀ q : Nat, q < 48 → (Int32.ofNat (48 * m + q)).toNatClampNeg = 48 * m + q := fun q hq => lt32 (by omega)
  have v48 : ∀ {k : Nat} (q : Nat), q < 48 → k = 192 → vp_in (Int32.ofNat (48 * m + q)) k := fun q hq e => by rw [e]; exact vp_of (by omega) (by decide)
  have v1 : ∀ {k : Nat} (q : Nat), q < 48 → k = 48 → vp_in (Int32.ofNat q) k := fun q hq e => by rw [e]; exact vp_of (by omega) (by decide)
  obtain ⟨o, eo⟩ : ∃ o, o = ouM M m S := ⟨_, rfl⟩
  rw [← eo] at K
  -- alike, by the rows and in the middle
  have ak : ∀ M1 f, (∀ c, c ≤ 127 ∨ c = 129 ∨ c = 130 → mAI M1 c = mAI M c) → (∀ s, s < n → mAI M1 128 (48 * m + s) = Int32.ofNat (f s) ∧ f s ≤ s) → ∀ a b, a < n → b < n → (alkR M1 m t o a b ↔ alK Y o t f a b) := fun M1 f r1 c1 a b ha hb => alk_iff hY hn n48 (fun s v hs hv => by rw [r1 129 (by omega), r1 130 (by omega)]; exact hT.2.2 s v (by omega) hv (mv_lt hs hv)) c1 ha hb
  -- what stays
  have st : ∀ M1, (∀ c, c ≤ 127 ∨ c = 129 ∨ c = 130 → mAI M1 c = mAI M c) → SkF m M M1 → Fix M1 ∧ mAI M1 123 m = Int32.ofNat n ∧ LdO M1 ∧ FrE M1 m t := fun M1 r1 k1 => ⟨k1.fix F, by rw [r1 123 (by omega)]; exact hr.1, hL.k (r1 129 (by omega)), hf.sk k1⟩
  have r128 : ∀ {M1 M2 : Mem} {k : Nat} {v : Int32} {b : Nat}, (∀ c, c ≤ 127 ∨ c = 129 ∨ c = 130 → mAI M1 c = mAI M c) → (b = 128 ∨ b = 131) → M2 = wAI M1 b k v → ∀ c, c ≤ 127 ∨ c = 129 ∨ c = 130 → mAI M2 c = mAI M c := fun {M1 M2 k v b} r1 hb e c hc => by
    rw [e]
    exact (up2_row (by omega)).trans (r1 c hc)
  have rnd : ∀ (f : Nat → Nat) M1, (∀ c, c ≤ 127 ∨ c = 129 ∨ c = 130 → mAI M1 c = mAI M c) → SkF m M M1 → mI M1 29 = mI M 29 → ClF M1 m n f → (∀ g M5 (x3 : Int32), (∀ s, s < n → f s ≤ g s ∧ g s ≤ s) → Nx1 Y o t n f g → ((x3 = 0 ∧ ∀ s, s < n → f s = g s) ∨ (x3 = 1 ∧ ∃ s, s < n ∧ f s < g s)) → (∀ c, c ≤ 127 ∨ c = 129 ∨ c = 130 → mAI M5 c = mAI M c) → SkF m M M5 → mI M5 29 = mI M 29 → ClF M5 m n g → T (h + 3) mdX11_part1 77 [(0, .ref 29), (1, .int (Int32.ofNat m)), (2, .int o), (3, .int x3)] [] M5 Q) → T (h + 3) mdX11_part1 86 [(0, .ref 29), (1, .int (Int32.ofNat m)), (2, .int o), (3, .int 0), (4, .int (Int32.ofNat 0))] [] M1 Q := by
    intro f M1 r1 k1 g1 hC H
    -- the new classes are laid down
    have l137 : ∀ d s (x3 : Int32) (g : Nat → Nat) M3, s + d = n → (∀ q, q < n → f q ≤ g q ∧ g q ≤ q) → Nx1 Y o t n f g → (∀ c, c ≤ 127 ∨ c = 129 ∨ c = 130 → mAI M3 c = mAI M c) → SkF m M M3 → mI M3 29 = mI M 29 → (∀ q, q < n → mAI M3 131 q = Int32.ofNat (g q)) → (∀ q, q < n → mAI M3 128 (48 * m + q) = Int32.ofNat (if q < s then g q else f q)) → ((x3 = 0 ∧ ∀ q, q < s → f q = g q) ∨ (x3 = 1 ∧ ∃ q, q < n ∧ f q < g q)) → T (h + 3) mdX11_part1 137 [(0, .ref 29), (1, .int (Int32.ofNat m)), (2, .int o), (3, .int x3), (4, .int (Int32.ofNat s))] [] M3 Q := by
      intro d
      induction d with
      | zero =>
        intro s x3 g M3 hs fg nx1 r3 k3 g3 n3 c3 hx
        obtain ⟨F3, e3, -, -⟩ := st M3 r3 k3
        refine VX11_part1_137 (h := h + 2) ?_
        unfold DX11_part1_137
        refine ⟨ok29 F3, 123, rf29_115 F3, ok123 F3, vm (ln123 F3), ?_⟩
        rw [lm, e3]
        refine ⟨fun _ => H g M3 x3 fg nx1 (hx.imp (fun y => ⟨y.1, fun q hq => y.2 q (by omega)⟩) id) r3 k3 g3 (fun q hq => ⟨?_, (fg q hq).2⟩), fun z => absurd ((le32 (by omega) (by omega)).mpr (by omega)) z⟩
        rw [c3 q hq, if_pos (by omega)]
      | succ d ih =>
        intro s x3 g M3 hs fg nx1 r3 k3 g3 n3 c3 hx
        obtain ⟨F3, e3, -, -⟩ := st M3 r3 k3
        have sn : s < n := by omega
        have lq : (Int32.ofNat s).toNatClampNeg = s := lt32 (by omega)
        have nx : ∀ x3 : Int32, ((x3 = 0 ∧ ∀ q, q < s + 1 → f q = g q) ∨ (x3 = 1 ∧ ∃ q, q < n ∧ f q < g q)) → DX11_part1_179 (h + 2) 29 (Int32.ofNat m) o (Int32.ofNat s) x3 M3 Q := by
          intro x3 hx
          unfold DX11_part1_179
          rw [e48, l48 s (by omega), lq, succ32]
          refine ⟨ok29 F3, 128, rf29_120 F3, 131, rf29_125 F3, ok131 F3, v1 s (by omega) (ln131 F3), ok128 F3, v48 s (by omega) (ln128 F3), fun M6 e6 => ?_⟩
          rw [n3 s sn] at e6
          refine ih (s + 1) x3 g M6 (by omega) fg nx1 (r128 r3 (Or.inl rfl) e6) (k3.tr (SkF.ai (c := 128) (k := 48 * m + s) (by unfold skA; omega) e6)) (by rw [e6]; exact g3) (fun q hq => ?_) (fun q hq => ?_) hx
          · rw [e6, mAI_wAI, if_neg (fun y => absurd y.1 (by decide))]; exact n3 q hq
          · rw [e6, mAI_wAI]
            by_cases z : q = s
            · rw [if_pos ⟨rfl, by omega⟩, if_pos (by omega), z]
            · rw [if_neg (fun y => z (by have := y.2; omega)), c3 q hq]
              by_cases y : q < s
              · rw [if_pos y, if_pos (by omega)]
              · rw [if_neg y, if_neg (by omega)]
        refine VX11_part1_137 (h := h + 2) ?_
        unfold DX11_part1_137 DX11_part1_174
        refine ⟨ok29 F3, 123, rf29_115 F3, ok123 F3, vm (ln123 F3), ?_⟩
        rw [lm, e3, e48, l48 s (by omega), lq]
        refine ⟨fun z => absurd ((le32 (by omega) (by omega)).mp z) (by omega), fun _ => ⟨fun z => nx 1 (Or.inr ⟨rfl, (hx.resolve_left (fun y => z y.1)).2⟩), fun z => ⟨128, rf29_120 F3, ok128 F3, v48 s (by omega) (ln128 F3), 131, rf29_125 F3, ok131 F3, v1 s (by omega) (ln131 F3), fun y => nx 0 (Or.inl ⟨rfl, ?_⟩), fun y => nx 1 (Or.inr ⟨rfl, s, sn, ?_⟩)⟩⟩⟩
        · rw [n3 s sn, c3 s sn, if_neg (Nat.lt_irrefl s)] at y
          have q := fg s sn
          have es : f s = g s := inj32 (by omega) (by omega) y
          intro r hr
          by_cases w : r = s
          · rw [w]; exact es
          · rcases hx with hx | hx
            · exact hx.2 r (by omega)
            · rw [hx.1] at z; exact absurd z (by decide)
        · rw [n3 s sn, c3 s sn, if_neg (Nat.lt_irrefl s)] at y
          have q := fg s sn
          rcases Nat.lt_or_ge (f s) (g s) with w | w
          · exact w
          · exact absurd (by rw [show f s = g s by omega]) y
    -- the new classes are found
    have l86 : ∀ d s (g : Nat → Nat) M3, s + d = n → (∀ q, q < s → f q ≤ g q ∧ g q ≤ q) → Nx1 Y o t s f g → (∀ c, c ≤ 127 ∨ c = 129 ∨ c = 130 → mAI M3 c = mAI M c) → mAI M3 128 = mAI M1 128 → SkF m M M3 → mI M3 29 = mI M 29 → (∀ q, q < s → mAI M3 131 q = Int32.ofNat (g q)) → T (h + 3) mdX11_part1 86 [(0, .ref 29), (1, .int (Int32.ofNat m)), (2, .int o), (3, .int 0), (4, .int (Int32.ofNat s))] [] M3 Q := by
      intro d
      induction d with
      | zero =>
        intro s g M3 hs fg nx1 r3 q3 k3 g3 n3
        have es : s = n := by omega
        subst es
        obtain ⟨F3, e3, -, -⟩ := st M3 r3 k3
        refine VX11_part1_86 (h := h + 2) ?_
        unfold DX11_part1_86
        refine ⟨ok29 F3, 123, rf29_115 F3, ok123 F3, vm (ln123 F3), ?_⟩
        rw [lm, e3]
        refine ⟨fun _ => l137 s 0 0 g M3 (by omega) fg nx1 r3 k3 g3 n3 (fun q hq => ?_) (Or.inl ⟨rfl, fun q hq => absurd hq (Nat.not_lt_zero _)⟩), fun z => absurd Int32.le_rfl z⟩
        rw [q3, if_neg (Nat.not_lt_zero _)]
        exact (hC q hq).1
      | succ d ih =>
        intro s g M3 hs fg nx1 r3 q3 k3 g3 n3
        have sn : s < n := by omega
        obtain ⟨F3, e3, hL3, hf3⟩ := st M3 r3 k3
        have lq : (Int32.ofNat s).toNatClampNeg = s := lt32 (by omega)
        have c3 : ∀ q, q < n → mAI M3 128 (48 * m + q) = Int32.ofNat (f q) ∧ f q ≤ q := fun q hq => by rw [q3]; exact hC q hq
        have l100 : ∀ e c, c + e = s → (∀ b, b < c → ¬ alK Y o t f b s) → T (h + 3) mdX11_part1 100 [(0, .ref 29), (1, .int (Int32.ofNat m)), (2, .int o), (3, .int 0), (4, .int (Int32.ofNat s)), (5, .int (Int32.ofNat c))] [] M3 Q := by
          intro e
          induction e with
          | zero =>
            intro c hc no
            have ec : c = s := by omega
            subst ec
            refine VX11_part1_100 (h := h + 2) ?_
            unfold DX11_part1_100
            refine ⟨ok29 F3, R_alike (h := h) F3 h4 hL3 hf3 t5 (by omega) (by omega) (fun r hr hi _ => ⟨r, rfl, fun _ => ⟨131, rf29_125 F3, ok131 F3, v1 c (by omega) (ln131 F3), fun M6 e6 => ?_⟩, fun z => ?_⟩)⟩
            · rw [lq] at e6
              rw [succ32]
              refine ih (c + 1) (fun q => if q = c then c else g q) M6 (by omega) (fun q hq => ?_) (fun q hq => ?_) (r128 r3 (Or.inr rfl) e6) ((aiN e6 (by decide)).trans q3) (k3.tr (SkF.ai9 e6)) (by rw [e6]; exact g3) (fun q hq => ?_)
              · by_cases z : q = c
                · rw [if_pos z, z]; exact ⟨(hC c sn).2, Nat.le_refl _⟩
                · rw [if_neg z]; exact fg q (by omega)
              · by_cases z : q = c
                · show (if q = c then c else g q) ≤ q ∧ alK Y o t f (if q = c then c else g q) q ∧ ∀ d, d < (if q = c then c else g q) → ¬ alK Y o t f d q
                  rw [if_pos z, z]; exact ⟨Nat.le_refl _, alK.rf, no⟩
                · show (if q = c then c else g q) ≤ q ∧ alK Y o t f (if q = c then c else g q) q ∧ ∀ d, d < (if q = c then c else g q) → ¬ alK Y o t f d q
                  rw [if_neg z]; exact nx1 q (by omega)
              · rw [e6, mAI_wAI]
                by_cases z : q = c
                · rw [if_pos ⟨rfl, z⟩, if_pos z]
                · rw [if_neg (fun y => z y.2), if_neg z]; exact n3 q (by omega)
            · rw [hi.mpr ⟨rfl, fun v _ => alV.rf⟩] at z
              exact absurd z (by decide)
          | succ e ihe =>
            intro c hc no
            refine VX11_part1_100 (h := h + 2) ?_
            unfold DX11_part1_100
            refine ⟨ok29 F3, R_alike (h := h) F3 h4 hL3 hf3 t5 (by omega) (by omega) (fun r hr hi _ => ⟨r, rfl, fun z => ⟨131, rf29_125 F3, ok131 F3, v1 s (by omega) (ln131 F3), fun M6 e6 => ?_⟩, fun z => ?_⟩)⟩
            · rw [lq] at e6
              rw [succ32]
              have al := (hi.mp (hr.resolve_left z)).1
              rw [q3, (hC c (by omega)).1, (hC s sn).1] at al
              have e9 : f c = f s := by
                have b1 := (hC c (by omega)).2
                have b2 := (hC s sn).2
                exact inj32 (by omega) (by omega) al
              refine ih (s + 1) (fun q => if q = s then c else g q) M6 (by omega) (fun q hq => ?_) (fun q hq => ?_) (r128 r3 (Or.inr rfl) e6) ((aiN e6 (by decide)).trans q3) (k3.tr (SkF.ai9 e6)) (by rw [e6]; exact g3) (fun q hq => ?_)
              · by_cases z : q = s
                · rw [if_pos z, z, ← e9]; exact ⟨(hC c (by omega)).2, by omega⟩
                · rw [if_neg z]; exact fg q (by omega)
              · show (if q = s then c else g q) ≤ q ∧ alK Y o t f (if q = s then c else g q) q ∧ ∀ d, d < (if q = s then c else g q) → ¬ alK Y o t f d q
                by_cases y : q = s
                · rw [if_pos y, y]; exact ⟨by omega, (ak M3 f r3 c3 c s (by omega) sn).mp (hi.mp (hr.resolve_left z)), no⟩
                · rw [if_neg y]; exact nx1 q (by omega)
              · rw [e6, mAI_wAI]
                by_cases z : q = s
                · rw [if_pos ⟨rfl, z⟩, if_pos z]
                · rw [if_neg (fun y => z y.2), if_neg z]; exact n3 q (by omega)
            · rw [succ32]
              refine ihe (c + 1) (by omega) (fun b hb al => ?_)
              by_cases y : b = c
              · rw [y] at al
                rw [hi.mpr ((ak M3 f r3 c3 c s (by omega) sn).mpr al)] at z
                exact absurd z (by decide)
              · exact no b (by omega) al
        refine VX11_part1_86 (h := h + 2) ?_
        unfold DX11_part1_86
        refine ⟨ok29 F3, 123, rf29_115 F3, ok123 F3, vm (ln123 F3), ?_⟩
        rw [lm, e3]
        exact ⟨fun z => absurd ((le32 (by omega) (by omega)).mp z) (by omega), fun _ => l100 s 0 (by omega) (fun b hb => absurd hb (Nat.not_lt_zero _))⟩
    exact l86 n 0 (fun _ => 0) M1 (by omega) (fun q hq => absurd hq (Nat.not_lt_zero _)) (fun q hq => absurd hq (Nat.not_lt_zero _)) r1 rfl k1 g1 (fun q hq => absurd hq (Nat.not_lt_zero _))
  have l77 : ∀ w r (x3 : Int32) (f : Nat → Nat) M1, wgS f n ≤ w → (∀ c, c ≤ 127 ∨ c = 129 ∨ c = 130 → mAI M1 c = mAI M c) → SkF m M M1 → mI M1 29 = mI M 29 → ClF M1 m n f → GRn Y o t n r f → (x3 = 0 → Nx1 Y o t n f f) → T (h + 3) mdX11_part1 77 [(0, .ref 29), (1, .int (Int32.ofNat m)), (2, .int o), (3, .int x3)] [] M1 Q := by
    intro w
    induction w with
    | zero =>
      intro r x3 f M1 hw r1 k1 g1 hC gr gx
      refine VX11_part1_77 (h := h + 2) ?_
      unfold DX11_part1_77
      refine ⟨fun z => K M1 f k1 r1 hC ⟨r, gr, gx z⟩ g1, fun _ => rnd f M1 r1 k1 g1 hC (fun g M5 x5 fg nx1 hx r5 k5 g5 C5 => ?_)⟩
      rcases hx with ⟨hx, he⟩ | ⟨-, hq⟩
      · rw [hx]
        refine VX11_part1_77 (h := h + 2) ?_
        unfold DX11_part1_77
        exact ⟨fun _ => K M5 g k5 r5 C5 ⟨r + 1, ⟨f, gr, nx1⟩, nx1.cl hY hn he⟩ g5, fun z => absurd rfl z⟩
      · exact absurd (wgS_lt n fg hq) (by omega)
    | succ w ih =>
      intro r x3 f M1 hw r1 k1 g1 hC gr gx
      refine VX11_part1_77 (h := h + 2) ?_
      unfold DX11_part1_77
      refine ⟨fun z => K M1 f k1 r1 hC ⟨r, gr, gx z⟩ g1, fun _ => rnd f M1 r1 k1 g1 hC (fun g M5 x5 fg nx1 hx r5 k5 g5 C5 => ?_)⟩
      rcases hx with ⟨hx, he⟩ | ⟨h1, hq⟩
      · rw [hx]
        refine VX11_part1_77 (h := h + 2) ?_
        unfold DX11_part1_77
        exact ⟨fun _ => K M5 g k5 r5 C5 ⟨r + 1, ⟨f, gr, nx1⟩, nx1.cl hY hn he⟩ g5, fun z => absurd rfl z⟩
      · exact ih (r + 1) x5 g M5 (by have := wgS_lt n fg hq; omega) r5 k5 g5 C5 ⟨f, gr, nx1⟩ (fun z => by rw [h1] at z; exact absurd z (by decide))
  have l47 : ∀ d s M1, s + d = n → (∀ c, c ≤ 127 ∨ c = 129 ∨ c = 130 → mAI M1 c = mAI M c) → SkF m M M1 → mI M1 29 = mI M 29 → (∀ q, q < s → mAI M1 128 (48 * m + q) = Int32.ofNat 0) → T (h + 3) mdX11_part1 47 [(0, .ref 29), (1, .int (Int32.ofNat m)), (2, .int o), (3, .int (Int32.ofNat s))] [] M1 Q := by
    intro d
    induction d with
    | zero =>
      intro s M1 hs r1 k1 g1 c1
      have es : s = n := by omega
      subst es
      obtain ⟨F1, e1, -, -⟩ := st M1 r1 k1
      refine VX11_part1_47 (h := h + 2) ?_
      unfold DX11_part1_47
      refine ⟨ok29 F1, 123, rf29_115 F1, ok123 F1, vm (ln123 F1), ?_⟩
      rw [lm, e1]
      exact ⟨fun _ => l77 _ 0 1 (fun _ => 0) M1 (Nat.le_refl _) r1 k1 g1 (fun q hq => ⟨c1 q hq, Nat.zero_le _⟩) (fun _ _ => rfl) (fun z => absurd z (by decide)), fun z => absurd Int32.le_rfl z⟩
    | succ d ih =>
      intro s M1 hs r1 k1 g1 c1
      obtain ⟨F1, e1, -, -⟩ := st M1 r1 k1
      refine VX11_part1_47 (h := h + 2) ?_
      unfold DX11_part1_47
      refine ⟨ok29 F1, 123, rf29_115 F1, ok123 F1, vm (ln123 F1), ?_⟩
      rw [lm, e1, e48, l48 s (by omega), succ32]
      refine ⟨fun z => absurd ((le32 (by omega) (by omega)).mp z) (by omega), fun _ => ⟨128, rf29_120 F1, ok128 F1, v48 s (by omega) (ln128 F1), fun M6 e6 => ?_⟩⟩
      refine ih (s + 1) M6 (by omega) (r128 r1 (Or.inl rfl) e6) (k1.tr (SkF.ai (c := 128) (k := 48 * m + s) (by unfold skA; omega) e6)) (by rw [e6]; exact g1) (fun q hq => ?_)
      rw [e6, mAI_wAI]
      by_cases z : q = s
      · rw [if_pos ⟨rfl, by omega⟩]; rfl
      · rw [if_neg (fun y => z (by have := y.2; omega))]; exact c1 q (by omega)
  have l4 : ∀ d s, s + d = S → T (h + 3) mdX11_part1 4 [(0, .ref 29), (1, .int (Int32.ofNat m)), (2, .int (ouM M m s)), (3, .int (Int32.ofNat s))] [] M Q := by
    intro d
    induction d with
    | zero =>
      intro s hs
      have es : s = S := by omega
      subst es
      refine VX11_part1_4 (h := h + 2) ?_
      unfold DX11_part1_4
      refine ⟨ok29 F, 34, rf29_8 F, ok34 F, vm (ln34 F), ?_⟩
      rw [lm, eS, ← eo]
      exact ⟨fun _ => l47 n 0 M (by omega) (fun _ _ => rfl) SkF.rf rfl (fun q hq => absurd hq (Nat.not_lt_zero _)), fun z => absurd Int32.le_rfl z⟩
    | succ d ih =>
      intro s hs
      have nx := ih (s + 1) (by omega)
      have e16 : 16 * Int32.ofNat m + Int32.ofNat s = Int32.ofNat (16 * m + s) := by rw [Int32.ofNat_add, Int32.ofNat_mul]; rfl
      have l16 : (Int32.ofNat (16 * m + s)).toNatClampNeg = 16 * m + s := lt32 (by omega)
      refine VX11_part1_4 (h := h + 2) ?_
      unfold DX11_part1_4 DX11_part1_37
      refine ⟨ok29 F, 34, rf29_8 F, ok34 F, vm (ln34 F), ?_⟩
      rw [lm, eS, e16, succ32, l16]
      refine ⟨fun z => absurd ((le32 (by omega) (by omega)).mp z) (by omega), fun _ => ⟨38, rf29_12 F, ok38 F, by rw [ln38 F]; exact vp_of (by omega) (by decide), fun z => ?_, fun z => ?_⟩⟩
      · rw [← ouM_n z]; exact nx
      · rw [← ouM_y z]; exact nx
  refine KX11_part1 (h := h + 2) ?_
  unfold DX11_part1_0
  exact l4 S 0 (by omega)
end
/-- signals behind some pre, bit by bit -/
def asM (M : Mem) (m S : Nat) : Int32 := shM (fun s => decide (¬ mAI M 40 (16 * m + s) = 0)) S
theorem asM_y {M : Mem} {m s : Nat} (h : ¬ mAI M 40 (16 * m + s) = 0) : asM M m (s + 1) = asM M m s ||| ((1 : Int32) <<< (Int32.ofNat s &&& 31)) := by
  unfold asM
  show (if decide (¬ mAI M 40 (16 * m + s) = 0) = true then _ else _) = _
  rw [if_pos (decide_eq_true h)]
theorem asM_n {M : Mem} {m s : Nat} (h : mAI M 40 (16 * m + s) = 0) : asM M m (s + 1) = asM M m s ||| 0 := by
  unfold asM
  show (if decide (¬ mAI M 40 (16 * m + s) = 0) = true then _ else _) = _
  rw [if_neg (by rw [decide_eq_true_eq]; exact fun z => z h), Int32.or_zero]
theorem dm_w {s v w : Nat} (hv : v < w) : (s * w + v) / w = s ∧ (s * w + v) % w = v := by
  have hw : 0 < w := by omega
  rw [Nat.add_comm]
  exact ⟨by rw [Nat.add_mul_div_right _ _ hw, Nat.div_eq_of_lt hv, Nat.zero_add], by rw [Nat.add_mul_mod_self_right, Nat.mod_eq_of_lt hv]⟩
theorem RnX.nx {C : CoT} {ask : Int32} {t s v : Nat} {Y : XsT} {o : OcT} (h : RnX C ask t (s * 2 ^ t + v) Y false) (hs : s < Y.1.length) (hv : v < 2 ^ t) (c : C (stX Y s).1 (stX Y s).2.1 (decide (s = 0)) v o) : RnX C ask t (s * 2 ^ t + v + 1) (stpX ask Y s v o).1 (stpX ask Y s v o).2 := by
  obtain ⟨d1, d2⟩ := dm_w (s := s) hv
  exact ⟨Y, o, h, by rw [d1]; exact hs, by rw [d1, d2]; exact c, by rw [d1, d2]⟩
/-- a module's search, exactly: not made, beyond, or made -/
def SrX (C : CoT) (ask o : Int32) (t : Nat) (M : Mem) (m : Nat) : Prop := mAI M 122 m = 0 ∨ (mAI M 122 m = 2 ∧ (5 < t ∨ ∃ Y, FnX C ask t Y true)) ∨ (mAI M 122 m = 1 ∧ t ≤ 5 ∧ ∃ Y f, FnX C ask t Y false ∧ SrI M m Y.1.length ∧ TiR M m t Y (Y.1.length * 2 ^ t) ∧ ClF M m Y.1.length f ∧ GFn Y o t Y.1.length f)
section
variable {M M1 M' : Mem} {m i n s t h y : Nat} {Q : Option Value → Mem → Prop} {R : RMo} {sl il : List Nat} {X : List Nd} {np : Nat}
theorem stp_ge {ask : Int32} {Y : XsT} {s v : Nat} {o : OcT} : Y.1.length ≤ (stpX ask Y s v o).1.1.length := by
  rcases o with _ | ⟨w, e, p⟩
  · exact Nat.le_refl _
  cases e with
  | true => exact Nat.le_refl _
  | false =>
    cases ef : fdX Y.1 p (w &&& ask) with
    | some q => rw [stp_f ef]; exact Nat.le_refl _
    | none =>
      by_cases z : Y.1.length < 48
      · rw [stp_g ef z]
        show Y.1.length ≤ (Y.1 ++ [(p, w &&& ask, s, v)]).length
        rw [List.length_append]
        omega
      · rw [stp_b ef z]
        exact Nat.le_refl _
theorem R_lookx {S : Nat} (hB : RbM R sl il X np M) (F : Fix M) (hL : LdO M) (hG : SrG M (moM R)) (hf : FrE M (moM R) t) (t9 : t ≤ 1000) (eS : mAI M 34 (moM R) = Int32.ofNat S) (hS : S ≤ 16) (hy : inR R y) (ey : mAI M 91 (moM R) = Int32.ofNat y) (hX : SrX (CorR R il y) (asM M (moM R) S) (ouM M (moM R) S) t M (moM R)) (K : ∀ M', SkF (moM R) M M' → LdO M' → SrG M' (moM R) → SrX (CorR R il y) (asM M (moM R) S) (ouM M (moM R) S) t M' (moM R) → mAI M' 122 (moM R) ≠ 0 → Q none M') : E (h + 7) mdX11_look [.ref 29, .int (Int32.ofNat (moM R))] M Q := by
  obtain ⟨C, eC⟩ : ∃ C, C = CorR R il y := ⟨_, rfl⟩
  obtain ⟨ask, ea⟩ : ∃ ask, ask = asM M (moM R) S := ⟨_, rfl⟩
  obtain ⟨o, eo⟩ : ∃ o, o = ouM M (moM R) S := ⟨_, rfl⟩
  rw [← eC, ← ea, ← eo] at hX K
  have ou1 : ∀ M1, SkF (moM R) M M1 → ouM M1 (moM R) S = o := fun M1 k1 => by
    rw [eo]; unfold ouM; rw [k1.row (Or.inl (by decide))]
  -- what k MOVES have come to
  obtain ⟨J, eJ⟩ : ∃ J : Mem → Nat → Nat → Prop, J = fun M1 k n1 => (mAI M1 122 (moM R) = 1 ∧ ∃ Y : XsT, n1 = Y.1.length ∧ RnX C ask t k Y false ∧ TiR M1 (moM R) t Y k) ∨ (mAI M1 122 (moM R) = 2 ∧ ∃ Y, FnX C ask t Y true) := ⟨_, rfl⟩
  have m4 : moM R < 4 := hB.1.1.1
  have lm : (Int32.ofNat (moM R)).toNatClampNeg = moM R := lt32 (by omega)
  have vm : ∀ {k : Nat}, k = 4 → vp_in (Int32.ofNat (moM R)) k := fun e => by rw [e]; exact vp_of (by omega) (by decide)
  have e480 : 48 * Int32.ofNat (moM R) = Int32.ofNat (48 * moM R) := by rw [Int32.ofNat_mul]; rfl
  have v48 : ∀ {k : Nat}, k = 192 → vp_in (Int32.ofNat (48 * moM R)) k := fun e => by rw [e]; exact vp_of (by omega) (by decide)
  have l48 : (Int32.ofNat (48 * moM R)).toNatClampNeg = 48 * moM R := lt32 (by omega)
  -- its end
  have d194 : ∀ M1 n1, t ≤ 5 → SkF (moM R) M M1 → SrI M1 (moM R) n1 → LdO M1 → J M1 (n1 * 2 ^ t) n1 ∨ (mAI M1 122 (moM R) = 2 ∧ ∃ Y, FnX C ask t Y true) → DX11_look_194 (h + 6) 29 (Int32.ofNat (moM R)) M1 Q := by
    intro M1 n1 t5 k1 r1 L1 e1
    have F1 := k1.fix F
    unfold DX11_look_194 DX11_look_209
    rw [lm]
    refine ⟨ok29 F1, 122, rf29_114 F1, ok122 F1, vm (ln122 F1), fun z => ?_, fun z => ?_⟩
    · have e2 : mAI M1 122 (moM R) = 2 ∧ ∃ Y, FnX C ask t Y true := by
        rw [eJ] at e1
        rcases e1 with e1 | e1
        · exact e1.resolve_left (fun y => z y.1)
        · exact e1
      exact K M1 k1 L1 (Or.inr (Or.inl e2.1)) (Or.inr (Or.inl ⟨e2.1, Or.inr e2.2⟩)) (by rw [e2.1]; decide)
    · obtain ⟨Y, eY, rn, ti⟩ : ∃ Y : XsT, n1 = Y.1.length ∧ RnX C ask t (n1 * 2 ^ t) Y false ∧ TiR M1 (moM R) t Y (n1 * 2 ^ t) := by
        rw [eJ] at e1
        rcases e1 with (e1 | e1) | e1
        · exact e1.2
        · rw [e1.1] at z; exact absurd z (by decide)
        · rw [e1.1] at z; exact absurd z (by decide)
      refine R_part1x (h := h + 3) F1 m4 r1 L1 (hf.sk k1) t5 (by rw [k1.row (Or.inl (by decide))]; exact eS) hS (RnX.ok _ _ _ rn) eY ti (fun M2 f k2 r2 C2 gf _ _ => ⟨rfl, ?_⟩)
      rw [ou1 M1 k1] at gf
      have e2 : mAI M2 122 (moM R) = 1 := by rw [r2 122 (by omega)]; exact z
      exact K M2 (k1.tr k2) (L1.k (r2 129 (by omega))) (Or.inr (Or.inr ⟨e2, n1, t, f, r1.k (r2 123 (by omega)) (r2 126 (by omega)), (hf.sk k1).sk k2, t5, C2⟩)) (Or.inr (Or.inr ⟨e2, t5, Y, f, ⟨_, rn, Or.inr (by rw [eY])⟩, by rw [← eY]; exact r1.k (r2 123 (by omega)) (r2 126 (by omega)), by rw [← eY]; exact ti.rw (fun c h1 h2 h3 => r2 c (by omega)), by rw [← eY]; exact C2, by rw [← eY]; exact gf⟩)) (by rw [e2]; decide)
  -- STATE by STATE
  have l130 : ∀ d s M1 n1, t ≤ 5 → s + d = 48 → s ≤ n1 → SkF (moM R) M M1 → SrI M1 (moM R) n1 → LdO M1 → mI M1 29 84 = Int32.ofNat (moM R) → J M1 (s * 2 ^ t) n1 → T (h + 7) mdX11_look 130 [(0, .ref 29), (1, .int (Int32.ofNat (moM R))), (2, .int ask), (3, .int (Int32.ofNat s))] [] M1 Q := by
    intro d
    induction d with
    | zero =>
      intro s M1 n1 t5 hs sn1 k1 r1 L1 g1 e1
      have F1 := k1.fix F
      have n48 := r1.2.1.2
      refine VX11_look_130 (h := h + 6) ?_
      unfold DX11_look_130
      refine ⟨ok29 F1, 123, rf29_115 F1, ok123 F1, vm (ln123 F1), ?_⟩
      rw [lm, r1.1]
      have hs8 : s = 48 := hs
      have es : s = n1 := by omega
      exact ⟨fun _ => d194 M1 n1 t5 k1 r1 L1 (Or.inl (by rw [es] at e1; exact e1)), fun z => absurd ((le32 (a := n1) (b := s) (by omega) (by omega)).mpr (by omega)) z⟩
    | succ d ih =>
      intro s M1 n1 t5 hs sn1 k1 r1 L1 g1 e1
      have F1 := k1.fix F
      have n48 := r1.2.1.2
      obtain ⟨p1, p2⟩ := pw_le t5
      have l153 : ∀ e v M2 n2, v + e = 2 ^ t → n1 ≤ n2 → SkF (moM R) M M2 → SrI M2 (moM R) n2 → LdO M2 → mI M2 29 84 = Int32.ofNat (moM R) → s < n2 → J M2 (s * 2 ^ t + v) n2 → T (h + 7) mdX11_look 153 [(0, .ref 29), (1, .int (Int32.ofNat (moM R))), (2, .int ask), (3, .int (Int32.ofNat s)), (4, .int (Int32.ofNat v))] [] M2 Q := by
        intro e
        induction e with
        | zero =>
          intro v M2 n2 hv hn k2 r2 L2 g2 sn e2
          have F2 := k2.fix F
          have ev : v = 2 ^ t := by omega
          subst ev
          refine VX11_look_153 (h := h + 6) ?_
          unfold DX11_look_153 DX11_look_188
          rw [succ32]
          exact ⟨ok29 F2, R_moves (h := h + 5) F2 m4 (hf.sk k2) t5 (fun _ => ⟨_, rfl, fun _ => ih (s + 1) M2 n2 t5 (by omega) (by omega) k2 r2 L2 g2 (by rw [Nat.succ_mul]; exact e2), fun z => absurd Int32.le_rfl z⟩)⟩
        | succ e ihe =>
          intro v M2 n2 hv hn k2 r2 L2 g2 sn e2
          have F2 := k2.fix F
          have nle : ¬ Int32.ofNat (2 ^ t) ≤ Int32.ofNat v := fun z => by
            have := (le32 (by omega) (by omega)).mp z
            omega
          refine VX11_look_153 (h := h + 6) ?_
          unfold DX11_look_153 DX11_look_188
          rw [succ32, succ32]
          refine ⟨ok29 F2, R_moves (h := h + 5) F2 m4 (hf.sk k2) t5 (fun _ => ⟨_, rfl, fun z => absurd z nle, fun _ => ⟨122, rf29_114 F2, ok122 F2, vm (ln122 F2), fun z => ih (s + 1) M2 n2 t5 (by omega) (by omega) k2 r2 L2 g2 ?_, fun z => ?_⟩⟩)⟩
          · rw [lm] at z
            rw [eJ] at e2 ⊢
            exact Or.inr (e2.resolve_left (fun y => z y.1))
          rw [lm] at z
          obtain ⟨Y, eY, rn, ti⟩ : ∃ Y : XsT, n2 = Y.1.length ∧ RnX C ask t (s * 2 ^ t + v) Y false ∧ TiR M2 (moM R) t Y (s * 2 ^ t + v) := by
            rw [eJ] at e2
            rcases e2 with e2 | e2
            · exact e2.2
            · rw [e2.1] at z; exact absurd z (by decide)
          refine R_mv1x (h := h) (a := ask) (hB.sk k2) F2 g2 (by rw [← eY]; exact r2) L2 (by omega) t5 (by omega) z hy (by rw [k2.row (Or.inl (by decide))]; exact ey) ti (fun M3 oc k3 cor r3 L3 g3 e3 t3 _ => ⟨rfl, ihe (v + 1) M3 _ (by omega) ?_ (k2.tr k3) r3 L3 g3 ?_ ?_⟩)
          · have := stp_ge (ask := ask) (Y := Y) (s := s) (v := v) (o := oc); omega
          · have := stp_ge (ask := ask) (Y := Y) (s := s) (v := v) (o := oc); omega
          · rw [← eC] at cor
            have rn' := rn.nx (by omega) (by omega) cor
            rw [eJ]
            cases eb : (stpX ask Y s v oc).2 with
            | true =>
              rw [eb] at e3 rn'
              rw [if_pos rfl] at e3
              exact Or.inr ⟨e3, _, _, rn', Or.inl rfl⟩
            | false =>
              rw [eb] at e3 rn'
              rw [if_neg (by decide)] at e3
              exact Or.inl ⟨e3, _, rfl, rn', t3 eb⟩
      refine VX11_look_130 (h := h + 6) ?_
      unfold DX11_look_130
      refine ⟨ok29 F1, 123, rf29_115 F1, ok123 F1, vm (ln123 F1), ?_⟩
      rw [lm, r1.1]
      refine ⟨fun z => d194 M1 n1 t5 k1 r1 L1 (Or.inl ?_), fun z => ⟨122, rf29_114 F1, ok122 F1, vm (ln122 F1), fun z2 => d194 M1 n1 t5 k1 r1 L1 (Or.inr ?_), fun _ => ?_⟩⟩
      · have := (le32 (a := n1) (b := s) (by omega) (by omega)).mp z
        rw [show n1 = s by omega] at e1 ⊢
        exact e1
      · rw [eJ] at e1
        exact e1.resolve_left (fun y => z2 y.1)
      have sn : s < n1 := by
        rcases Nat.lt_or_ge s n1 with y | y
        · exact y
        · exact absurd ((le32 (by omega) (by omega)).mpr y) z
      exact l153 (2 ^ t) 0 M1 n1 (by omega) (Nat.le_refl _) k1 r1 L1 g1 sn e1
  refine KX11_look (h := h + 6) ?_
  unfold DX11_look_0
  refine ⟨ok29 F, 122, rf29_114 F, ok122 F, vm (ln122 F), ?_⟩
  rw [lm]
  refine ⟨fun z => ⟨122, rf29_114 F, ok122 F, vm (ln122 F), fun M6 e6 => ?_⟩, fun z => K M SkF.rf hL hG hX (fun y => z (by rw [y]; decide))⟩
  have k6 : SkF (moM R) M M6 := SkF.ai (c := 122) (k := moM R) (by unfold skA; omega) e6
  have F6 := k6.fix F
  obtain ⟨i, f, f1, f2, f3⟩ := hf.sk k6
  refine ⟨35, rf29_9 F6, ok35 F6, vm (ln35 F6), 56, rf29_36 F6, ok56 F6, vm (ln56 F6), ?_⟩
  rw [f1, f2, add32, f3]
  refine ⟨fun z5 => ?_, fun z5 => ⟨122, rf29_114 F6, ok122 F6, vm (ln122 F6), fun M13 e13 => ?_⟩⟩
  · have t5 : t ≤ 5 := (le32 (a := t) (b := 5) (by omega) (by decide)).mp z5
    have q6 : ∀ c, c ≠ 122 → mAI M6 c = mAI M c := fun c hc => aiN e6 hc
    have l46 : ∀ d s, s + d = S → T (h + 7) mdX11_look 46 [(0, .ref 29), (1, .int (Int32.ofNat (moM R))), (2, .int (asM M (moM R) s)), (3, .int (Int32.ofNat s))] [] M6 Q := by
      intro d
      induction d with
      | zero =>
        intro s hs
        have es : s = S := by omega
        subst es
        rw [← ea]
        refine VX11_look_46 (h := h + 6) ?_
        unfold DX11_look_46
        refine ⟨ok29 F6, 34, rf29_8 F6, ok34 F6, vm (ln34 F6), ?_⟩
        rw [lm, q6 34 (by decide), eS, e480, l48]
        refine ⟨fun _ M7 e7 => ?_, fun z => absurd Int32.le_rfl z⟩
        have k7 : SkF (moM R) M M7 := k6.tr (SkF.i (by omega) e7)
        have F7 := k7.fix F
        refine ⟨123, rf29_115 F7, ok123 F7, vm (ln123 F7), fun M8 e8 => ?_⟩
        have k8 : SkF (moM R) M M8 := k7.tr (SkF.ai (c := 123) (k := moM R) (by unfold skA; omega) e8)
        have F8 := k8.fix F
        refine ⟨124, rf29_116 F8, ok124 F8, v48 (ln124 F8), fun M10 e10 => ?_⟩
        have k10 : SkF (moM R) M M10 := k8.tr (SkF.ai (c := 124) (k := 48 * moM R) (by unfold skA; omega) e10)
        have F10 := k10.fix F
        refine ⟨125, rf29_117 F10, ok125 F10, v48 (ln125 F10), fun M12 e12 => ?_⟩
        have k12 : SkF (moM R) M M12 := k10.tr (SkF.ai (c := 125) (k := 48 * moM R) (by unfold skA; omega) e12)
        have F12 := k12.fix F
        refine ⟨126, rf29_118 F12, ok126 F12, v48 (ln126 F12), fun M16 e16 => ?_⟩
        have k16 : SkF (moM R) M M16 := k12.tr (SkF.ai (c := 126) (k := 48 * moM R) (by unfold skA; omega) e16)
        refine l130 48 0 M16 1 t5 (by omega) (by omega) k16 ⟨?_, ⟨by omega, by omega⟩, ?_, fun s s1 s2 => by omega⟩ (hL.k ?_) ?_ ?_
        · rw [e16, mAI_wAI, if_neg (fun y => absurd y.1 (by decide)), e12, mAI_wAI, if_neg (fun y => absurd y.1 (by decide)), e10, mAI_wAI, if_neg (fun y => absurd y.1 (by decide)), e8, mAI_wAI, if_pos ⟨rfl, rfl⟩]; rfl
        · rw [e16, mAI_wAI, if_pos ⟨rfl, rfl⟩]
        · exact (aiN e16 (by decide)).trans ((aiN e12 (by decide)).trans ((aiN e10 (by decide)).trans ((aiN e8 (by decide)).trans ((show mAI M7 129 = mAI M6 129 from by rw [e7]; rfl).trans (aiN e6 (by decide))))))
        · rw [e16, e12, e10, e8]
          show mI M7 29 84 = _
          rw [e7, mI_wI, if_pos ⟨rfl, rfl⟩]
        · have z122 : mAI M16 122 (moM R) = 1 := by
            rw [e16, mAI_wAI, if_neg (fun y => absurd y.1 (by decide)), e12, mAI_wAI, if_neg (fun y => absurd y.1 (by decide)), e10, mAI_wAI, if_neg (fun y => absurd y.1 (by decide)), e8, mAI_wAI, if_neg (fun y => absurd y.1 (by decide)), e7]
            show mAI M6 122 _ = _
            rw [e6, mAI_wAI, if_pos ⟨rfl, rfl⟩]
          rw [eJ, Nat.zero_mul]
          refine Or.inl ⟨z122, xs00, rfl, ⟨rfl, rfl⟩, fun q hq => ?_, fun q q1 q2 => ?_, fun q v _ _ hk => absurd hk (Nat.not_lt_zero _)⟩
          · have hq : q < 1 := hq
            have q0 : q = 0 := by omega
            subst q0
            rw [Nat.add_zero, aiN e16 (by decide), aiN e16 (by decide)]
            refine ⟨?_, ?_⟩
            · rw [aiN e12 (by decide), e10, mAI_wAI, if_pos ⟨rfl, rfl⟩]; rfl
            · rw [e12, mAI_wAI, if_pos ⟨rfl, rfl⟩]; rfl
          · have q2 : q < 1 := q2
            omega
      | succ d ih =>
        intro s hs
        have nx := ih (s + 1) (by omega)
        have l16 : (Int32.ofNat (16 * moM R + s)).toNatClampNeg = 16 * moM R + s := lt32 (by omega)
        have e16 : 16 * Int32.ofNat (moM R) + Int32.ofNat s = Int32.ofNat (16 * moM R + s) := by rw [Int32.ofNat_add, Int32.ofNat_mul]; rfl
        refine VX11_look_46 (h := h + 6) ?_
        unfold DX11_look_46 DX11_look_78
        refine ⟨ok29 F6, 34, rf29_8 F6, ok34 F6, vm (ln34 F6), ?_⟩
        rw [lm, q6 34 (by decide), eS, e16, succ32, l16]
        refine ⟨fun z => absurd ((le32 (by omega) (by omega)).mp z) (by omega), fun _ => ⟨40, rf29_14 F6, ok40 F6, by rw [ln40 F6]; exact vp_of (by omega) (by decide), fun z => ?_, fun z => ?_⟩⟩
        · rw [q6 40 (by decide)] at z; rw [← asM_n z]; exact nx
        · rw [q6 40 (by decide)] at z; rw [← asM_y z]; exact nx
    exact l46 S 0 (by omega)
  · have e2 : mAI M13 122 (moM R) = 2 := by rw [e13, mAI_wAI, if_pos ⟨rfl, rfl⟩]
    exact K M13 (k6.tr (SkF.ai (c := 122) (k := moM R) (by unfold skA; omega) e13)) ((hL.k (aiN e6 (by decide))).k (aiN e13 (by decide))) (Or.inr (Or.inl e2)) (Or.inr (Or.inl ⟨e2, Or.inl (Nat.lt_of_not_le (fun y => z5 ((le32 (a := t) (b := 5) (by omega) (by decide)).mpr y)))⟩)) (by rw [e2]; decide)
end
end
section
/-! the class's Search, exactly: reach, groupAlike -/
/-- what the rows say -/
def TiC (M : Mem) (x t : Nat) (a : Nat → Nat) (Y : XsT) : Prop := mI M x 3 = Int32.ofNat Y.1.length ∧ (∀ s, s < Y.1.length → (mAI M (a 5) s = (stX Y s).1 ∧ mAI M (a 6) s = (stX Y s).2.1) ∧ mAI M (a 7) s = Int32.ofNat (stX Y s).2.2.1 ∧ mAI M (a 8) s = Int32.ofNat (stX Y s).2.2.2) ∧ ∀ s v, s < 48 → v < 2 ^ t → mAI M (a 9) (s * 2 ^ t + v) = Y.2.1 s v ∧ mAI M (a 10) (s * 2 ^ t + v) = Y.2.2 s v
theorem btL_xor {x y : Int32} {l : Nat} : btL (x ^^^ y) l = (btL x l ^^ btL y l) := by
  unfold btL
  rw [Int32.toBitVec_xor, BitVec.getLsbD_xor]
theorem xa_0 {x y o : Int32} : (x ^^^ y) &&& o = 0 ↔ x &&& o = y &&& o := by
  constructor
  · intro h
    refine btL_ext (fun l _ => ?_)
    have e : btL ((x ^^^ y) &&& o) l = false := by rw [h, btL_0]
    rw [btL_and, btL_xor] at e
    rw [btL_and, btL_and]
    revert e
    cases btL x l <;> cases btL y l <;> cases btL o l <;> decide
  · intro h
    refine btL_ext (fun l _ => ?_)
    have e : btL (x &&& o) l = btL (y &&& o) l := by rw [h]
    rw [btL_and, btL_and] at e
    rw [btL_and, btL_xor, btL_0]
    revert e
    cases btL x l <;> cases btL y l <;> cases btL o l <;> decide
theorem wCp_at {M : Mem} {b c n q : Nat} (hq : q < n) : mAI (wCp M b c 0 0 n) c q = mAI M b q := by
  show (va_up (mAI M) c (va_cpy (mAI M b) (mAI M c) 0 0 n)) c q = _
  simp [va_up, va_cpy, hq]
section
variable {M M' M1 : Mem} {x c t n s h : Nat} {a : Nat → Nat} {Y : XsT} {Q : Option Value → Mem → Prop} {S : Nat → Prop} {G G' : Nat → Nat} {o : Int32}
theorem TiC.k (h : TiC M x t a Y) (e3 : mI M' x 3 = mI M x 3) (r : ∀ f, 5 ≤ f → f ≤ 10 → mAI M' (a f) = mAI M (a f)) : TiC M' x t a Y := by
  unfold TiC
  rw [e3, r 5 (by decide) (by decide), r 6 (by decide) (by decide), r 7 (by decide) (by decide), r 8 (by decide) (by decide), r 9 (by decide) (by decide), r 10 (by decide) (by decide)]
  exact h
/-- a lead, a show -/
theorem TiC.ld {v : Nat} {d : Int32} (h : TiC M x t a Y) (hO : ScO M x c t a) (hv : v < 2 ^ t) (e : M' = wAI M (a 9) (s * 2 ^ t + v) d) : TiC M' x t a (Y.1, pt2 Y.2.1 s v d, Y.2.2) := by
  obtain ⟨h1, h2, h3⟩ := h
  have r : ∀ f, 5 ≤ f → f ≤ 10 → f ≠ 9 → mAI M' (a f) = mAI M (a f) := fun f f1 f2 f3 => aiN e (hO.ne f1 (by omega) (by decide) (by decide) f3)
  refine ⟨by rw [e]; exact h1, fun q hq => by rw [r 5 (by decide) (by decide) (by decide), r 6 (by decide) (by decide) (by decide), r 7 (by decide) (by decide) (by decide), r 8 (by decide) (by decide) (by decide)]; exact h2 q hq, fun q w hq hw => ⟨?_, by rw [r 10 (by decide) (by decide) (by decide)]; exact (h3 q w hq hw).2⟩⟩
  show _ = pt2 Y.2.1 s v d q w
  unfold pt2
  rw [wr_j e]
  by_cases z : q = s ∧ w = v
  · rw [if_pos (by rw [z.1, z.2]), if_pos z]
  · rw [if_neg (fun y => z (mv_inj hv hw y)), if_neg z]; exact (h3 q w hq hw).1
theorem TiC.sh {v : Nat} {d : Int32} (h : TiC M x t a Y) (hO : ScO M x c t a) (hv : v < 2 ^ t) (e : M' = wAI M (a 10) (s * 2 ^ t + v) d) : TiC M' x t a (Y.1, Y.2.1, pt2 Y.2.2 s v d) := by
  obtain ⟨h1, h2, h3⟩ := h
  have r : ∀ f, 5 ≤ f → f ≤ 10 → f ≠ 10 → mAI M' (a f) = mAI M (a f) := fun f f1 f2 f3 => aiN e (hO.ne f1 (by omega) (by decide) (by decide) f3)
  refine ⟨by rw [e]; exact h1, fun q hq => by rw [r 5 (by decide) (by decide) (by decide), r 6 (by decide) (by decide) (by decide), r 7 (by decide) (by decide) (by decide), r 8 (by decide) (by decide) (by decide)]; exact h2 q hq, fun q w hq hw => ⟨by rw [r 9 (by decide) (by decide) (by decide)]; exact (h3 q w hq hw).1, ?_⟩⟩
  show _ = pt2 Y.2.2 s v d q w
  unfold pt2
  rw [wr_j e]
  by_cases z : q = s ∧ w = v
  · rw [if_pos (by rw [z.1, z.2]), if_pos z]
  · rw [if_neg (fun y => z (mv_inj hv hw y)), if_neg z]; exact (h3 q w hq hw).2
/-- what a MOVE leads to -/
theorem S_rchx {w b ask : Int32} {v : Nat} (hO : ScO M x c t a) (hC : ScC M x t n a) (hT : TiC M x t a Y) (hn : n = Y.1.length) (e4 : mI M x 4 = ask) (hs : s < 48) (K1 : ∀ q, fdX Y.1 w (b &&& ask) = some q → Q (some (.int (Int32.ofNat q))) M) (K2 : ∀ M', fdX Y.1 w (b &&& ask) = none → Y.1.length < 48 → GmF x f23 (rwF a) M M' → ScC M' x t (n + 1) a → TiC M' x t a (Y.1 ++ [(w, b &&& ask, s, v)], Y.2.1, Y.2.2) → mI M' x 2 = mI M x 2 → (∀ f, f = 11 ∨ f = 12 → mAI M' (a f) = mAI M (a f)) → Q (some (.int (Int32.ofNat Y.1.length))) M') (K3 : ∀ M', fdX Y.1 w (b &&& ask) = none → ¬ Y.1.length < 48 → GmF x f23 (rwF a) M M' → ScC M' x t n a → mI M' x 2 = 1 → (∀ f, f = 11 ∨ f = 12 → mAI M' (a f) = mAI M (a f)) → Q (some (.int (-1))) M') : E (h + 1) mdX5_reach [.ref x, .int (Int32.ofNat s), .int (Int32.ofNat v), .int w, .int b] M Q := by
  obtain ⟨⟨ox, e0, e1, t5⟩, hf, hd⟩ := id hO
  obtain ⟨⟨c1, c2⟩, c3, c4⟩ := id hC
  obtain ⟨y, ey⟩ : ∃ y, y = b &&& ask := ⟨_, rfl⟩
  rw [← ey] at K1 K2 K3
  have hEnd : ∀ k, n ≤ k → k ≤ 48 → fdX Y.1 w y = none → DX5_reach_12 h x (Int32.ofNat s) (Int32.ofNat v) w y (Int32.ofNat k) M Q := by
    intro k hk hk8 fd
    have ln : (Int32.ofNat n).toNatClampNeg = n := lt32 (by omega)
    unfold DX5_reach_12
    rw [c1]
    refine ⟨ox, fun _ => ⟨fun z => ?_, fun z => ⟨Or.inr rfl, fun M15 e15 => ?_⟩⟩, fun z => absurd ((le32 (by omega) (by omega)).mpr hk) z⟩
    · have nlt : n < 48 := (ltn32 (a := n) (b := 48) (by omega) (by decide)).mp z
      have vn : ∀ {M1 : Mem} {f : Nat}, ScO M1 x c t a → 5 ≤ f → f ≤ 8 → vp_in (Int32.ofNat n) (mL M1 (a f)) := fun hO1 f1 f2 => by rw [hO1.l48 f1 (by omega) (by omega) (by omega)]; exact vp_of nlt (by decide)
      rw [ln]
      refine ⟨a 5, (hf 5 (by decide) (by decide)).1, (hf 5 (by decide) (by decide)).2.1, vn hO (by decide) (by decide), fun M4 e4' => ?_⟩
      have k4 : GmF x f23 (rwF a) M M4 := GmF.a ⟨5, by decide, by decide, rfl⟩ e4'
      have O4 := hO.gm k4 (by decide)
      have i4 : mI M4 x 3 = Int32.ofNat n := by rw [e4']; exact c1
      rw [i4, ln]
      refine ⟨a 6, (O4.2.1 6 (by decide) (by decide)).1, (O4.2.1 6 (by decide) (by decide)).2.1, vn O4 (by decide) (by decide), fun M7 e7 => ?_⟩
      have k7 : GmF x f23 (rwF a) M M7 := k4.tr (GmF.a ⟨6, by decide, by decide, rfl⟩ e7)
      have O7 := hO.gm k7 (by decide)
      have i7 : mI M7 x 3 = Int32.ofNat n := by rw [e7]; exact i4
      rw [i7, ln]
      refine ⟨a 7, (O7.2.1 7 (by decide) (by decide)).1, (O7.2.1 7 (by decide) (by decide)).2.1, vn O7 (by decide) (by decide), fun M10 e10 => ?_⟩
      have k10 : GmF x f23 (rwF a) M M10 := k7.tr (GmF.a ⟨7, by decide, by decide, rfl⟩ e10)
      have O10 := hO.gm k10 (by decide)
      have i10 : mI M10 x 3 = Int32.ofNat n := by rw [e10]; exact i7
      rw [i10, ln]
      refine ⟨a 8, (O10.2.1 8 (by decide) (by decide)).1, (O10.2.1 8 (by decide) (by decide)).2.1, vn O10 (by decide) (by decide), fun M13 e13 M14 e14 => ?_⟩
      have i13 : mI M13 x 3 = Int32.ofNat n := by rw [e13]; exact i10
      rw [i13, succ32] at e14
      have k14 : GmF x f23 (rwF a) M M14 := (k10.tr (GmF.a ⟨8, by decide, by decide, rfl⟩ e13)).tr (GmF.i (Or.inr rfl) e14)
      have i14 : mI M14 x 3 = Int32.ofNat (n + 1) := by rw [e14, mI_wI, if_pos ⟨rfl, rfl⟩]
      have a14 : mAI M14 = mAI M13 := by rw [e14]; rfl
      have ne : ∀ {f g : Nat}, 5 ≤ f → f ≤ 12 → 5 ≤ g → g ≤ 12 → f ≠ g → a f ≠ a g := fun f1 f2 g1 g2 h => hO.ne f1 f2 g1 g2 h
      have r5 : mAI M14 (a 5) = mAI M4 (a 5) := by rw [a14, aiN e13 (ne (by decide) (by decide) (by decide) (by decide) (by decide)), aiN e10 (ne (by decide) (by decide) (by decide) (by decide) (by decide)), aiN e7 (ne (by decide) (by decide) (by decide) (by decide) (by decide))]
      have r6 : mAI M14 (a 6) = mAI M7 (a 6) := by rw [a14, aiN e13 (ne (by decide) (by decide) (by decide) (by decide) (by decide)), aiN e10 (ne (by decide) (by decide) (by decide) (by decide) (by decide))]
      have r7 : mAI M14 (a 7) = mAI M10 (a 7) := by rw [a14, aiN e13 (ne (by decide) (by decide) (by decide) (by decide) (by decide))]
      have r8 : mAI M14 (a 8) = mAI M13 (a 8) := by rw [a14]
      have q6 : mAI M4 (a 6) = mAI M (a 6) := aiN e4' (ne (by decide) (by decide) (by decide) (by decide) (by decide))
      have q7 : mAI M7 (a 7) = mAI M (a 7) := (aiN e7 (ne (by decide) (by decide) (by decide) (by decide) (by decide))).trans (aiN e4' (ne (by decide) (by decide) (by decide) (by decide) (by decide)))
      have q8 : mAI M10 (a 8) = mAI M (a 8) := (aiN e10 (ne (by decide) (by decide) (by decide) (by decide) (by decide))).trans ((aiN e7 (ne (by decide) (by decide) (by decide) (by decide) (by decide))).trans (aiN e4' (ne (by decide) (by decide) (by decide) (by decide) (by decide))))
      have r90 : ∀ f, 9 ≤ f ∧ f ≤ 12 → mAI M14 (a f) = mAI M (a f) := fun f hf9 => by rw [a14, aiN e13 (ne (by omega) (by omega) (by decide) (by decide) (by omega)), aiN e10 (ne (by omega) (by omega) (by decide) (by decide) (by omega)), aiN e7 (ne (by omega) (by omega) (by decide) (by decide) (by omega)), aiN e4' (ne (by omega) (by omega) (by decide) (by decide) (by omega))]
      rw [i14, ← succ32, Int32.add_sub_cancel, hn]
      have lnY : (Y.1 ++ [(w, y, s, v)]).length = n + 1 := by rw [List.length_append, hn]; rfl
      refine K2 M14 fd (by omega) k14 ⟨⟨i14, by omega⟩, fun q hq => ?_, fun j hj => ?_⟩ ⟨?_, fun q hq => ?_, fun q u hq hu => ?_⟩ ?_ (fun f f11 => r90 f (by omega))
      · rw [r7, wr_j e10]
        by_cases z : q = n
        · rw [if_pos z]; exact ⟨s, hs, rfl⟩
        · rw [if_neg z, q7]; exact c3 q hq
      · rw [r90 9 (by decide)]; exact c4 j hj
      · rw [i14]; show _ = Int32.ofNat (Y.1 ++ [(w, y, s, v)]).length; rw [lnY]
      · have hq : q < (Y.1 ++ [(w, y, s, v)]).length := hq
        rw [r5, r6, r7, r8, wr_j e4', wr_j e7, wr_j e10, wr_j e13, q6, q7, q8]
        by_cases z : q = n
        · rw [if_pos z, if_pos z, if_pos z, if_pos z, z, hn, stX_r]; exact ⟨⟨rfl, rfl⟩, rfl, rfl⟩
        · rw [if_neg z, if_neg z, if_neg z, if_neg z, stX_l (by omega)]; exact hT.2.1 q (by omega)
      · rw [r90 9 (by decide), r90 10 (by decide)]; exact hT.2.2 q u hq hu
      · rw [e14, mI_wI, if_neg (fun y => absurd y.2 (by decide)), e13, e10, e7, e4']; rfl
    · have n8 : ¬ Y.1.length < 48 := fun y => z ((ltn32 (a := n) (b := 48) (by omega) (by decide)).mpr (by omega))
      refine K3 M15 fd n8 (GmF.i (Or.inl rfl) e15) (hC.k ?_ ?_ ?_) ?_ (fun f _ => by rw [e15]; rfl)
      · rw [e15, mI_wI, if_neg (fun y => absurd y.2 (by decide))]
      · rw [e15]; rfl
      · rw [e15]; rfl
      · rw [e15, mI_wI, if_pos ⟨rfl, rfl⟩]
  have main : ∀ d k, k + d = 48 → 1 ≤ k → (∀ r, 1 ≤ r → r < k → r < n → ¬ ((Y.1.getD r sq0).1 = w ∧ (Y.1.getD r sq0).2.1 = y)) → T (h + 1) mdX5_reach 12 [(0, .ref x), (1, .int (Int32.ofNat s)), (2, .int (Int32.ofNat v)), (3, .int w), (5, .int y), (6, .int (Int32.ofNat k))] [] M Q := by
    intro d
    induction d with
    | zero =>
      intro k hk k1 no
      have ek : k = 48 := hk
      exact VX5_reach_12 (hEnd k (by omega) (by omega) (fdX_no (fun r h1 h2 => no r h1 (by omega) (by omega))))
    | succ d ih =>
      intro k hk k1 no
      by_cases z : n ≤ k
      · exact VX5_reach_12 (hEnd k z (by omega) (fdX_no (fun r h1 h2 => no r h1 (by omega) (by omega))))
      · have vk : ∀ {f : Nat}, 5 ≤ f → f ≤ 8 → vp_in (Int32.ofNat k) (mL M (a f)) := fun f1 f2 => by rw [hO.l48 f1 (by omega) (by omega) (by omega)]; exact vp_of (by omega) (by decide)
        obtain ⟨⟨x5, x6⟩, -⟩ := hT.2.1 k (by omega)
        have x5 : mAI M (a 5) k = (Y.1.getD k sq0).1 := x5
        have x6 : mAI M (a 6) k = (Y.1.getD k sq0).2.1 := x6
        have nx : ¬ ((Y.1.getD k sq0).1 = w ∧ (Y.1.getD k sq0).2.1 = y) → T (h + 1) mdX5_reach 12 [(0, .ref x), (1, .int (Int32.ofNat s)), (2, .int (Int32.ofNat v)), (3, .int w), (5, .int y), (6, .int (Int32.ofNat (k + 1)))] [] M Q := fun nm => ih (k + 1) (by omega) (by omega) (fun r h1 h2 h3 => by
          by_cases q : r = k
          · rw [q]; exact nm
          · exact no r h1 (by omega) h3)
        refine VX5_reach_12 ?_
        unfold DX5_reach_12 DX5_reach_47
        rw [c1, succ32, lt32 (show k < 2147483648 by omega)]
        refine ⟨ox, fun w => absurd ((le32 (by omega) (by omega)).mp w) z, fun _ => ⟨a 5, (hf 5 (by decide) (by decide)).1, (hf 5 (by decide) (by decide)).2.1, vk (by decide) (by decide), fun ne => nx (fun q => ne (by rw [x5]; exact q.1)), fun m1 => ⟨a 6, (hf 6 (by decide) (by decide)).1, (hf 6 (by decide) (by decide)).2.1, vk (by decide) (by decide), fun ne => nx (fun q => ne (by rw [x6]; exact q.2)), fun m2 => K1 k (fdX_of k1 (by omega) (by rw [← x5]; exact m1) (by rw [← x6]; exact m2) (fun r h1 h2 => no r h1 h2 (by omega)))⟩⟩⟩
  refine KX5_reach ?_
  unfold DX5_reach_0
  rw [e4, ← ey]
  exact ⟨ox, main 47 1 (by omega) (by omega) (fun r h1 h2 => by omega)⟩
/-- classes in the row of groups -/
def CgC (M : Mem) (a : Nat → Nat) (n : Nat) (G : Nat → Nat) : Prop := ∀ s, s < n → mAI M (a 11) s = Int32.ofNat (G s) ∧ G s ≤ s
theorem S_grpx {y : Int32} (hO : ScO M x c t a) (hG : CgC M a n G) (n48 : n ≤ 48) (hy : y = -1 ∨ y = -2 ∨ ∃ q, q < n ∧ y = Int32.ofNat q) (K : Q (some (.int (gO G y))) M) : E (h + 1) mdX5_groupOf [.ref x, .int y] M Q := by
  refine KX5_groupOf ?_
  unfold DX5_groupOf_0 DX5_groupOf_14
  rcases hy with hy | hy | ⟨q, q1, q2⟩
  · rw [hy] at K ⊢
    exact ⟨fun z => absurd z (by decide), fun _ => by rw [gO_n (by decide)] at K; exact K⟩
  · rw [hy] at K ⊢
    exact ⟨fun z => absurd z (by decide), fun _ => by rw [gO_n (by decide)] at K; exact K⟩
  · rw [q2] at K ⊢
    rw [gO_q (by omega)] at K
    refine ⟨fun z => ⟨hO.1.1, a 11, (hO.2.1 11 (by decide) (by decide)).1, (hO.2.1 11 (by decide) (by decide)).2.1, ?_, ?_⟩, fun z => absurd (Int32.not_lt.mp (nn32 (n := q) (by omega))) z⟩
    · rw [hO.l48 (by decide) (by decide) (by decide) (by decide)]; exact vp_of (by omega) (by decide)
    · rw [lt32 (show q < 2147483648 by omega), (hG q q1).1]; exact K
theorem S_mvAx {p q : Nat} (hO : ScO M x c t a) (hT : TiC M x t a Y) (hY : OkX t Y) (hn : n = Y.1.length) (hG : CgC M a n G) (oc : ok M c 3) (eo : mI M c 11 = o) (hp : p < n) (hq : q < n) (K : ∀ r : Int32, (r = 0 ∨ r = 1) → (r = 1 ↔ ∀ v, v < 2 ^ t → gO G (Y.2.1 p v) = gO G (Y.2.1 q v) ∧ Y.2.2 p v &&& o = Y.2.2 q v &&& o) → Q (some (.int r)) M) : E (h + 2) mdX5_moveAlike [.ref x, .int (Int32.ofNat p), .int (Int32.ofNat q)] M Q := by
  obtain ⟨⟨ox, e0, e1, t5⟩, hf, -⟩ := id hO
  obtain ⟨p1, p2⟩ := pw_le t5
  have n48 : n ≤ 48 := by rw [hn]; exact hY.1.2
  have main : ∀ d v, v + d = 2 ^ t → (∀ u, u < v → gO G (Y.2.1 p u) = gO G (Y.2.1 q u) ∧ Y.2.2 p u &&& o = Y.2.2 q u &&& o) → T (h + 2) mdX5_moveAlike 2 [(0, .ref x), (1, .int (Int32.ofNat p)), (2, .int (Int32.ofNat q)), (3, .int (Int32.ofNat v))] [] M Q := by
    intro d
    induction d with
    | zero =>
      intro v hv al
      have ev : v = 2 ^ t := hv
      subst ev
      refine VX5_moveAlike_2 (h := h + 1) ?_
      unfold DX5_moveAlike_2
      rw [e1]
      exact ⟨ox, fun _ => ⟨Or.inr rfl, K 1 (Or.inr rfl) ⟨fun _ => al, fun _ => rfl⟩⟩, fun z => absurd Int32.le_rfl z⟩
    | succ d ih =>
      intro v hv al
      have vt : v < 2 ^ t := by omega
      obtain ⟨i1, i2, i3⟩ := ix_mv (s := p) (v := v) t5 (by omega) vt
      obtain ⟨j1, j2, -⟩ := ix_mv (s := q) (v := v) t5 (by omega) vt
      have l1 : (Int32.ofNat (p * 2 ^ t + v)).toNatClampNeg = p * 2 ^ t + v := lt32 (by omega)
      have l2 : (Int32.ofNat (q * 2 ^ t + v)).toNatClampNeg = q * 2 ^ t + v := lt32 (by omega)
      have v1 : ∀ {f : Nat}, f = 9 ∨ f = 10 → vp_in (Int32.ofNat (p * 2 ^ t + v)) (mL M (a f)) := fun hf9 => by rw [hO.lm hf9]; exact vp_of i2 (by omega)
      have v2 : ∀ {f : Nat}, f = 9 ∨ f = 10 → vp_in (Int32.ofNat (q * 2 ^ t + v)) (mL M (a f)) := fun hf9 => by rw [hO.lm hf9]; exact vp_of j2 (by omega)
      obtain ⟨y1, y2⟩ := hT.2.2 p v (by omega) vt
      obtain ⟨w1, w2⟩ := hT.2.2 q v (by omega) vt
      have ld : ∀ s, Y.2.1 s v = -1 ∨ Y.2.1 s v = -2 ∨ ∃ q, q < n ∧ Y.2.1 s v = Int32.ofNat q := fun s => by rw [hn]; exact hY.2.1 s v
      have no : ¬ (gO G (Y.2.1 p v) = gO G (Y.2.1 q v) ∧ Y.2.2 p v &&& o = Y.2.2 q v &&& o) → Q (some (.int 0)) M := fun na => K 0 (Or.inl rfl) ⟨fun z => absurd z (by decide), fun z => absurd (z v vt) na⟩
      refine VX5_moveAlike_2 (h := h + 1) ?_
      unfold DX5_moveAlike_2
      rw [e1, i1, j1, l1, l2, succ32]
      refine ⟨ox, fun z => absurd ((le32 (by omega) (by omega)).mp z) (by omega), fun _ => ⟨a 10, (hf 10 (by decide) (by decide)).1, (hf 10 (by decide) (by decide)).2.1, v1 (Or.inr rfl), a 10, (hf 10 (by decide) (by decide)).1, (hf 10 (by decide) (by decide)).2.1, v2 (Or.inr rfl), c, e0, oc, ?_⟩⟩
      rw [y2, w2, eo]
      refine ⟨fun zo => ⟨a 9, (hf 9 (by decide) (by decide)).1, (hf 9 (by decide) (by decide)).2.1, v1 (Or.inl rfl), ?_⟩, fun zo => ⟨Or.inl rfl, no (fun y => zo (xa_0.mpr y.2))⟩⟩
      rw [y1]
      refine S_grpx (h := h) hO hG n48 (ld p) (fun _ => ⟨_, rfl, a 9, (hf 9 (by decide) (by decide)).1, (hf 9 (by decide) (by decide)).2.1, v2 (Or.inl rfl), ?_⟩)
      rw [w1]
      refine S_grpx (h := h) hO hG n48 (ld q) (fun _ => ⟨_, rfl, fun eg => ih (v + 1) (by omega) (fun u hu => ?_), fun ng => ⟨Or.inl rfl, no (fun y => ng y.1)⟩⟩)
      by_cases z : u = v
      · rw [z]; exact ⟨eg, xa_0.mp zo⟩
      · exact al u (by omega)
  refine KX5_moveAlike (h := h + 1) ?_
  unfold DX5_moveAlike_0
  exact main (2 ^ t) 0 (by omega) (fun u hu => absurd hu (Nat.not_lt_zero _))
theorem S_lstx (hO : ScO M x c t a) (hT : TiC M x t a Y) (hY : OkX t Y) (hn : n = Y.1.length) (hG : CgC M a n G) (oc : ok M c 3) (eo : mI M c 11 = o) (hs : s < n) (hF : ∀ q, q < s → mAI M (a 12) q = Int32.ofNat (G' q)) (hN : Nx1 Y o t s G G') (K : ∀ r, r ≤ s → alK Y o t G r s → (∀ d, d < r → ¬ alK Y o t G d s) → Q (some (.int (Int32.ofNat r))) M) : E (h + 3) mdX5_leastAlike [.ref x, .int (Int32.ofNat s)] M Q := by
  obtain ⟨⟨ox, e0, e1, t5⟩, hf, -⟩ := id hO
  have n48 : n ≤ 48 := by rw [hn]; exact hY.1.2
  have main : ∀ d i, i + d = s → (∀ q, q < i → ¬ alK Y o t G q s) → T (h + 3) mdX5_leastAlike 2 [(0, .ref x), (1, .int (Int32.ofNat s)), (2, .int (Int32.ofNat i))] [] M Q := by
    intro d
    induction d with
    | zero =>
      intro i hi no
      have e : i = s := hi
      subst e
      refine VX5_leastAlike_2 (h := h + 2) ?_
      unfold DX5_leastAlike_2
      exact ⟨fun _ => K i (Nat.le_refl _) alK.rf no, fun z => absurd Int32.le_rfl z⟩
    | succ d ih =>
      intro i hi no
      have vi : ∀ {f : Nat}, 11 ≤ f → f ≤ 12 → vp_in (Int32.ofNat i) (mL M (a f)) := fun f1 f2 => by rw [hO.l48 (by omega) f2 (by omega) (by omega)]; exact vp_of (by omega) (by decide)
      have vs : ∀ {f : Nat}, 11 ≤ f → f ≤ 12 → vp_in (Int32.ofNat s) (mL M (a f)) := fun f1 f2 => by rw [hO.l48 (by omega) f2 (by omega) (by omega)]; exact vp_of (by omega) (by decide)
      have nx : ¬ alK Y o t G i s → T (h + 3) mdX5_leastAlike 2 [(0, .ref x), (1, .int (Int32.ofNat s)), (2, .int (Int32.ofNat (i + 1)))] [] M Q := fun na => ih (i + 1) (by omega) (fun q hq => by
        by_cases z : q = i
        · rw [z]; exact na
        · exact no q (by omega))
      obtain ⟨g1, g2⟩ := hG i (by omega)
      obtain ⟨g3, g4⟩ := hG s hs
      obtain ⟨m1, m2, m3⟩ := hN i (by omega)
      refine VX5_leastAlike_2 (h := h + 2) ?_
      unfold DX5_leastAlike_2 DX5_leastAlike_43
      rw [succ32, lt32 (show i < 2147483648 by omega), lt32 (show s < 2147483648 by omega)]
      refine ⟨fun z => absurd ((le32 (by omega) (by omega)).mp z) (by omega), fun _ => ⟨ox, a 12, (hf 12 (by decide) (by decide)).1, (hf 12 (by decide) (by decide)).2.1, vi (by decide) (by decide), fun z => nx (fun al => ?_), fun _ => ⟨a 11, (hf 11 (by decide) (by decide)).1, (hf 11 (by decide) (by decide)).2.1, vi (by decide) (by decide), a 11, (hf 11 (by decide) (by decide)).1, (hf 11 (by decide) (by decide)).2.1, vs (by decide) (by decide), fun z => nx (fun al => z (by rw [g1, g3, al.1])), fun z => ?_⟩⟩⟩
      · have lt : G' i < i := by
          rcases Nat.lt_or_ge (G' i) i with y | y
          · exact y
          · exact absurd (by rw [hF i (by omega), show G' i = i by omega]) z
        exact no _ lt (m2.tr al)
      · rw [g1, g3] at z
        have eg : G i = G s := inj32 (by omega) (by omega) z
        refine S_mvAx (h := h) hO hT hY hn hG oc eo (by omega) hs (fun r hr hi' _ => ⟨r, rfl, fun z0 => nx (fun al => ?_), fun nz => K i (by omega) ⟨eg, hi'.mp (hr.resolve_left nz)⟩ no⟩)
        rw [hi'.mpr al.2] at z0
        exact absurd z0 (by decide)
  refine KX5_leastAlike (h := h + 2) ?_
  unfold DX5_leastAlike_0
  exact main s 0 (by omega) (fun q hq => absurd hq (Nat.not_lt_zero _))
/-- all are parted -/
theorem S_grAx (hO : ScO M x c t a) (hT : TiC M x t a Y) (hY : OkX t Y) (hn : n = Y.1.length) (oc : ok M c 3) (hx : c ≠ x) (eo : mI M c 11 = o) (z0 : ∀ s, s < n → mAI M (a 11) s = 0) (K : ∀ M' G, GmF x noP (fun r => r = a 11 ∨ r = a 12) M M' → CgC M' a n G → GFn Y o t n G → Q none M') : E (h + 4) mdX5_groupAlike [.ref x] M Q := by
  have n48 : n ≤ 48 := by rw [hn]; exact hY.1.2
  have n1 : 1 ≤ n := by rw [hn]; exact hY.1.1
  have c1 : mI M x 3 = Int32.ofNat n := by rw [hn]; exact hT.1
  have keep : ∀ M1, GmF x noP (fun r => r = a 11 ∨ r = a 12) M M1 → ScO M1 x c t a ∧ TiC M1 x t a Y ∧ ok M1 c 3 ∧ mI M1 x 3 = Int32.ofNat n ∧ mI M1 c 11 = o := fun M1 k => ⟨hO.gm k (fun z => z), hT.k (k.2.2.2.1 3 (fun z => z)) (fun f f1 f2 => k.2.2.2.2 (a f) (fun z => z.elim (hO.ne f1 (by omega) (by decide) (by decide) (by omega)) (hO.ne f1 (by omega) (by decide) (by decide) (by omega)))), k.ok oc, by rw [k.2.2.2.1 3 (fun z => z)]; exact c1, by rw [k.2.2.1 c hx]; exact eo⟩
  have ln : (Int32.ofNat n).toNatClampNeg = n := lt32 (by omega)
  have l4 : ∀ d r (x1 : Int32) G M1, r + d = 49 → GmF x noP (fun r => r = a 11 ∨ r = a 12) M M1 → CgC M1 a n G → GRn Y o t n r G → ((x1 = 0 ∧ Nx1 Y o t n G G) ∨ (x1 = 1 ∧ r + 1 ≤ cnG G n)) → T (h + 4) mdX5_groupAlike 4 [(0, .ref x), (1, .int x1), (2, .int (Int32.ofNat r))] [] M1 Q := by
    intro d
    induction d with
    | zero =>
      intro r x1 G M1 hr k1 hG gr fl
      have er : r = 49 := hr
      have le := cnG_le (G := G) n
      rcases fl with ⟨-, st⟩ | ⟨-, fl⟩
      · subst er
        refine VX5_groupAlike_4 (h := h + 3) ?_
        unfold DX5_groupAlike_4 DX5_groupAlike_91
        exact ⟨fun _ => K M1 G k1 hG ⟨49, gr, st⟩, fun z => absurd (by decide) z⟩
      · omega
    | succ d ih =>
      intro r x1 G M1 hr k1 hG gr fl
      have l18 : ∀ e s (x1 : Int32) G' M2, s + e = n → GmF x noP (fun r => r = a 11 ∨ r = a 12) M M2 → mAI M2 (a 11) = mAI M1 (a 11) → (∀ q, q < s → mAI M2 (a 12) q = Int32.ofNat (G' q)) → Nx1 Y o t s G G' → ((x1 = 0 ∧ ∀ q, q < s → G' q = G q) ∨ (x1 = 1 ∧ ∃ q, q < s ∧ G' q ≠ G q)) → T (h + 4) mdX5_groupAlike 18 [(0, .ref x), (1, .int x1), (2, .int (Int32.ofNat r)), (3, .int (Int32.ofNat s))] [] M2 Q := by
        intro e
        induction e with
        | zero =>
          intro s x1 G' M2 hs k2 r2 f2 nx fl2
          have es : s = n := hs
          subst es
          obtain ⟨O2, T2, oc2, e32, eo2⟩ := keep M2 k2
          refine VX5_groupAlike_18 (h := h + 3) ?_
          unfold DX5_groupAlike_18
          rw [e32, ln, succ32]
          refine ⟨O2.1.1, fun _ => ⟨a 12, (O2.2.1 12 (by decide) (by decide)).1, a 11, (O2.2.1 11 (by decide) (by decide)).1, (O2.2.1 12 (by decide) (by decide)).2.1, (O2.2.1 11 (by decide) (by decide)).2.1, ⟨by decide, by decide, nn32 n48, ?_, ?_⟩, fun M6 e6 => ?_⟩, fun z => absurd Int32.le_rfl z⟩
          · rw [O2.l48 (by decide) (by decide) (by decide) (by decide)]; show 0 + s ≤ 48; omega
          · rw [O2.l48 (by decide) (by decide) (by decide) (by decide)]; show 0 + s ≤ 48; omega
          · have G6 : CgC M6 a s G' := fun q hq => ⟨by rw [e6]; exact (wCp_at hq).trans (f2 q hq), (nx q hq).1⟩
            refine ih (r + 1) x1 G' M6 (by omega) (k2.tr (GmF.cpn (Or.inl rfl) e6)) G6 ⟨G, gr, nx⟩ ?_
            rcases fl2 with ⟨f1, fe⟩ | ⟨f1, fe⟩
            · exact Or.inl ⟨f1, nx.cl hY hn (fun q hq => (fe q hq).symm)⟩
            · have mo := Nx1.mo (GRn.re r G n1 gr) nx fe
              rcases fl with ⟨-, st⟩ | ⟨-, fl⟩
              · obtain ⟨q, hq, ne⟩ := fe
                exact absurd (Nx1.cg hY hn (fun _ _ => rfl) nx st q hq) ne
              · exact Or.inr ⟨f1, by omega⟩
        | succ e ihe =>
          intro s x1 G' M2 hs k2 r2 f2 nx fl2
          obtain ⟨O2, T2, oc2, e32, eo2⟩ := keep M2 k2
          have sn : s < n := by omega
          have ls : (Int32.ofNat s).toNatClampNeg = s := lt32 (by omega)
          have G2 : CgC M2 a n G := fun q hq => by rw [r2]; exact hG q hq
          refine VX5_groupAlike_18 (h := h + 3) ?_
          unfold DX5_groupAlike_18 DX5_groupAlike_56 DX5_groupAlike_61
          rw [e32, succ32, succ32, ls]
          refine ⟨O2.1.1, fun z => absurd ((le32 (by omega) (by omega)).mp z) (by omega), fun _ => ⟨a 12, (O2.2.1 12 (by decide) (by decide)).1, S_lstx (h := h) (G' := G') O2 T2 hY hn G2 oc2 eo2 sn f2 nx (fun c9 c1' c2' c3' _ => ⟨_, rfl, (O2.2.1 12 (by decide) (by decide)).2.1, by rw [O2.l48 (by decide) (by decide) (by decide) (by decide)]; exact vp_of (by omega) (by decide), fun M11 e11 => ?_⟩)⟩⟩
          have k11 : GmF x noP (fun r => r = a 11 ∨ r = a 12) M M11 := k2.tr (GmF.a (Or.inr rfl) e11)
          obtain ⟨O11, -, -, -, -⟩ := keep M11 k11
          have v11 : ∀ {f : Nat}, 11 ≤ f → f ≤ 12 → vp_in (Int32.ofNat s) (mL M11 (a f)) := fun f1 f2 => by rw [O11.l48 (by omega) f2 (by omega) (by omega)]; exact vp_of (by omega) (by decide)
          obtain ⟨H, eH⟩ : ∃ H : Nat → Nat, H = fun q => if q = s then c9 else G' q := ⟨_, rfl⟩
          have Hs : H s = c9 := by rw [eH]; exact if_pos rfl
          have Hq : ∀ q, q ≠ s → H q = G' q := fun q hq => by rw [eH]; exact if_neg hq
          have r11 : mAI M11 (a 11) = mAI M1 (a 11) := (aiN e11 (hO.ne (by decide) (by decide) (by decide) (by decide) (by decide))).trans r2
          have f11 : ∀ q, q < s + 1 → mAI M11 (a 12) q = Int32.ofNat (H q) := fun q hq => by
            rw [wr_j e11]
            by_cases z : q = s
            · rw [if_pos z, z, Hs]
            · rw [if_neg z, Hq q z]; exact f2 q (by omega)
          have nx11 : Nx1 Y o t (s + 1) G H := fun q hq => by
            by_cases z : q = s
            · rw [z, Hs]; exact ⟨c1', c2', c3'⟩
            · rw [Hq q z]; exact nx q (by omega)
          have go : ∀ x1 : Int32, ((x1 = 0 ∧ ∀ q, q < s + 1 → H q = G q) ∨ (x1 = 1 ∧ ∃ q, q < s + 1 ∧ H q ≠ G q)) → T (h + 4) mdX5_groupAlike 18 [(0, .ref x), (1, .int x1), (2, .int (Int32.ofNat r)), (3, .int (Int32.ofNat (s + 1)))] [] M11 Q := fun x1 f => ihe (s + 1) x1 H M11 (by omega) k11 r11 f11 nx11 f
          have x12 : mAI M11 (a 12) s = Int32.ofNat c9 := by rw [f11 s (by omega), Hs]
          have x11 : mAI M11 (a 11) s = Int32.ofNat (G s) := by rw [r11]; exact (hG s sn).1
          have gs := (hG s sn).2
          refine ⟨fun nz => go 1 (Or.inr ⟨rfl, ?_⟩), fun z => ⟨a 12, (O11.2.1 12 (by decide) (by decide)).1, (O11.2.1 12 (by decide) (by decide)).2.1, v11 (by decide) (by decide), a 11, (O11.2.1 11 (by decide) (by decide)).1, (O11.2.1 11 (by decide) (by decide)).2.1, v11 (by decide) (by decide), fun eq => go 0 (Or.inl ⟨rfl, fun q hq => ?_⟩), fun ne => go 1 (Or.inr ⟨rfl, s, by omega, fun y => ne ?_⟩)⟩⟩
          · rcases fl2 with f | ⟨-, q, hq, nq⟩
            · exact absurd f.1 nz
            · exact ⟨q, by omega, by rw [Hq q (by omega)]; exact nq⟩
          · rw [x12, x11] at eq
            have e9 : c9 = G s := inj32 (by omega) (by omega) eq
            by_cases y : q = s
            · rw [y, Hs, e9]
            · rw [Hq q y]
              rcases fl2 with ⟨-, f⟩ | ⟨f, -⟩
              · exact f q (by omega)
              · rw [f] at z; exact absurd z (by decide)
          · rw [x12, x11, ← Hs, y]
      refine VX5_groupAlike_4 (h := h + 3) ?_
      unfold DX5_groupAlike_4 DX5_groupAlike_91
      refine ⟨fun z => absurd ((ltn32 (a := 48) (by decide) (by omega)).mp z) (by omega), fun _ => ⟨fun z => K M1 G k1 hG ⟨r, gr, ?_⟩, fun _ => l18 n 0 0 G M1 (by omega) k1 rfl (fun q hq => absurd hq (Nat.not_lt_zero _)) (fun q hq => absurd hq (Nat.not_lt_zero _)) (Or.inl ⟨rfl, fun q hq => absurd hq (Nat.not_lt_zero _)⟩)⟩⟩
      rcases fl with ⟨-, st⟩ | ⟨f, -⟩
      · exact st
      · rw [f] at z; exact absurd z (by decide)
  refine KX5_groupAlike (h := h + 3) ?_
  unfold DX5_groupAlike_0
  refine l4 49 0 1 (fun _ => 0) M (by omega) GmF.rf (fun q hq => ⟨z0 q hq, Nat.zero_le _⟩) (fun _ _ => rfl) (Or.inr ⟨rfl, ?_⟩)
  have : ∀ k, 1 ≤ k → 1 ≤ cnG (fun _ => 0) k := by
    intro k
    induction k with
    | zero => intro hk; exact absurd hk (by decide)
    | succ k ih =>
      intro _
      show 1 ≤ cnG (fun _ => 0) k + (if 0 = k then 1 else 0)
      by_cases z : k = 0
      · rw [z]; exact Nat.le_refl _
      · have := ih (by omega); omega
  exact this n n1
end
end
section
/-! the class's Search, exactly: workState -/
/-- what a module's rows say of its inputs, pauses and end -/
def MoP (M : Mem) (n0 : Nat) (τ : Td) (P : Nat → Nat → Int32) (pz root : Nat) : Prop := (∀ j, j < (inL τ.2.1).length → mAI M (n0 + 4) j = Int32.ofNat ((inL τ.2.1).getD j 0)) ∧ (∀ p, p < pz → mAI M (n0 + 17) p = P (n0 + 17) p ∧ mAI M (n0 + 18) p = P (n0 + 18) p ∧ mAI M (n0 + 19) p = P (n0 + 19) p) ∧ mI M (n0 + 8) 16 = P 28 (root * 20)
/-- whether the if f is so in MOVE v -/
def ifV (il : List Nat) (v f : Nat) : Nat := b01 (Int32.ofNat v >>> (Int32.ofNat il.length &&& 31)) f
def ocW (τ : Td) (n0 : Nat) (P : Nat → Nat → Int32) (pz root : Nat) (p : Int32) (w : Nat → Nat) : OcT := some (shM (fun s => decide (lvN w (sgT τ.1.length s) = 1)) 16, decide (lvN w (P 28 (root * 20)).toNatClampNeg = 1), shM (stB w p (fun q => (P (n0 + 17) q).toNatClampNeg) (fun q => (P (n0 + 18) q).toNatClampNeg) (fun q => (P (n0 + 19) q).toNatClampNeg)) pz)
/-- what a MOVE comes to, by the class's nets -/
def CorW (τ : Td) (n0 : Nat) (R : RMo) (Ψ : Wg) (P : Nat → Nat → Int32) (pz root : Nat) : CoT := fun p b f v o => ∃ w, JF (FcN Ψ.1 (tbR R Ψ) (tvR (inC R (inL τ.2.1) p b f v) (ifV (inL τ.2.1) v) Ψ)) w ∧ (∀ n, FcN Ψ.1 (tbR R Ψ) (tvR (inC R (inL τ.2.1) p b f v) (ifV (inL τ.2.1) v) Ψ) w n = w n) ∧ (((∀ n, n < Ψ.1.length → w n ≠ 2) ∧ o = ocW τ n0 P pz root p w) ∨ (¬ (∀ n, n < Ψ.1.length → w n ≠ 2) ∧ o = none))
theorem b01_bt {x : Int32} {k : Nat} (hk : k < 32) : b01 x k = if btL x k = true then 1 else 0 := by
  unfold b01
  have e : (x >>> (Int32.ofNat k &&& 31)) &&& 1 = 0 ↔ btL x k = false := by
    have e1 : (x >>> (Int32.ofNat k &&& 31)) &&& 1 = 0 ↔ ((x >>> (Int32.ofNat k &&& 31)) &&& 1).toBitVec = (0 : Int32).toBitVec := ⟨fun e => by rw [e], fun e => Int32.toBitVec_inj.mp e⟩
    rw [e1, Int32.toBitVec_and, Int32.toBitVec_shiftRight, BitVec.sshiftRight_eq', sh31 ⟨k, hk⟩]
    have e2 : (1 : Int32).toBitVec = 1#32 := rfl
    have e3 : (0 : Int32).toBitVec = 0#32 := rfl
    rw [e2, e3, BitVec.and_one_eq_setWidth_ofBool_getLsbD, BitVec.getLsbD_sshiftRight]
    unfold btL
    simp only [Nat.add_zero, hk, if_true]
    cases x.toBitVec.getLsbD k <;> decide
  by_cases z : btL x k = true
  · rw [if_neg (fun y => by rw [e.mp y] at z; cases z), if_pos z]
  · rw [if_pos (e.mpr (by cases h : btL x k; rfl; exact absurd h z)), if_neg z]
/-- the lanes' bits are the MOVES' bits -/
theorem la_in : ∀ (k : Fin 6) (i : Fin 5) (l : Fin 32), i.val < k.val → b01 (Int32.ofNat l.val &&& (((1 : Int32) <<< (Int32.ofNat k.val &&& 31)) - 1)) i.val = if btL (laneB.getD i.val 0) l.val = true then 1 else 0 := by decide +kernel
theorem la_if : ∀ (k f : Fin 6) (l : Fin 32), k.val + f.val < 5 → b01 (Int32.ofNat l.val >>> (Int32.ofNat k.val &&& 31)) f.val = if btL (laneB.getD (k.val + f.val) 0) l.val = true then 1 else 0 := by decide +kernel
theorem inL_inj {ro : List Int32} : ∀ j k, j < (inL ro).length → k < (inL ro).length → (inL ro).getD j 0 = (inL ro).getD k 0 → j = k := by
  intro j k hj hk e
  have nd : (inL ro).Nodup := List.Pairwise.filter _ List.nodup_range
  rw [List.getD_eq_getElem?_getD, List.getD_eq_getElem?_getD, List.getElem?_eq_getElem hj, List.getElem?_eq_getElem hk] at e
  exact (List.getElem_inj nd).mp e
theorem inL_ex {ro : List Int32} {s : Nat} (hs : s < ro.length) (e : ro.getD s 0 = 30) : ∃ j, j < (inL ro).length ∧ (inL ro).getD j 0 = s := by
  have m : s ∈ inL ro := by
    unfold inL
    rw [List.mem_filter, List.mem_range]
    exact ⟨hs, decide_eq_true e⟩
  obtain ⟨j, hj, ej⟩ := List.mem_iff_getElem.mp m
  exact ⟨j, hj, by rw [List.getD_eq_getElem?_getD, List.getElem?_eq_getElem hj]; exact ej⟩
theorem dn_mo {Ψ : Wg} {i1 i2 : Nat → Prop} {F F' j : Nat} (h : dnR Ψ i1 F j) (hi : ∀ s, i1 s → i2 s) (hF : F ≤ F') : dnR Ψ i2 F' j := by
  rcases h with y | y | y | ⟨s, y1, y2⟩ | ⟨f, y1, y2⟩
  · exact Or.inl y
  · exact Or.inr (Or.inl y)
  · exact Or.inr (Or.inr (Or.inl y))
  · exact Or.inr (Or.inr (Or.inr (Or.inl ⟨s, hi s y1, y2⟩)))
  · exact Or.inr (Or.inr (Or.inr (Or.inr ⟨f, by omega, y2⟩)))
theorem RnX.zs {C : CoT} {ask : Int32} {t : Nat} : ∀ (k : Nat) (Y : XsT) (b : Bool), RnX C ask t k Y b → ∀ s v, (v < 2 ^ t → k ≤ s * 2 ^ t + v) → Y.2.2 s v = 0
  | 0, Y, b, h, s, v, _ => by rw [h.1]; rfl
  | k + 1, Y, b, ⟨X, o, r, l, c, e⟩, s, v, hk => by
    have z := RnX.zs k X false r s v (fun y => by have := hk y; omega)
    have e1 : Y = (stpX ask X (k / 2 ^ t) (k % 2 ^ t) o).1 := congrArg Prod.fst e
    have ne : ¬ (s = k / 2 ^ t ∧ v = k % 2 ^ t) := fun y => by
      have lt : v < 2 ^ t := by rw [y.2]; exact Nat.mod_lt _ (Nat.two_pow_pos t)
      have := hk lt
      have dm := Nat.div_add_mod k (2 ^ t)
      rw [← y.1, ← y.2, Nat.mul_comm] at dm
      omega
    have pz : ∀ w, pt2 X.2.2 (k / 2 ^ t) (k % 2 ^ t) w s v = 0 := fun w => by
      unfold pt2
      rw [if_neg ne]; exact z
    rw [e1]
    rcases o with _ | ⟨w, en, p⟩
    · exact pz 0
    cases en with
    | true => exact pz w
    | false =>
      cases ef : fdX X.1 p (w &&& ask) with
      | some q => rw [stp_f ef]; exact pz w
      | none =>
        by_cases y : X.1.length < 48
        · rw [stp_g ef y]; exact pz w
        · rw [stp_b ef y]; exact z
section
variable {M M' : Mem} {n0 lc rc cc pb ib b1 b2 ya na pz : Nat} {τ : Td} {σ : PS} {Ψ : Wg} {hl : List Int32} {ps : List Nat}
theorem MoM.ny (h : MoM M n0 τ σ Ψ hl lc rc cc pb ib b1 b2 ya na pz ps) {c : Nat} (hc : c = 4 ∨ c = 17 ∨ c = 18 ∨ c = 19) : n0 + c ≠ ya ∧ n0 + c ≠ na := by
  have mr := h.2.2.2.2.2.2.2.1
  rcases hc with e | e | e | e
  · rw [e]; exact mr _ (Or.inr (Or.inl rfl))
  · rw [e]; exact mr _ (Or.inr (Or.inr (Or.inr (Or.inr (Or.inr (Or.inl rfl))))))
  · rw [e]; exact mr _ (Or.inr (Or.inr (Or.inr (Or.inr (Or.inr (Or.inr (Or.inl rfl)))))))
  · rw [e]; exact mr _ (Or.inr (Or.inr (Or.inr (Or.inr (Or.inr (Or.inr (Or.inr rfl)))))))
end
section
variable {M M' : Mem} {n0 pz root : Nat} {τ : Td} {P : Nat → Nat → Int32} {S : Nat → Prop}
theorem MoP.k (h : MoP M n0 τ P pz root) (r : ∀ c, c = 4 ∨ c = 17 ∨ c = 18 ∨ c = 19 → mAI M' (n0 + c) = mAI M (n0 + c)) (i : mI M' (n0 + 8) 16 = mI M (n0 + 8) 16) : MoP M' n0 τ P pz root := by
  unfold MoP
  rw [r 4 (Or.inl rfl), r 17 (Or.inr (Or.inl rfl)), r 18 (Or.inr (Or.inr (Or.inl rfl))), r 19 (Or.inr (Or.inr (Or.inr rfl))), i]
  exact h
end
section
variable {τ : Td} {m : Nat} {σ : PS} {root : Nat} {γ : Gh} {g0 n0 n1 gw : Nat} {Z0 P : Nat → Nat → Int32} {zp : Int32} {Ψ1 Ψ2 : Wg} {R : RMo} {zn fn y0 q0 : Nat} {lc rc cc pb ib b1 b2 ya0 na0 pz x t n s h : Nat} {hl : List Int32} {ps : List Nat} {a : Nat → Nat} {M : Mem} {Q : Option Value → Mem → Prop} {Y : XsT} {ask : Int32}
set_option maxHeartbeats 2000000 in
theorem S_wkSx (hW : MdW τ m σ root γ g0 n0 gw Z0 P zp Ψ1 Ψ2) (hT : TwT (woS τ m σ γ) R zn fn y0 root q0) (hR : MdR τ m σ R) (h16 : τ.1.length ≤ 16) (hro : τ.2.1.length = τ.1.length) (i4 : (inL τ.2.1).length ≤ 4) (hz : MoZ n0 n1 lc rc cc pb ib b1 b2 ps) (hM : MoM M n0 τ σ Ψ2 hl lc rc cc pb ib b1 b2 ya0 na0 pz ps) (hP : MoP M n0 τ P pz root) (hO : ScO M x n0 t a) (hC : ScC M x t n a) (hY : TiC M x t a Y) (hn : n = Y.1.length) (rn : RnX (CorW τ n0 R Ψ2 P pz root) ask t (s * 2 ^ t) Y false) (ht : (inL τ.2.1).length + (ifS σ).length = t) (hs : s < n) (hx : ∀ r, r = x ∨ rwF a r → ¬ (n0 ≤ r ∧ r < n1) ∧ r ≠ ya0 ∧ r ≠ na0) (hbig : mN M + 2 < mBig) (e2 : mI M x 2 = 0) (e4 : mI M x 4 = ask) (K : ∀ M' n' ya na, fr (SeF n0 ya0 na0 x a) M M' → MoM M' n0 τ σ Ψ2 hl lc rc cc pb ib b1 b2 ya na pz ps → MoP M' n0 τ P pz root → ScO M' x n0 t a → ScC M' x t n' a → n ≤ n' → ((mI M' x 2 = 0 ∧ ∃ Y' : XsT, n' = Y'.1.length ∧ RnX (CorW τ n0 R Ψ2 P pz root) ask t ((s + 1) * 2 ^ t) Y' false ∧ TiC M' x t a Y') ∨ (mI M' x 2 = 1 ∧ ∃ Y', FnX (CorW τ n0 R Ψ2 P pz root) ask t Y' true)) → mI M' x 4 = ask → Ψ2.1.length ≤ mL M' ya → LnN ya0 na0 ya na Ψ2.1.length M M' → (∀ f, f = 11 ∨ f = 12 → mAI M' (a f) = mAI M (a f)) → Q none M') : E (h + 5) mdX5_workState [.ref x, .int (Int32.ofNat s)] M Q := by
  obtain ⟨⟨ox, e0, e1, t5⟩, hf, hd⟩ := id hO
  obtain ⟨p1, p2⟩ := pw_le t5
  have n48 := hC.1.2
  have on0 : ok M n0 3 := hM.1.1.1
  have cs := hM.2.2.2.2.2.1
  have oy : ok M ya0 21 := cs.1.2.1.2.1
  have on : ok M na0 21 := cs.1.2.2.1.2.1
  have oxx : ok M (n0 + 8) 2 := cs.1.1.1
  have osm : ok M (n0 + 22) 8 := hM.1.2.1.1.1
  have kne : ∀ {a b p q : Nat}, ok M a p → ok M b q → p ≠ q → a ≠ b := fun {a b p q} o1 o2 hp e => by
    rw [e] at o1
    exact hp (o1.2.symm.trans o2.2)
  have n25 := hz.1
  obtain ⟨l1, l2, l3, l4⟩ := hW.ln
  have ls : (Int32.ofNat s).toNatClampNeg = s := lt32 (by omega)
  have v48 : ∀ {M1 : Mem} {f : Nat}, ScO M1 x n0 t a → 5 ≤ f → f ≤ 8 → vp_in (Int32.ofNat s) (mL M1 (a f)) := fun hO1 f1 f2 => by rw [hO1.l48 f1 (by omega) (by omega) (by omega)]; exact vp_of (by omega) (by decide)
  obtain ⟨C, eC⟩ : ∃ C, C = CorW τ n0 R Ψ2 P pz root := ⟨_, rfl⟩
  rw [← eC] at rn K
  obtain ⟨⟨y5, y6⟩, -⟩ := hY.2.1 s (by omega)
  have fin : ∀ (f : Bool) (v2 : Int32), f = decide (s = 0) → (v2 = 0 ↔ f = false) → DX5_workState_30 (h + 4) x (Int32.ofNat s) (n0 + 8) (n0 + 8) (stX Y s).1 (stX Y s).2.1 v2 M Q := by
    intro f v2 hff hv2
    unfold DX5_workState_30
    refine ⟨oxx, S_stW (h := h) (R := R) (Is := fun l => inC R (inL τ.2.1) (stX Y s).1 (stX Y s).2.1 f l) (ift := fun l => ifV (inL τ.2.1) l) hW hT cs h16 hbig (fun _ => rfl) (fun _ q hq => b01_bt (by omega)) (fun _ => ?_) (fun M2 ya na Y2 Z2 L2 St T2 _ => ⟨rfl, ?_⟩)⟩
    · show (if (if f = true then 1 else 0) = 1 then 1 else 0) = if v2 = 0 then 0 else 1
      by_cases w : v2 = 0
      · rw [if_pos w, hv2.mp w]; rfl
      · have ft : f = true := by
          cases hh : f with
          | true => rfl
          | false => exact absurd (hv2.mpr hh) w
        rw [if_neg w, ft]; rfl
    obtain ⟨tv, etv⟩ : ∃ tv : Nat → Nat → Nat, tv = fun l => tvR (inC R (inL τ.2.1) (stX Y s).1 (stX Y s).2.1 f l) (ifV (inL τ.2.1) l) Ψ2 := ⟨_, rfl⟩
    have T2 : TdI Ψ2.1.length (tbR R Ψ2) tv (dnR Ψ2 (fun _ => False) 0) Y2 Z2 := by rw [etv]; exact T2
    have F2 := St.1
    have ng : LnN ya0 na0 ya na Ψ2.1.length M M2 := St.2.2
    have b2' : mN M2 < mBig := by rcases ng with ⟨-, -, e, -⟩ | ⟨-, -, e, -⟩ <;> omega
    have yl : (ya = ya0 ∧ na = na0) ∨ (mN M ≤ ya ∧ mN M ≤ na ∧ ya ≠ na) := by
      rcases ng with ⟨e, e', -⟩ | ⟨e, e', -⟩
      · exact Or.inl ⟨e, e'⟩
      · exact Or.inr ⟨by omega, by omega, by omega⟩
    have rn0 := F2.2 n0 on0.1 (fun z => by
      rcases z with z | z | z
      · omega
      · exact kne on0 oy (by decide) z
      · exact kne on0 on (by decide) z)
    have rsm := F2.2 (n0 + 22) osm.1 (fun z => by
      rcases z with z | z | z
      · omega
      · exact kne osm oy (by decide) z
      · exact kne osm on (by decide) z)
    have M2' : MoM M2 n0 τ σ Ψ2 hl lc rc cc pb ib b1 b2 ya na pz ps := by
      refine hM.mu (ow := fun _ => n0) (S := noP) hz (fun _ _ _ => rfl) (fun a z => z.elim) (fun a z => z.elim) (by omega) ⟨F2.more (fun a _ z => ?_), ⟨rn0.1, fun f _ => by rw [rn0.2.2.1]⟩, ⟨St.2.1.1, St.2.1.2.2, L2.1.2.1.1, L2.1.2.2.1.1⟩, ⟨fun f _ _ => by rw [rsm.1], rsm.2.2.1⟩, ⟨L2.1.2.1.2.1, L2.1.2.2.1.2.1, L2.1.2.1.2.2.2, L2.1.2.2.1.2.2.2, fun _ => L2.1.2.2.1.2.2.1⟩, yl⟩
      rcases z with z | z | z
      · exact Or.inr (Or.inr (Or.inr (Or.inl z)))
      · exact Or.inr (Or.inr (Or.inr (Or.inr (Or.inl z))))
      · exact Or.inr (Or.inr (Or.inr (Or.inr (Or.inr (Or.inl z)))))
    -- the search's own cells are apart
    have okr : ∀ {r : Nat}, r = x ∨ rwF a r → ∃ q, ok M r q ∧ (q = 7 ∨ q = 21) := fun {r} z => by
      rcases z with z | ⟨f, f1, f2, z⟩
      · exact ⟨7, by rw [z]; exact ox, Or.inl rfl⟩
      · exact ⟨21, by rw [z]; exact (hf f f1 f2).2.1, Or.inr rfl⟩
    have nyr : ∀ {r : Nat}, r = x ∨ rwF a r → r ≠ ya ∧ r ≠ na := fun {r} z => by
      obtain ⟨q, o, -⟩ := okr z
      obtain ⟨-, h1, h2⟩ := hx r z
      have := o.1
      rcases yl with ⟨e, e'⟩ | ⟨e, e', -⟩
      · rw [e, e']; exact ⟨h1, h2⟩
      · omega
    have rS : ∀ {r : Nat}, r = x ∨ rwF a r → sameRow M M2 r := fun {r} z => by
      obtain ⟨q, o, -⟩ := okr z
      obtain ⟨h0, h1, h2⟩ := hx r z
      exact F2.2 r o.1 (fun y => by
        rcases y with y | y | y
        · exact h0 (by omega)
        · exact h1 y
        · exact h2 y)
    have O2 : ScO M2 x n0 t a := by
      have rx := rS (r := x) (Or.inl rfl)
      refine ⟨⟨ok_E ox F2.1, by rw [rx.2.2.1]; exact e0, by rw [rx.1]; exact e1, t5⟩, fun f f1 f2 => ⟨by rw [rx.2.2.1]; exact (hf f f1 f2).1, ok_E (hf f f1 f2).2.1 F2.1, by rw [(F2.1.2.2 _ (hf f f1 f2).2.1.1).2]; exact (hf f f1 f2).2.2⟩, hd⟩
    have Y2' : TiC M2 x t a Y := hY.k (by rw [(rS (r := x) (Or.inl rfl)).1]) (fun f f1 f2 => (rS (Or.inr ⟨f, f1, by omega, rfl⟩)).2.2.2.1)
    have q42 : mI M2 x 4 = ask := by rw [(rS (r := x) (Or.inl rfl)).1]; exact e4
    have rP : ∀ c, c = 4 ∨ c = 17 ∨ c = 18 ∨ c = 19 → mAI M2 (n0 + c) = mAI M (n0 + c) := fun c hc => by
      have oc : ok M (n0 + c) 21 := by
        rcases hc with e | e | e | e
        · rw [e]; exact hM.1.2.2.2.1
        · rw [e]; exact hM.2.2.2.2.2.2.1.2.1.2.1
        · rw [e]; exact hM.2.2.2.2.2.2.1.2.2.1.2.1
        · rw [e]; exact hM.2.2.2.2.2.2.1.2.2.2.1.2.1
      exact (F2.2 _ oc.1 (fun z => by
        rcases z with z | z | z
        · omega
        · exact (hM.ny hc).1 z
        · exact (hM.ny hc).2 z)).2.2.2.1
    have P2 : MoP M2 n0 τ P pz root := hP.k rP (by rw [St.2.1.1])
    have C2 : ScC M2 x t n a := hC.k (by rw [(rS (r := x) (Or.inl rfl)).1]) (rS (Or.inr ⟨7, by decide, by decide, rfl⟩)).2.2.2.1 (rS (Or.inr ⟨9, by decide, by decide, rfl⟩)).2.2.2.1
    have b22 : mI M2 x 2 = 0 := by rw [(rS (r := x) (Or.inl rfl)).1]; exact e2
    -- what telling and settling leave alone
    have stA : ∀ {M3 : Mem}, ArF (fun c => c = ya ∨ c = na) M2 M3 → MoM M3 n0 τ σ Ψ2 hl lc rc cc pb ib b1 b2 ya na pz ps ∧ ScO M3 x n0 t a ∧ ScC M3 x t n a ∧ mI M3 x 2 = 0 ∧ (TiC M3 x t a Y ∧ mI M3 x 4 = ask ∧ MoP M3 n0 τ P pz root ∧ ∀ f, f = 11 ∨ f = 12 → mAI M3 (a f) = mAI M (a f)) := fun {M3} k => by
      refine ⟨M2'.ar hz b2' k, ⟨⟨ok_E O2.1.1 k.e, by rw [k.2.1.2.2.1]; exact O2.1.2.1, by rw [k.2.1.1]; exact O2.1.2.2.1, t5⟩, fun f f1 f2 => ⟨by rw [k.2.1.2.2.1]; exact (O2.2.1 f f1 f2).1, ok_E (O2.2.1 f f1 f2).2.1 k.e, by rw [k.1.2.2.2]; exact (O2.2.1 f f1 f2).2.2⟩, hd⟩, C2.k (by rw [k.2.1.1]) (k.2.2 _ (fun z => ?_)) (k.2.2 _ (fun z => ?_)), by rw [k.2.1.1]; exact b22, Y2'.k (by rw [k.2.1.1]) (fun f f1 f2 => k.2.2 _ (fun z => ?_)), by rw [k.2.1.1]; exact q42, P2.k (fun c hc => k.2.2 _ (fun z => ?_)) (by rw [k.2.1.1]), fun f f11 => (k.2.2 _ (fun z => ?_)).trans (rS (Or.inr ⟨f, by omega, by omega, rfl⟩)).2.2.2.1⟩
      · have := nyr (r := a 7) (Or.inr ⟨7, by decide, by decide, rfl⟩)
        exact z.elim this.1 this.2
      · have := nyr (r := a 9) (Or.inr ⟨9, by decide, by decide, rfl⟩)
        exact z.elim this.1 this.2
      · have := nyr (r := a f) (Or.inr ⟨f, f1, by omega, rfl⟩)
        exact z.elim this.1 this.2
      · exact z.elim (M2'.ny hc).1 (M2'.ny hc).2
      · have := nyr (r := a f) (Or.inr ⟨f, by omega, by omega, rfl⟩)
        exact z.elim this.1 this.2
    -- MOVE by MOVE
    have l131 : ∀ M3 Y3 Z3, ArF (fun c => c = ya ∨ c = na) M2 M3 → CtL M3 (n0 + 8) lc rc ya na (n0 + 20) (n0 + 15) ib τ.1.length (ifS σ) Ψ2.1 Y3 Z3 → TdI Ψ2.1.length (tbR R Ψ2) tv (dnR Ψ2 (fun q => ∃ j, j < (inL τ.2.1).length ∧ q = (inL τ.2.1).getD j 0) (ifS σ).length) Y3 Z3 → DX5_workState_131 (h + 4) x (Int32.ofNat s) (n0 + 8) M3 Q := by
      intro M3 Y3 Z3 k3 L3 V3
      unfold DX5_workState_131
      refine ⟨L3.1.1.1, S_settle (h := h + 1) (hW.nts hT hR cs.2.1 L3.1.1.2.2.2.2.2.2.2.2.1) L3.1 (V3.j (fun j hj tb => ?_)) (fun M4 Y4 Z4 L4 A4 J4 X4 _ => ⟨rfl, S_stuck (h := h + 3) L4 (fun r4 hr4 _ => ⟨r4, rfl, ?_⟩)⟩)⟩
      · exact dn_mo (hW.al hT hR hj tb) (fun q hq => by
          obtain ⟨k, k1, k2⟩ := inL_ex (ro := τ.2.1) (s := q) (by rw [hro]; exact hq.1) hq.2
          exact ⟨k, k1, k2.symm⟩) (Nat.le_refl _)
      have L4' : CtL M4 (n0 + 8) lc rc ya na (n0 + 20) (n0 + 15) ib τ.1.length (ifS σ) Ψ2.1 Y4 Z4 := L3.ar A4 L4
      have k4 : ArF (fun c => c = ya ∨ c = na) M2 M4 := k3.tr A4
      obtain ⟨Mo4, O4, C4, b4, ⟨T4, q4, P4, g4⟩⟩ := stA k4
      have bg4 : mN M4 < mBig := by rw [k4.1.1]; exact b2'
      have k4n : ∀ {r : Nat}, r = x ∨ rwF a r → mK M4 r ≠ 0 := fun {r} z => by
        obtain ⟨q, o, hq⟩ := okr z
        rw [k4.1.2.2.1, (F2.1.2.2 r o.1).1, o.2]
        rcases hq with e | e <;> rw [e] <;> decide
      have FK4 : fr (SeF n0 ya0 na0 x a) M M4 := (F2.more (fun c _ z => by
        rcases z with z | z | z
        · exact Or.inl z
        · exact Or.inr (Or.inl z)
        · exact Or.inr (Or.inr (Or.inl z)))).tr (S1 := fun c => c = ya ∨ c = na) ⟨k4.e, fun c _ hc => ⟨by rw [k4.2.1.1], by rw [k4.2.1.2.1], by rw [k4.2.1.2.2.1], k4.2.2 c hc, by rw [k4.2.1.2.2.2.1], by rw [k4.2.1.2.2.2.2]⟩⟩ (fun c hc z => by
        rcases yl with ⟨e, e'⟩ | ⟨e, e', -⟩
        · rcases z with z | z
          · exact Or.inr (Or.inl (z.trans e))
          · exact Or.inr (Or.inr (Or.inl (z.trans e')))
        · omega)
      have izx : ∀ {r q : Nat}, ok M4 r q → inZ n0 n1 r → ¬ (r = x ∨ rwF a r) := fun {r q} o hi z => by
        rcases hi with hi | hi
        · exact (hx r z).1 hi
        · have := o.1; omega
      have st : ∀ {Mi : Mem}, GmF x f23 (rwF a) M4 Mi → MoM Mi n0 τ σ Ψ2 hl lc rc cc pb ib b1 b2 ya na pz ps ∧ CtL Mi (n0 + 8) lc rc ya na (n0 + 20) (n0 + 15) ib τ.1.length (ifS σ) Ψ2.1 Y4 Z4 ∧ ScO Mi x n0 t a ∧ MoP Mi n0 τ P pz root ∧ mI Mi x 4 = ask := fun {Mi} k => by
        have i25 : ∀ c, c < 25 → inZ n0 n1 (n0 + c) := fun c hc => Or.inl ⟨by omega, by omega⟩
        refine ⟨Mo4.out hz bg4 k.fr (fun r z => (hx r z).1) (fun r z => k4n z), L4'.fr k.fr (izx L4'.1.1.1 (i25 8 (by decide))) (izx L4'.1.1.2.2.1 hz.2.1) (izx L4'.1.1.2.2.2.2.1 hz.2.2.1) (fun z => (nyr z).1 rfl) (fun z => (nyr z).2 rfl) (izx L4'.2.1.2.1 (i25 20 (by decide))) (izx L4'.2.2.2.1.ok1 (i25 15 (by decide))) (fun o => izx o hz.2.2.2.2.2.1) (fun c _ z => k4n z), O4.gm k (by decide), P4.k (fun c hc => k.2.2.2.2 _ (fun z => (hx _ (Or.inr z)).1 (by omega))) (by rw [k.2.2.1 _ (fun z => (hx x (Or.inl rfl)).1 (by rw [← z]; omega))]), by rw [k.2.2.2.1 4 (by decide)]; exact q4⟩
      have KK : ∀ Mi ni, GmF x f23 (rwF a) M4 Mi → ScC Mi x t ni a → n ≤ ni → ((mI Mi x 2 = 0 ∧ ∃ Y' : XsT, ni = Y'.1.length ∧ RnX C ask t ((s + 1) * 2 ^ t) Y' false ∧ TiC Mi x t a Y') ∨ (mI Mi x 2 = 1 ∧ ∃ Y', FnX C ask t Y' true)) → (∀ f, f = 11 ∨ f = 12 → mAI Mi (a f) = mAI M4 (a f)) → Q none Mi := fun Mi ni k hCi hn hb gi => by
        obtain ⟨Mo, Lo, Oo, Po, qo⟩ := st k
        refine K Mi ni ya na (FK4.tr k.fr (fun c _ z => Or.inr (Or.inr (Or.inr z)))) Mo Po Oo hCi hn hb qo Lo.1.2.1.2.2.1 ?_ (fun f f11 => (gi f f11).trans (g4 f f11))
        unfold LnN
        rw [k.1.1, k.1.2.1, k4.1.1, k4.1.2.1]
        exact ng
      -- what the lane v says
      have cor : ∀ v, v < 32 → ∀ p, p = (stX Y s).1 → C p (stX Y s).2.1 (decide (s = 0)) v (if btL r4 v = true then none else ocW τ n0 P pz root p (laV Ψ2.1.length Y4 Z4 v)) := fun v hv p ep => by
        rw [eC, ep]
        have j := (J4.2 v hv).1
        have fx := X4 v hv
        unfold LnX at fx
        rw [etv, hff] at j fx
        refine ⟨_, j, fx, ?_⟩
        by_cases z : btL r4 v = true
        · obtain ⟨k, k1, k2⟩ := (hr4 v hv).mp z
          exact Or.inr ⟨fun y => y k k1 k2, if_pos z⟩
        · exact Or.inl ⟨fun k k1 k2 => z ((hr4 v hv).mpr ⟨k, k1, k2⟩), if_neg z⟩
      -- beyond
      have bey : ∀ Mi ni v, GmF x f23 (rwF a) M4 Mi → ScC Mi x t ni a → n ≤ ni → mI Mi x 2 = 1 → (∃ Y', FnX C ask t Y' true) → (∀ f, f = 11 ∨ f = 12 → mAI Mi (a f) = mAI M4 (a f)) → T (h + 5) mdX5_workState 143 [(0, .ref x), (1, .int (Int32.ofNat s)), (2, .ref (n0 + 8)), (3, .int r4), (4, .int (Int32.ofNat v))] [] Mi Q := by
        intro Mi ni v ki Ci hni hb hf gi
        obtain ⟨-, -, Oi, -, -⟩ := st ki
        refine VX5_workState_143 (h := h + 4) ?_
        unfold DX5_workState_143 DX5_workState_264
        exact ⟨Oi.1.1, fun _ => KK Mi ni ki Ci hni (Or.inr ⟨hb, hf⟩) gi, fun _ => ⟨fun _ => KK Mi ni ki Ci hni (Or.inr ⟨hb, hf⟩) gi, fun z => by rw [hb] at z; exact absurd z (by decide)⟩⟩
      have l143 : ∀ d v Mi Yi, v + d = 2 ^ t → GmF x f23 (rwF a) M4 Mi → ScC Mi x t Yi.1.length a → n ≤ Yi.1.length → mI Mi x 2 = 0 → RnX C ask t (s * 2 ^ t + v) Yi false → TiC Mi x t a Yi → (stX Yi s = stX Y s) → (∀ f, f = 11 ∨ f = 12 → mAI Mi (a f) = mAI M4 (a f)) → T (h + 5) mdX5_workState 143 [(0, .ref x), (1, .int (Int32.ofNat s)), (2, .ref (n0 + 8)), (3, .int r4), (4, .int (Int32.ofNat v))] [] Mi Q := by
        intro d
        induction d with
        | zero =>
          intro v Mi Yi hv ki Ci hni hb rni Ti se gi
          have ev : v = 2 ^ t := hv
          subst ev
          obtain ⟨-, -, Oi, -, -⟩ := st ki
          refine VX5_workState_143 (h := h + 4) ?_
          unfold DX5_workState_143 DX5_workState_264
          rw [Oi.1.2.2.1]
          exact ⟨Oi.1.1, fun _ => KK Mi _ ki Ci hni (Or.inl ⟨hb, Yi, rfl, by rw [Nat.succ_mul]; exact rni, Ti⟩) gi, fun z => absurd Int32.le_rfl z⟩
        | succ d ih =>
          intro v Mi Yi hv ki Ci hni hb rni Ti se gi
          obtain ⟨Moi, Li, Oi, Pi, qi⟩ := st ki
          have ni48 := Ci.1.2
          have vt : v < 2 ^ t := by omega
          obtain ⟨i1, i2, i3⟩ := ix_mv (s := s) (v := v) t5 (by omega) (by omega)
          have l1' : (Int32.ofNat (s * 2 ^ t + v)).toNatClampNeg = s * 2 ^ t + v := lt32 (by omega)
          have vat : ∀ {Mj : Mem} {f : Nat}, ScO Mj x n0 t a → f = 9 ∨ f = 10 → vp_in (Int32.ofNat (s * 2 ^ t + v)) (mL Mj (a f)) := fun hO1 hf9 => by rw [hO1.lm hf9]; exact vp_of i2 (by omega)
          have v32 : v < 32 := by omega
          have okY := RnX.ok _ _ _ rni
          -- one MOVE more
          have cv : ∀ oc, oc = (if btL r4 v = true then none else ocW τ n0 P pz root (stX Yi s).1 (laV Ψ2.1.length Y4 Z4 v)) → RnX C ask t (s * 2 ^ t + v + 1) (stpX ask Yi s v oc).1 (stpX ask Yi s v oc).2 := fun oc eoc => by
            refine rni.nx (by omega) vt ?_
            rw [eoc]
            have := cor v v32 (stX Yi s).1 (by rw [se])
            rw [se]
            rw [se] at this
            exact this
          have nx : ∀ Mj Yj, GmF x f23 (rwF a) M4 Mj → ScC Mj x t Yj.1.length a → n ≤ Yj.1.length → mI Mj x 2 = 0 → RnX C ask t (s * 2 ^ t + v + 1) Yj false → TiC Mj x t a Yj → stX Yj s = stX Y s → (∀ f, f = 11 ∨ f = 12 → mAI Mj (a f) = mAI M4 (a f)) → T (h + 5) mdX5_workState 143 [(0, .ref x), (1, .int (Int32.ofNat s)), (2, .ref (n0 + 8)), (3, .int r4), (4, .int (Int32.ofNat (v + 1)))] [] Mj Q := fun Mj Yj kj Cj hnj hbj rnj Tj sj gj => ih (v + 1) Mj Yj (by omega) kj Cj hnj hbj rnj Tj sj gj
          refine VX5_workState_143 (h := h + 4) ?_
          unfold DX5_workState_143 DX5_workState_264 DX5_workState_258
          rw [Oi.1.2.2.1, i1, l1', succ32, ub_0 v32]
          refine ⟨Oi.1.1, fun z => absurd ((le32 (by omega) (by omega)).mp z) (by omega), fun _ => ⟨fun nb => absurd hb nb, fun _ => ⟨fun zs => ?_, fun zs => ⟨a 9, (Oi.2.1 9 (by decide) (by decide)).1, (Oi.2.1 9 (by decide) (by decide)).2.1, vat Oi (Or.inl rfl), fun M21 e21 => ?_⟩⟩⟩⟩
          · have ns : ¬ btL r4 v = true := by rw [zs]; decide
            refine ⟨a 10, (Oi.2.1 10 (by decide) (by decide)).1, Li.1.1.1, S_shown (h := h + 1) (g := sgT τ.1.length) Li.1 J4.1 v32 Li.2.1.1 Li.2.1.2.1 Li.2.1.2.2.1 (fun q hq => ⟨Li.2.1.2.2.2.1 q hq, ?_⟩) (fun _ => ⟨_, rfl, (Oi.2.1 10 (by decide) (by decide)).2.1, vat Oi (Or.inr rfl), fun M7 e7 => ?_⟩)⟩
            · unfold sgT
              by_cases y : q < τ.1.length
              · rw [if_pos y]; omega
              · rw [if_neg y]; omega
            obtain ⟨wv, ewv⟩ : ∃ wv, wv = laV Ψ2.1.length Y4 Z4 v := ⟨_, rfl⟩
            obtain ⟨sh, esh⟩ : ∃ sh, sh = shM (fun s => decide (lvN wv (sgT τ.1.length s) = 1)) 16 := ⟨_, rfl⟩
            rw [← ewv, ← esh] at e7
            have k7 : GmF x f23 (rwF a) M4 M7 := ki.tr (GmF.a ⟨10, by decide, by decide, rfl⟩ e7)
            obtain ⟨Mo7, L7, O7, P7, q7⟩ := st k7
            have ne : ∀ {f g : Nat}, 5 ≤ f → f ≤ 12 → 5 ≤ g → g ≤ 12 → f ≠ g → a f ≠ a g := fun f1 f2 g1 g2 h => hO.ne f1 f2 g1 g2 h
            have C7 : ScC M7 x t Yi.1.length a := Ci.k (by rw [e7]; rfl) (aiN e7 (ne (by decide) (by decide) (by decide) (by decide) (by decide))) (aiN e7 (ne (by decide) (by decide) (by decide) (by decide) (by decide)))
            have b7 : mI M7 x 2 = 0 := by rw [e7]; exact hb
            have T7 : TiC M7 x t a (Yi.1, Yi.2.1, pt2 Yi.2.2 s v sh) := Ti.sh Oi vt e7
            have g7 : ∀ f, f = 11 ∨ f = 12 → mAI M7 (a f) = mAI M4 (a f) := fun f f11 => (aiN e7 (ne (by omega) (by omega) (by decide) (by decide) (by omega))).trans (gi f f11)
            have ce := Mo7.2.2.2.2.2.2.1
            obtain ⟨⟨a1, a2⟩, ⟨b1', b2', b3', b4'⟩, ⟨d1, d2, d3, d4⟩, ⟨e1', e2', e3', e4'⟩, ⟨q16, q1, q2⟩⟩ := id ce
            have hl5 := L7.1.2.2.2.2.2
            have eend : (P 28 (root * 20)).toNatClampNeg = q16 := by rw [← P7.2.2, q2]; exact lt32 (by omega)
            rw [q2]
            -- a MOVE's lead is written
            have f257 : ∀ (r : Int32) Mj Yj, GmF x f23 (rwF a) M4 Mj → ScC Mj x t Yj.1.length a → n ≤ Yj.1.length → mI Mj x 2 = 0 → TiC Mj x t a Yj → (r < 0 ∨ ∃ q, q < 48 ∧ r = Int32.ofNat q) → RnX C ask t (s * 2 ^ t + v + 1) (Yj.1, pt2 Yj.2.1 s v r, Yj.2.2) false → stX Yj s = stX Y s → (∀ f, f = 11 ∨ f = 12 → mAI Mj (a f) = mAI M4 (a f)) → DX5_workState_257 (h + 4) x (Int32.ofNat s) (n0 + 8) r4 (Int32.ofNat v) (a 9) (Int32.ofNat (s * 2 ^ t + v)) r Mj Q := by
              intro r Mj Yj kj Cj hnj hbj Tj hr rnj sj gj
              obtain ⟨-, -, Oj, -, -⟩ := st kj
              unfold DX5_workState_257 DX5_workState_258
              rw [succ32, l1']
              refine ⟨(Oj.2.1 9 (by decide) (by decide)).2.1, vat Oj (Or.inl rfl), fun M2' e2' => ?_⟩
              exact nx M2' (Yj.1, pt2 Yj.2.1 s v r, Yj.2.2) (kj.tr (GmF.a ⟨9, by decide, by decide, rfl⟩ e2')) (Cj.nx Oj hr e2') hnj (by rw [e2']; exact hbj) rnj (Tj.ld Oj vt e2') sj (fun f f11 => (aiN e2' (ne (by omega) (by omega) (by decide) (by decide) (by omega))).trans (gj f f11))
            refine S_isOn (h := h + 2) L7.1 J4.1 q1 v32 (fun _ => ⟨_, rfl, a 9, (O7.2.1 9 (by decide) (by decide)).1, fun z9 => ?_, fun z9 => ?_⟩)
            · -- it goes on
              have nend : decide (lvN wv (P 28 (root * 20)).toNatClampNeg = 1) = false := by
                rw [decide_eq_false_iff_not, eend, ewv]
                intro y
                rw [if_pos y] at z9
                exact absurd z9 (by decide)
              have e5 : mAI M7 (a 5) s = (stX Yi s).1 := by rw [aiN e7 (ne (by decide) (by decide) (by decide) (by decide) (by decide))]; exact (Ti.2.1 s (by omega)).1.1
              refine ⟨a 5, (O7.2.1 5 (by decide) (by decide)).1, (O7.2.1 5 (by decide) (by decide)).2.1, v48 O7 (by decide) (by decide), ?_⟩
              rw [ls, e5]
              refine S_setB (h := h + 1) (l := v) (g := fun p => (P (n0 + 17) p).toNatClampNeg) (s := fun p => (P (n0 + 18) p).toNatClampNeg) (k := fun p => (P (n0 + 19) p).toNatClampNeg) L7.1 J4.1 v32 a1 a2 ⟨b1', b2', b3'⟩ ⟨d1, d2, d3⟩ ⟨e1', e2', e3'⟩ (fun p hp => by rw [← (P7.2.1 p hp).1]; exact of_cl hl5 (b4' p hp)) (fun p hp => by rw [← (P7.2.1 p hp).2.1]; exact of_cl hl5 (d4 p hp)) (fun p hp => by rw [← (P7.2.1 p hp).2.2]; exact of_cl hl5 (e4' p hp)) (fun _ => ⟨_, rfl, a 10, (O7.2.1 10 (by decide) (by decide)).1, (O7.2.1 10 (by decide) (by decide)).2.1, vat O7 (Or.inr rfl), ?_⟩)
              obtain ⟨pp, epp⟩ : ∃ pp, pp = shM (stB wv (stX Yi s).1 (fun q => (P (n0 + 17) q).toNatClampNeg) (fun q => (P (n0 + 18) q).toNatClampNeg) (fun q => (P (n0 + 19) q).toNatClampNeg)) pz := ⟨_, rfl⟩
              rw [← ewv, ← epp, show mAI M7 (a 10) (s * 2 ^ t + v) = sh from by rw [wr_j e7, if_pos rfl]]
              have eoc : (if btL r4 v = true then none else ocW τ n0 P pz root (stX Yi s).1 (laV Ψ2.1.length Y4 Z4 v)) = some (sh, false, pp) := by
                rw [if_neg ns, ← ewv]
                unfold ocW
                rw [← esh, nend, ← epp]
              have c9 := cv _ eoc.symm
              refine S_rchx (h := h + 3) (Y := (Yi.1, Yi.2.1, pt2 Yi.2.2 s v sh)) O7 C7 T7 rfl q7 (by omega) (fun q fd _ => ⟨_, rfl, ?_⟩) (fun M17 fd l48 k17 C17 T17 b17 g17 _ => ⟨_, rfl, ?_⟩) (fun M17 fd l48 k17 C17 b17 g17 _ => ⟨_, rfl, ?_⟩)
              · have fd : fdX Yi.1 pp (sh &&& ask) = some q := fd
                obtain ⟨f1, f2, -⟩ := fnX_s _ _ _ fd
                have es : stpX ask Yi s v (some (sh, false, pp)) = ((Yi.1, pt2 Yi.2.1 s v (Int32.ofNat q), pt2 Yi.2.2 s v sh), false) := stp_f fd
                rw [es] at c9
                exact f257 (Int32.ofNat q) M7 (Yi.1, Yi.2.1, pt2 Yi.2.2 s v sh) k7 C7 hni b7 T7 (Or.inr ⟨q, by omega, rfl⟩) c9 se g7
              · have fd : fdX Yi.1 pp (sh &&& ask) = none := fd
                have l48 : Yi.1.length < 48 := l48
                have es : stpX ask Yi s v (some (sh, false, pp)) = ((Yi.1 ++ [(pp, sh &&& ask, s, v)], pt2 Yi.2.1 s v (Int32.ofNat Yi.1.length), pt2 Yi.2.2 s v sh), false) := stp_g fd l48
                rw [es] at c9
                have lnY : (Yi.1 ++ [(pp, sh &&& ask, s, v)]).length = Yi.1.length + 1 := by rw [List.length_append]; rfl
                refine f257 (Int32.ofNat Yi.1.length) M17 (Yi.1 ++ [(pp, sh &&& ask, s, v)], Yi.2.1, pt2 Yi.2.2 s v sh) (k7.tr k17) (by show ScC M17 x t (Yi.1 ++ [(pp, sh &&& ask, s, v)]).length a; rw [lnY]; exact C17) (by show n ≤ (Yi.1 ++ [(pp, sh &&& ask, s, v)]).length; omega) (by rw [b17]; exact b7) T17 (Or.inr ⟨Yi.1.length, l48, rfl⟩) c9 ?_ (fun f f11 => (g17 f f11).trans (g7 f f11))
                rw [stX_l (by omega)]; exact se
              · have fd : fdX Yi.1 pp (sh &&& ask) = none := fd
                have l48 : ¬ Yi.1.length < 48 := l48
                have es : stpX ask Yi s v (some (sh, false, pp)) = (Yi, true) := stp_b fd l48
                rw [es] at c9
                obtain ⟨-, -, O17, -, -⟩ := st (k7.tr k17)
                unfold DX5_workState_257 DX5_workState_258
                rw [succ32, l1']
                refine ⟨(O17.2.1 9 (by decide) (by decide)).2.1, vat O17 (Or.inl rfl), fun M2' e2' => ?_⟩
                exact bey M2' _ (v + 1) ((k7.tr k17).tr (GmF.a ⟨9, by decide, by decide, rfl⟩ e2')) (C17.nx O17 (Or.inl (by decide)) e2') hni (by rw [e2']; exact b17) ⟨Yi, _, c9, Or.inl rfl⟩ (fun f f11 => (aiN e2' (ne (by omega) (by omega) (by decide) (by decide) (by omega))).trans ((g17 f f11).trans (g7 f f11)))
            · -- it ends
              have yend : decide (lvN wv (P 28 (root * 20)).toNatClampNeg = 1) = true := by
                rw [decide_eq_true_eq, eend, ewv]
                exact Classical.byContradiction (fun y => z9 (by rw [if_neg y]))
              have eoc : (if btL r4 v = true then none else ocW τ n0 P pz root (stX Yi s).1 (laV Ψ2.1.length Y4 Z4 v)) = some (sh, true, shM (stB wv (stX Yi s).1 (fun q => (P (n0 + 17) q).toNatClampNeg) (fun q => (P (n0 + 18) q).toNatClampNeg) (fun q => (P (n0 + 19) q).toNatClampNeg)) pz) := by
                rw [if_neg ns, ← ewv]
                unfold ocW
                rw [← esh, yend]
              have c9 := cv _ eoc.symm
              exact f257 (-1) M7 (Yi.1, Yi.2.1, pt2 Yi.2.2 s v sh) k7 C7 hni b7 T7 (Or.inl (by decide)) c9 se g7
          · -- wires stay unknown
            have ys : btL r4 v = true := by
              cases hb4 : btL r4 v with
              | true => rfl
              | false => exact absurd hb4 zs
            have c9 := cv none (by rw [if_pos ys])
            have zz : Yi.2.2 s v = 0 := RnX.zs _ _ _ rni s v (fun _ => Nat.le_refl _)
            have ez : pt2 Yi.2.2 s v 0 = Yi.2.2 := by
              funext p q
              unfold pt2
              by_cases y : p = s ∧ q = v
              · rw [if_pos y, y.1, y.2, zz]
              · rw [if_neg y]
            have c9 : RnX C ask t (s * 2 ^ t + v + 1) (Yi.1, pt2 Yi.2.1 s v (-2), pt2 Yi.2.2 s v 0) false := c9
            rw [ez] at c9
            exact nx M21 (Yi.1, pt2 Yi.2.1 s v (-2), Yi.2.2) (ki.tr (GmF.a ⟨9, by decide, by decide, rfl⟩ e21)) (Ci.nx Oi (Or.inl (by decide)) e21) hni (by rw [e21]; exact hb) c9 (Ti.ld Oi vt e21) se (fun f f11 => (aiN e21 (hO.ne (by omega) (by omega) (by decide) (by decide) (by omega))).trans (gi f f11))
      exact l143 (2 ^ t) 0 M4 Y (by omega) GmF.rf (by rw [← hn]; exact C4) (by omega) b4 (by rw [Nat.add_zero]; exact rn) T4 rfl (fun _ _ => rfl)
    -- the ifs
    have l80 : ∀ d i M3 Y3 Z3, i + d = (ifS σ).length → ArF (fun c => c = ya ∨ c = na) M2 M3 → CtL M3 (n0 + 8) lc rc ya na (n0 + 20) (n0 + 15) ib τ.1.length (ifS σ) Ψ2.1 Y3 Z3 → TdI Ψ2.1.length (tbR R Ψ2) tv (dnR Ψ2 (fun q => ∃ j, j < (inL τ.2.1).length ∧ q = (inL τ.2.1).getD j 0) i) Y3 Z3 → T (h + 5) mdX5_workState 80 [(0, .ref x), (1, .int (Int32.ofNat s)), (2, .ref (n0 + 8)), (3, .int (Int32.ofNat i))] [] M3 Q := by
      intro d
      induction d with
      | zero =>
        intro i M3 Y3 Z3 hi k3 L3 V3
        have ei : i = (ifS σ).length := hi
        obtain ⟨Mo3, O3, -, -, -⟩ := stA k3
        refine VX5_workState_80 (h := h + 4) ?_
        unfold DX5_workState_80
        refine ⟨O3.1.1, n0, O3.1.2.1, Mo3.1.1.1, ?_⟩
        rw [Mo3.2.2.2.2.2.2.2.2.2.2.2.2.1, ← ei]
        exact ⟨fun _ => l131 M3 Y3 Z3 k3 L3 (by rw [← ei]; exact V3), fun z => absurd Int32.le_rfl z⟩
      | succ d ih =>
        intro i M3 Y3 Z3 hi k3 L3 V3
        obtain ⟨Mo3, O3, -, -, -⟩ := stA k3
        have e14 := Mo3.2.2.2.2.2.2.2.2.2.2.2.2.1
        have e10 := Mo3.1.1.2.2.2.2
        refine VX5_workState_80 (h := h + 4) ?_
        unfold DX5_workState_80
        rw [succ32]
        refine ⟨O3.1.1, n0, O3.1.2.1, Mo3.1.1.1, ?_⟩
        rw [e14]
        refine ⟨fun z => absurd ((le32 (by omega) (by omega)).mp z) (by omega), fun _ => ⟨n0, O3.1.2.1, Mo3.1.1.1, fun z5 => ?_, fun z => ⟨n0, O3.1.2.1, Mo3.1.1.1, ?_, L3.1.1.1, ?_⟩⟩⟩
        · rw [e10, add32] at z5
          have := (le32 (a := 5) (by decide) (by omega)).mp z5
          omega
        · rw [e10, add32]; exact vp_of (by omega) (by decide)
        · refine S_tfW (h := h) hW L3 V3.1 (by omega) (fun M5 Y5 Z5 q L5 A5 q1 q2 q3 T5 _ => ⟨rfl, ih (i + 1) M5 Y5 Z5 (by omega) (k3.tr A5) L5 (V3.tl T5 (by rw [tb_r q3 q2]; rfl) (fun l hl => ?_) (fun j hj dj => ?_))⟩)
          · rw [etv]
            have et : tvR (inC R (inL τ.2.1) (stX Y s).1 (stX Y s).2.1 f l) (ifV (inL τ.2.1) l) Ψ2 q = ifV (inL τ.2.1) l i := by rw [tv_r q3 q2, if_neg (by decide), if_neg (by decide), if_pos rfl]
            show _ = tvR (inC R (inL τ.2.1) (stX Y s).1 (stX Y s).2.1 f l) (ifV (inL τ.2.1) l) Ψ2 q
            rw [et, e10, add32, lt32 (show (inL τ.2.1).length + i < 2147483648 by omega)]
            unfold ifV
            exact (la_if ⟨(inL τ.2.1).length, by omega⟩ ⟨i, by omega⟩ ⟨l, hl⟩ (by show (inL τ.2.1).length + i < 5; omega)).symm
          · rcases dj with y | y | y | y | ⟨f', f1, f2⟩
            · exact Or.inl (Or.inl y)
            · exact Or.inl (Or.inr (Or.inl y))
            · exact Or.inl (Or.inr (Or.inr (Or.inl y)))
            · exact Or.inl (Or.inr (Or.inr (Or.inr (Or.inl y))))
            · by_cases w : f' = i
              · rw [w] at f2
                obtain ⟨-, r1, -⟩ := hW.r5 hT hj f2
                obtain ⟨-, r2, -⟩ := hW.r5 hT q1 q3
                have big := hW.2.2.2.2.2.2.2.2.1
                have e := inj32 (a := 2 * j) (b := 2 * q) (by omega) (by omega) (r1.symm.trans r2)
                exact Or.inr (by omega)
              · exact Or.inl (Or.inr (Or.inr (Or.inr (Or.inr ⟨f', by omega, f2⟩))))
    -- the inputs
    have l35 : ∀ d i M3 Y3 Z3, i + d = (inL τ.2.1).length → ArF (fun c => c = ya ∨ c = na) M2 M3 → CtL M3 (n0 + 8) lc rc ya na (n0 + 20) (n0 + 15) ib τ.1.length (ifS σ) Ψ2.1 Y3 Z3 → TdI Ψ2.1.length (tbR R Ψ2) tv (dnR Ψ2 (fun q => ∃ j, j < i ∧ q = (inL τ.2.1).getD j 0) 0) Y3 Z3 → T (h + 5) mdX5_workState 35 [(0, .ref x), (1, .int (Int32.ofNat s)), (2, .ref (n0 + 8)), (3, .int (Int32.ofNat i))] [] M3 Q := by
      intro d
      induction d with
      | zero =>
        intro i M3 Y3 Z3 hi k3 L3 V3
        have ei : i = (inL τ.2.1).length := hi
        obtain ⟨Mo3, O3, -, -, -⟩ := stA k3
        refine VX5_workState_35 (h := h + 4) ?_
        unfold DX5_workState_35 DX5_workState_78
        refine ⟨O3.1.1, n0, O3.1.2.1, Mo3.1.1.1, ?_⟩
        rw [Mo3.1.1.2.2.2.2, ← ei]
        exact ⟨fun _ => l80 (ifS σ).length 0 M3 Y3 Z3 (by omega) k3 L3 (by rw [← ei]; exact V3), fun z => absurd Int32.le_rfl z⟩
      | succ d ih =>
        intro i M3 Y3 Z3 hi k3 L3 V3
        obtain ⟨Mo3, O3, -, -, ⟨-, -, P3, -⟩⟩ := stA k3
        have li : (Int32.ofNat i).toNatClampNeg = i := lt32 (by omega)
        refine VX5_workState_35 (h := h + 4) ?_
        unfold DX5_workState_35 DX5_workState_78
        rw [succ32, li]
        refine ⟨O3.1.1, n0, O3.1.2.1, Mo3.1.1.1, ?_⟩
        rw [Mo3.1.1.2.2.2.2]
        refine ⟨fun z => absurd ((le32 (by omega) (by omega)).mp z) (by omega), fun _ => ⟨fun z5 => ?_, fun z => ⟨n0, O3.1.2.1, Mo3.1.1.1, n0 + 4, Mo3.1.1.2.2.2.1, Mo3.1.2.2.2.1, ?_, ?_, L3.1.1.1, ?_⟩⟩⟩
        · have := (le32 (a := 5) (by decide) (by omega)).mp z5
          omega
        · rw [Mo3.1.2.2.2.2.1]; exact vp_of (by have := Mo3.1.2.2.2.2.2.1; omega) (by decide)
        · exact vp_of (by omega) (by decide)
        · obtain ⟨a1, a2⟩ := inL_at (ro := τ.2.1) (j := i) (by omega)
          have s4' : mAI M3 (n0 + 4) i = Int32.ofNat ((inL τ.2.1).getD i 0) := P3.1 i (by omega)
          rw [s4']
          have s2 : (inL τ.2.1).getD i 0 < τ.1.length := by rw [← hro]; exact a1
          refine S_tiW (h := h + 2) hW h16 L3 V3.1 s2 (fun M5 Y5 Z5 L5 A5 T5 _ => ⟨rfl, ih (i + 1) M5 Y5 Z5 (by omega) (k3.tr A5) L5 (V3.tl T5 (by rw [tb_r (hW.sg s2) (by omega), decide_eq_true ((hR.2.2.2.2 _ s2).mpr a2)]; rfl) (fun l hl => ?_) (fun j hj dj => ?_))⟩)
          · rw [etv]
            have et : tvR (inC R (inL τ.2.1) (stX Y s).1 (stX Y s).2.1 f l) (ifV (inL τ.2.1) l) Ψ2 (2 + (inL τ.2.1).getD i 0) = gvI (Int32.ofNat l &&& (((1 : Int32) <<< (Int32.ofNat (inL τ.2.1).length &&& 31)) - 1)) (inL τ.2.1) ((inL τ.2.1).getD i 0) := by rw [tv_r (hW.sg s2) (by omega), if_pos rfl]; rfl
            show _ = tvR (inC R (inL τ.2.1) (stX Y s).1 (stX Y s).2.1 f l) (ifV (inL τ.2.1) l) Ψ2 (2 + (inL τ.2.1).getD i 0)
            rw [et, gvI_e i4 inL_inj (by omega)]
            exact (la_in ⟨(inL τ.2.1).length, by omega⟩ ⟨i, by omega⟩ ⟨l, hl⟩ (by show i < (inL τ.2.1).length; omega)).symm
          · rcases dj with y | y | y | ⟨q, ⟨j', j1, j2⟩, y⟩ | y
            · exact Or.inl (Or.inl y)
            · exact Or.inl (Or.inr (Or.inl y))
            · exact Or.inl (Or.inr (Or.inr (Or.inl y)))
            · by_cases w : j' = i
              · rw [j2, w] at y
                exact Or.inr (hW.r3 hT hj y).1
              · exact Or.inl (Or.inr (Or.inr (Or.inr (Or.inl ⟨q, ⟨j', by omega, j2⟩, y⟩))))
            · exact Or.inl (Or.inr (Or.inr (Or.inr (Or.inr y))))
    exact l35 (inL τ.2.1).length 0 M2 Y2 Z2 (by omega) ArF.rf L2 (T2.mo (fun j hj dj => dn_mo dj (fun q hq => by obtain ⟨k, k1, -⟩ := hq; exact absurd k1 (Nat.not_lt_zero _)) (Nat.le_refl _)))
  refine KX5_workState (h := h + 4) ?_
  unfold DX5_workState_0
  rw [ls]
  have z5 : mAI M (a 5) s = (stX Y s).1 := y5
  have z6 : mAI M (a 6) s = (stX Y s).2.1 := y6
  refine ⟨ox, n0, e0, on0, n0 + 8, hM.2.2.2.2.1, a 5, (hf 5 (by decide) (by decide)).1, (hf 5 (by decide) (by decide)).2.1, v48 hO (by decide) (by decide), a 6, (hf 6 (by decide) (by decide)).1, (hf 6 (by decide) (by decide)).2.1, v48 hO (by decide) (by decide), fun ns => ?_, fun s0 => ?_⟩
  · rw [z5, z6]
    exact fin false 0 (decide_eq_false (fun y => ns (by rw [y]; rfl))).symm ⟨fun _ => rfl, fun _ => rfl⟩
  · rw [z5, z6]
    exact fin true 1 (decide_eq_true (inj32 (by omega) (by decide) (s0.trans (show (0 : Int32) = Int32.ofNat 0 from rfl)))).symm ⟨fun y => absurd y (by decide), fun y => by cases y⟩
end
end
