/-! the reference's part1 and look, exactly -/
/-- the outputs, bit by bit -/
def ouM (M : Mem) (m S : Nat) : Int32 := shM (fun s => decide (mAI M 38 (16 * m + s) = 1)) S
theorem ouM_y {M : Mem} {m s : Nat} (h : mAI M 38 (16 * m + s) = 1) : ouM M m (s + 1) = ouM M m s ||| ((1 : Int32) <<< (Int32.ofNat s &&& 31)) := by
  unfold ouM
  show (if decide (mAI M 38 (16 * m + s) = 1) = true then _ else _) = _
  rw [if_pos (decide_eq_true h)]
theorem ouM_n {M : Mem} {m s : Nat} (h : ¬ mAI M 38 (16 * m + s) = 1) : ouM M m (s + 1) = ouM M m s ||| 0 := by
  unfold ouM
  show (if decide (mAI M 38 (16 * m + s) = 1) = true then _ else _) = _
  rw [if_neg (by rw [decide_eq_true_eq]; exact h), Int32.or_zero]
theorem mv_lt {s v n w : Nat} (hs : s < n) (hv : v < w) : s * w + v < n * w := by
  have : (s + 1) * w ≤ n * w := Nat.mul_le_mul_right _ hs
  rw [Nat.succ_mul] at this
  omega
section
variable {Y : XsT} {o : Int32} {t n m : Nat} {f g : Nat → Nat} {M : Mem}
/-- one parting that changed nothing -/
theorem Nx1.cl (hY : OkX t Y) (hn : n = Y.1.length) (h : Nx1 Y o t n f g) (e : ∀ s, s < n → f s = g s) : Nx1 Y o t n g g := fun s hs => by
  obtain ⟨a1, a2, a3⟩ := h s hs
  exact ⟨a1, a2.cg hY hn e (by omega) hs, fun c hc al => a3 c hc (al.cg hY hn (fun s hs => (e s hs).symm) (by omega) hs)⟩
theorem gO_n {d : Int32} (h : d < 0) : gO f d = d := if_pos h
theorem gO_q {q : Nat} (h : q < 48) : gO f (Int32.ofNat q) = Int32.ofNat (f q) := by
  unfold gO
  rw [if_neg (nn32 (by omega)), lt32 (by omega)]
theorem alk_iff (hY : OkX t Y) (hn : n = Y.1.length) (n48 : n ≤ 48) (hT : ∀ s v, s < n → v < 2 ^ t → mAI M 129 (32 * (48 * m + s) + v) = Y.2.1 s v ∧ mAI M 130 (32 * (48 * m + s) + v) = Y.2.2 s v) (hC : ∀ s, s < n → mAI M 128 (48 * m + s) = Int32.ofNat (f s) ∧ f s ≤ s) {a b : Nat} (ha : a < n) (hb : b < n) : alkR M m t o a b ↔ alK Y o t f a b := by
  have e0 : (mAI M 128 (48 * m + a) = mAI M 128 (48 * m + b)) ↔ f a = f b := by
    rw [(hC a ha).1, (hC b hb).1]
    have h1 := (hC a ha).2
    have h2 := (hC b hb).2
    exact ⟨fun e => inj32 (by omega) (by omega) e, fun e => by rw [e]⟩
  have ev : ∀ v, v < 2 ^ t → (alV M m o a b v ↔ (gO f (Y.2.1 a v) = gO f (Y.2.1 b v) ∧ Y.2.2 a v &&& o = Y.2.2 b v &&& o)) := fun v hv => by
    unfold alV
    rw [(hT a v ha hv).1, (hT a v ha hv).2, (hT b v hb hv).1, (hT b v hb hv).2]
    have ng : ∀ s, s < n → ∀ {d : Int32}, d = Y.2.1 s v → (d < 0 ∧ gO f d = d) ∨ ∃ q, q < n ∧ d = Int32.ofNat q ∧ ¬ d < 0 ∧ gO f d = Int32.ofNat (f q) ∧ f q ≤ q ∧ d.toNatClampNeg = q := fun s hs d ed => by
      rcases hY.2.1 s v with z | z | ⟨q, q1, q2⟩
      · exact Or.inl (by rw [ed, z]; exact ⟨by decide, gO_n (by decide)⟩)
      · exact Or.inl (by rw [ed, z]; exact ⟨by decide, gO_n (by decide)⟩)
      · exact Or.inr ⟨q, by omega, by rw [ed, q2], by rw [ed, q2]; exact nn32 (by omega), by rw [ed, q2]; exact gO_q (by omega), (hC q (by omega)).2, by rw [ed, q2]; exact lt32 (by omega)⟩
    generalize ea : Y.2.1 a v = da
    generalize eb : Y.2.1 b v = db
    have h1 := ng a ha ea.symm
    have h2 := ng b hb eb.symm
    refine and_congr_left' ?_
    rcases h1 with ⟨n1, g1⟩ | ⟨q1, l1, e1, n1, g1, f1, c1⟩
    · rcases h2 with ⟨n2, g2⟩ | ⟨q2, l2, e2, n2, g2, f2, c2⟩
      · rw [g1, g2]
        exact ⟨fun z => z.elim (fun y => absurd n1 y.1) (fun y => y.2), fun z => Or.inr ⟨n1, z⟩⟩
      · rw [g1, g2]
        refine ⟨fun z => z.elim (fun y => absurd n1 y.1) (fun y => ?_), fun z => ?_⟩
        · rw [y.2] at n1; exact absurd n1 n2
        · rw [z] at n1; exact absurd n1 (nn32 (by omega))
    · rcases h2 with ⟨n2, g2⟩ | ⟨q2, l2, e2, n2, g2, f2, c2⟩
      · rw [g1, g2]
        refine ⟨fun z => z.elim (fun y => absurd n2 y.2.1) (fun y => absurd y.1 n1), fun z => ?_⟩
        rw [← z] at n2; exact absurd n2 (nn32 (by omega))
      · rw [g1, g2, c1, c2, (hC q1 l1).1, (hC q2 l2).1]
        exact ⟨fun z => z.elim (fun y => y.2.2) (fun y => absurd y.1 n1), fun z => Or.inl ⟨n1, n2, z⟩⟩
  exact ⟨fun z => ⟨e0.mp z.1, fun v hv => (ev v hv).mp (z.2 v hv)⟩, fun z => ⟨e0.mpr z.1, fun v hv => (ev v hv).mpr (z.2 v hv)⟩⟩
end
section
variable {M M1 M' : Mem} {m n s t h a b : Nat} {Y : XsT} {Q : Option Value → Mem → Prop}
theorem R_part1x {S : Nat} (F : Fix M) (h4 : m < 4) (hr : SrI M m n) (hL : LdO M) (hf : FrE M m t) (t5 : t ≤ 5) (eS : mAI M 34 m = Int32.ofNat S) (hS : S ≤ 16) (hY : OkX t Y) (hn : n = Y.1.length) (hT : TiR M m t Y (n * 2 ^ t)) (K : ∀ M' f, SkF m M M' → (∀ c, c ≤ 127 ∨ c = 129 ∨ c = 130 → mAI M' c = mAI M c) → ClF M' m n f → GFn Y (ouM M m S) t n f → mI M' 29 = mI M 29 → Q none M') : E (h + 3) mdX11_part1 [.ref 29, .int (Int32.ofNat m)] M Q := by
  have n48 : n ≤ 48 := hr.2.1.2
  have lm : (Int32.ofNat m).toNatClampNeg = m := lt32 (by omega)
  have vm : ∀ {k : Nat}, k = 4 → vp_in (Int32.ofNat m) k := fun e => by rw [e]; exact vp_of (by omega) (by decide)
  have e48 : ∀ q : Nat, 48 * Int32.ofNat m + Int32.ofNat q = Int32.ofNat (48 * m + q) := fun q => by rw [Int32.ofNat_add, Int32.ofNat_mul]; rfl
  have l48 : ∀ q : Nat, q < 48 → (Int32.ofNat (48 * m + q)).toNatClampNeg = 48 * m + q := fun q hq => lt32 (by omega)
  have v48 : ∀ {k : Nat} (q : Nat), q < 48 → k = 192 → vp_in (Int32.ofNat (48 * m + q)) k := fun q hq e => by rw [e]; exact vp_of (by omega) (by decide)
  have v1 : ∀ {k : Nat} (q : Nat), q < 48 → k = 48 → vp_in (Int32.ofNat q) k := fun q hq e => by rw [e]; exact vp_of (by omega) (by decide)
  obtain ⟨o, eo⟩ : ∃ o, o = ouM M m S := ⟨_, rfl⟩
  rw [← eo] at K
  -- alike, by the rows and in the middle
  have ak : ∀ M1 f, (∀ c, c ≤ 127 ∨ c = 129 ∨ c = 130 → mAI M1 c = mAI M c) → (∀ s, s < n → mAI M1 128 (48 * m + s) = Int32.ofNat (f s) ∧ f s ≤ s) → ∀ a b, a < n → b < n → (alkR M1 m t o a b ↔ alK Y o t f a b) := fun M1 f r1 c1 a b ha hb => alk_iff hY hn n48 (fun s v hs hv => by rw [r1 129 (by omega), r1 130 (by omega)]; exact hT.2.2 s v (by omega) hv (mv_lt hs hv)) c1 ha hb
  -- what stays
  have st : ∀ M1, (∀ c, c ≤ 127 ∨ c = 129 ∨ c = 130 → mAI M1 c = mAI M c) → SkF m M M1 → Fix M1 ∧ mAI M1 123 m = Int32.ofNat n ∧ LdO M1 ∧ FrE M1 m t := fun M1 r1 k1 => ⟨k1.fix F, by rw [r1 123 (by omega)]; exact hr.1, hL.k (r1 129 (by omega)), hf.sk k1⟩
  have r128 : ∀ {M1 M2 : Mem} {k : Nat} {v : Int32} {b : Nat}, (∀ c, c ≤ 127 ∨ c = 129 ∨ c = 130 → mAI M1 c = mAI M c) → (b = 128 ∨ b = 131) → M2 = wAI M1 b k v → ∀ c, c ≤ 127 ∨ c = 129 ∨ c = 130 → mAI M2 c = mAI M c := fun {M1 M2 k v b} r1 hb e c hc => by
    rw [e]
    exact (up2_row (by omega)).trans (r1 c hc)
  have rnd : ∀ (f : Nat → Nat) M1, (∀ c, c ≤ 127 ∨ c = 129 ∨ c = 130 → mAI M1 c = mAI M c) → SkF m M M1 → mI M1 29 = mI M 29 → ClF M1 m n f → (∀ g M5 (x3 : Int32), (∀ s, s < n → f s ≤ g s ∧ g s ≤ s) → Nx1 Y o t n f g → ((x3 = 0 ∧ ∀ s, s < n → f s = g s) ∨ (x3 = 1 ∧ ∃ s, s < n ∧ f s < g s)) → (∀ c, c ≤ 127 ∨ c = 129 ∨ c = 130 → mAI M5 c = mAI M c) → SkF m M M5 → mI M5 29 = mI M 29 → ClF M5 m n g → T (h + 3) mdX11_part1 77 [(0, .ref 29), (1, .int (Int32.ofNat m)), (2, .int o), (3, .int x3)] [] M5 Q) → T (h + 3) mdX11_part1 86 [(0, .ref 29), (1, .int (Int32.ofNat m)), (2, .int o), (3, .int 0), (4, .int (Int32.ofNat 0))] [] M1 Q := by
    intro f M1 r1 k1 g1 hC H
    -- the new classes are laid down
    have l137 : ∀ d s (x3 : Int32) (g : Nat → Nat) M3, s + d = n → (∀ q, q < n → f q ≤ g q ∧ g q ≤ q) → Nx1 Y o t n f g → (∀ c, c ≤ 127 ∨ c = 129 ∨ c = 130 → mAI M3 c = mAI M c) → SkF m M M3 → mI M3 29 = mI M 29 → (∀ q, q < n → mAI M3 131 q = Int32.ofNat (g q)) → (∀ q, q < n → mAI M3 128 (48 * m + q) = Int32.ofNat (if q < s then g q else f q)) → ((x3 = 0 ∧ ∀ q, q < s → f q = g q) ∨ (x3 = 1 ∧ ∃ q, q < n ∧ f q < g q)) → T (h + 3) mdX11_part1 137 [(0, .ref 29), (1, .int (Int32.ofNat m)), (2, .int o), (3, .int x3), (4, .int (Int32.ofNat s))] [] M3 Q := by
      intro d
      induction d with
      | zero =>
        intro s x3 g M3 hs fg nx1 r3 k3 g3 n3 c3 hx
        obtain ⟨F3, e3, -, -⟩ := st M3 r3 k3
        refine VX11_part1_137 (h := h + 2) ?_
        unfold DX11_part1_137
        refine ⟨ok29 F3, 123, rf29_115 F3, ok123 F3, vm (ln123 F3), ?_⟩
        rw [lm, e3]
        refine ⟨fun _ => H g M3 x3 fg nx1 (hx.imp (fun y => ⟨y.1, fun q hq => y.2 q (by omega)⟩) id) r3 k3 g3 (fun q hq => ⟨?_, (fg q hq).2⟩), fun z => absurd ((le32 (by omega) (by omega)).mpr (by omega)) z⟩
        rw [c3 q hq, if_pos (by omega)]
      | succ d ih =>
        intro s x3 g M3 hs fg nx1 r3 k3 g3 n3 c3 hx
        obtain ⟨F3, e3, -, -⟩ := st M3 r3 k3
        have sn : s < n := by omega
        have lq : (Int32.ofNat s).toNatClampNeg = s := lt32 (by omega)
        have nx : ∀ x3 : Int32, ((x3 = 0 ∧ ∀ q, q < s + 1 → f q = g q) ∨ (x3 = 1 ∧ ∃ q, q < n ∧ f q < g q)) → DX11_part1_179 (h + 2) 29 (Int32.ofNat m) o (Int32.ofNat s) x3 M3 Q := by
          intro x3 hx
          unfold DX11_part1_179
          rw [e48, l48 s (by omega), lq, succ32]
          refine ⟨ok29 F3, 128, rf29_120 F3, 131, rf29_125 F3, ok131 F3, v1 s (by omega) (ln131 F3), ok128 F3, v48 s (by omega) (ln128 F3), fun M6 e6 => ?_⟩
          rw [n3 s sn] at e6
          refine ih (s + 1) x3 g M6 (by omega) fg nx1 (r128 r3 (Or.inl rfl) e6) (k3.tr (SkF.ai (c := 128) (k := 48 * m + s) (by unfold skA; omega) e6)) (by rw [e6]; exact g3) (fun q hq => ?_) (fun q hq => ?_) hx
          · rw [e6, mAI_wAI, if_neg (fun y => absurd y.1 (by decide))]; exact n3 q hq
          · rw [e6, mAI_wAI]
            by_cases z : q = s
            · rw [if_pos ⟨rfl, by omega⟩, if_pos (by omega), z]
            · rw [if_neg (fun y => z (by have := y.2; omega)), c3 q hq]
              by_cases y : q < s
              · rw [if_pos y, if_pos (by omega)]
              · rw [if_neg y, if_neg (by omega)]
        refine VX11_part1_137 (h := h + 2) ?_
        unfold DX11_part1_137 DX11_part1_174
        refine ⟨ok29 F3, 123, rf29_115 F3, ok123 F3, vm (ln123 F3), ?_⟩
        rw [lm, e3, e48, l48 s (by omega), lq]
        refine ⟨fun z => absurd ((le32 (by omega) (by omega)).mp z) (by omega), fun _ => ⟨fun z => nx 1 (Or.inr ⟨rfl, (hx.resolve_left (fun y => z y.1)).2⟩), fun z => ⟨128, rf29_120 F3, ok128 F3, v48 s (by omega) (ln128 F3), 131, rf29_125 F3, ok131 F3, v1 s (by omega) (ln131 F3), fun y => nx 0 (Or.inl ⟨rfl, ?_⟩), fun y => nx 1 (Or.inr ⟨rfl, s, sn, ?_⟩)⟩⟩⟩
        · rw [n3 s sn, c3 s sn, if_neg (Nat.lt_irrefl s)] at y
          have q := fg s sn
          have es : f s = g s := inj32 (by omega) (by omega) y
          intro r hr
          by_cases w : r = s
          · rw [w]; exact es
          · rcases hx with hx | hx
            · exact hx.2 r (by omega)
            · rw [hx.1] at z; exact absurd z (by decide)
        · rw [n3 s sn, c3 s sn, if_neg (Nat.lt_irrefl s)] at y
          have q := fg s sn
          rcases Nat.lt_or_ge (f s) (g s) with w | w
          · exact w
          · exact absurd (by rw [show f s = g s by omega]) y
    -- the new classes are found
    have l86 : ∀ d s (g : Nat → Nat) M3, s + d = n → (∀ q, q < s → f q ≤ g q ∧ g q ≤ q) → Nx1 Y o t s f g → (∀ c, c ≤ 127 ∨ c = 129 ∨ c = 130 → mAI M3 c = mAI M c) → mAI M3 128 = mAI M1 128 → SkF m M M3 → mI M3 29 = mI M 29 → (∀ q, q < s → mAI M3 131 q = Int32.ofNat (g q)) → T (h + 3) mdX11_part1 86 [(0, .ref 29), (1, .int (Int32.ofNat m)), (2, .int o), (3, .int 0), (4, .int (Int32.ofNat s))] [] M3 Q := by
      intro d
      induction d with
      | zero =>
        intro s g M3 hs fg nx1 r3 q3 k3 g3 n3
        have es : s = n := by omega
        subst es
        obtain ⟨F3, e3, -, -⟩ := st M3 r3 k3
        refine VX11_part1_86 (h := h + 2) ?_
        unfold DX11_part1_86
        refine ⟨ok29 F3, 123, rf29_115 F3, ok123 F3, vm (ln123 F3), ?_⟩
        rw [lm, e3]
        refine ⟨fun _ => l137 s 0 0 g M3 (by omega) fg nx1 r3 k3 g3 n3 (fun q hq => ?_) (Or.inl ⟨rfl, fun q hq => absurd hq (Nat.not_lt_zero _)⟩), fun z => absurd Int32.le_rfl z⟩
        rw [q3, if_neg (Nat.not_lt_zero _)]
        exact (hC q hq).1
      | succ d ih =>
        intro s g M3 hs fg nx1 r3 q3 k3 g3 n3
        have sn : s < n := by omega
        obtain ⟨F3, e3, hL3, hf3⟩ := st M3 r3 k3
        have lq : (Int32.ofNat s).toNatClampNeg = s := lt32 (by omega)
        have c3 : ∀ q, q < n → mAI M3 128 (48 * m + q) = Int32.ofNat (f q) ∧ f q ≤ q := fun q hq => by rw [q3]; exact hC q hq
        have l100 : ∀ e c, c + e = s → (∀ b, b < c → ¬ alK Y o t f b s) → T (h + 3) mdX11_part1 100 [(0, .ref 29), (1, .int (Int32.ofNat m)), (2, .int o), (3, .int 0), (4, .int (Int32.ofNat s)), (5, .int (Int32.ofNat c))] [] M3 Q := by
          intro e
          induction e with
          | zero =>
            intro c hc no
            have ec : c = s := by omega
            subst ec
            refine VX11_part1_100 (h := h + 2) ?_
            unfold DX11_part1_100
            refine ⟨ok29 F3, R_alike (h := h) F3 h4 hL3 hf3 t5 (by omega) (by omega) (fun r hr hi _ => ⟨r, rfl, fun _ => ⟨131, rf29_125 F3, ok131 F3, v1 c (by omega) (ln131 F3), fun M6 e6 => ?_⟩, fun z => ?_⟩)⟩
            · rw [lq] at e6
              rw [succ32]
              refine ih (c + 1) (fun q => if q = c then c else g q) M6 (by omega) (fun q hq => ?_) (fun q hq => ?_) (r128 r3 (Or.inr rfl) e6) ((aiN e6 (by decide)).trans q3) (k3.tr (SkF.ai9 e6)) (by rw [e6]; exact g3) (fun q hq => ?_)
              · by_cases z : q = c
                · rw [if_pos z, z]; exact ⟨(hC c sn).2, Nat.le_refl _⟩
                · rw [if_neg z]; exact fg q (by omega)
              · by_cases z : q = c
                · show (if q = c then c else g q) ≤ q ∧ alK Y o t f (if q = c then c else g q) q ∧ ∀ d, d < (if q = c then c else g q) → ¬ alK Y o t f d q
                  rw [if_pos z, z]; exact ⟨Nat.le_refl _, alK.rf, no⟩
                · show (if q = c then c else g q) ≤ q ∧ alK Y o t f (if q = c then c else g q) q ∧ ∀ d, d < (if q = c then c else g q) → ¬ alK Y o t f d q
                  rw [if_neg z]; exact nx1 q (by omega)
              · rw [e6, mAI_wAI]
                by_cases z : q = c
                · rw [if_pos ⟨rfl, z⟩, if_pos z]
                · rw [if_neg (fun y => z y.2), if_neg z]; exact n3 q (by omega)
            · rw [hi.mpr ⟨rfl, fun v _ => alV.rf⟩] at z
              exact absurd z (by decide)
          | succ e ihe =>
            intro c hc no
            refine VX11_part1_100 (h := h + 2) ?_
            unfold DX11_part1_100
            refine ⟨ok29 F3, R_alike (h := h) F3 h4 hL3 hf3 t5 (by omega) (by omega) (fun r hr hi _ => ⟨r, rfl, fun z => ⟨131, rf29_125 F3, ok131 F3, v1 s (by omega) (ln131 F3), fun M6 e6 => ?_⟩, fun z => ?_⟩)⟩
            · rw [lq] at e6
              rw [succ32]
              have al := (hi.mp (hr.resolve_left z)).1
              rw [q3, (hC c (by omega)).1, (hC s sn).1] at al
              have e9 : f c = f s := by
                have b1 := (hC c (by omega)).2
                have b2 := (hC s sn).2
                exact inj32 (by omega) (by omega) al
              refine ih (s + 1) (fun q => if q = s then c else g q) M6 (by omega) (fun q hq => ?_) (fun q hq => ?_) (r128 r3 (Or.inr rfl) e6) ((aiN e6 (by decide)).trans q3) (k3.tr (SkF.ai9 e6)) (by rw [e6]; exact g3) (fun q hq => ?_)
              · by_cases z : q = s
                · rw [if_pos z, z, ← e9]; exact ⟨(hC c (by omega)).2, by omega⟩
                · rw [if_neg z]; exact fg q (by omega)
              · show (if q = s then c else g q) ≤ q ∧ alK Y o t f (if q = s then c else g q) q ∧ ∀ d, d < (if q = s then c else g q) → ¬ alK Y o t f d q
                by_cases y : q = s
                · rw [if_pos y, y]; exact ⟨by omega, (ak M3 f r3 c3 c s (by omega) sn).mp (hi.mp (hr.resolve_left z)), no⟩
                · rw [if_neg y]; exact nx1 q (by omega)
              · rw [e6, mAI_wAI]
                by_cases z : q = s
                · rw [if_pos ⟨rfl, z⟩, if_pos z]
                · rw [if_neg (fun y => z y.2), if_neg z]; exact n3 q (by omega)
            · rw [succ32]
              refine ihe (c + 1) (by omega) (fun b hb al => ?_)
              by_cases y : b = c
              · rw [y] at al
                rw [hi.mpr ((ak M3 f r3 c3 c s (by omega) sn).mpr al)] at z
                exact absurd z (by decide)
              · exact no b (by omega) al
        refine VX11_part1_86 (h := h + 2) ?_
        unfold DX11_part1_86
        refine ⟨ok29 F3, 123, rf29_115 F3, ok123 F3, vm (ln123 F3), ?_⟩
        rw [lm, e3]
        exact ⟨fun z => absurd ((le32 (by omega) (by omega)).mp z) (by omega), fun _ => l100 s 0 (by omega) (fun b hb => absurd hb (Nat.not_lt_zero _))⟩
    exact l86 n 0 (fun _ => 0) M1 (by omega) (fun q hq => absurd hq (Nat.not_lt_zero _)) (fun q hq => absurd hq (Nat.not_lt_zero _)) r1 rfl k1 g1 (fun q hq => absurd hq (Nat.not_lt_zero _))
  have l77 : ∀ w r (x3 : Int32) (f : Nat → Nat) M1, wgS f n ≤ w → (∀ c, c ≤ 127 ∨ c = 129 ∨ c = 130 → mAI M1 c = mAI M c) → SkF m M M1 → mI M1 29 = mI M 29 → ClF M1 m n f → GRn Y o t n r f → (x3 = 0 → Nx1 Y o t n f f) → T (h + 3) mdX11_part1 77 [(0, .ref 29), (1, .int (Int32.ofNat m)), (2, .int o), (3, .int x3)] [] M1 Q := by
    intro w
    induction w with
    | zero =>
      intro r x3 f M1 hw r1 k1 g1 hC gr gx
      refine VX11_part1_77 (h := h + 2) ?_
      unfold DX11_part1_77
      refine ⟨fun z => K M1 f k1 r1 hC ⟨r, gr, gx z⟩ g1, fun _ => rnd f M1 r1 k1 g1 hC (fun g M5 x5 fg nx1 hx r5 k5 g5 C5 => ?_)⟩
      rcases hx with ⟨hx, he⟩ | ⟨-, hq⟩
      · rw [hx]
        refine VX11_part1_77 (h := h + 2) ?_
        unfold DX11_part1_77
        exact ⟨fun _ => K M5 g k5 r5 C5 ⟨r + 1, ⟨f, gr, nx1⟩, nx1.cl hY hn he⟩ g5, fun z => absurd rfl z⟩
      · exact absurd (wgS_lt n fg hq) (by omega)
    | succ w ih =>
      intro r x3 f M1 hw r1 k1 g1 hC gr gx
      refine VX11_part1_77 (h := h + 2) ?_
      unfold DX11_part1_77
      refine ⟨fun z => K M1 f k1 r1 hC ⟨r, gr, gx z⟩ g1, fun _ => rnd f M1 r1 k1 g1 hC (fun g M5 x5 fg nx1 hx r5 k5 g5 C5 => ?_)⟩
      rcases hx with ⟨hx, he⟩ | ⟨h1, hq⟩
      · rw [hx]
        refine VX11_part1_77 (h := h + 2) ?_
        unfold DX11_part1_77
        exact ⟨fun _ => K M5 g k5 r5 C5 ⟨r + 1, ⟨f, gr, nx1⟩, nx1.cl hY hn he⟩ g5, fun z => absurd rfl z⟩
      · exact ih (r + 1) x5 g M5 (by have := wgS_lt n fg hq; omega) r5 k5 g5 C5 ⟨f, gr, nx1⟩ (fun z => by rw [h1] at z; exact absurd z (by decide))
  have l47 : ∀ d s M1, s + d = n → (∀ c, c ≤ 127 ∨ c = 129 ∨ c = 130 → mAI M1 c = mAI M c) → SkF m M M1 → mI M1 29 = mI M 29 → (∀ q, q < s → mAI M1 128 (48 * m + q) = Int32.ofNat 0) → T (h + 3) mdX11_part1 47 [(0, .ref 29), (1, .int (Int32.ofNat m)), (2, .int o), (3, .int (Int32.ofNat s))] [] M1 Q := by
    intro d
    induction d with
    | zero =>
      intro s M1 hs r1 k1 g1 c1
      have es : s = n := by omega
      subst es
      obtain ⟨F1, e1, -, -⟩ := st M1 r1 k1
      refine VX11_part1_47 (h := h + 2) ?_
      unfold DX11_part1_47
      refine ⟨ok29 F1, 123, rf29_115 F1, ok123 F1, vm (ln123 F1), ?_⟩
      rw [lm, e1]
      exact ⟨fun _ => l77 _ 0 1 (fun _ => 0) M1 (Nat.le_refl _) r1 k1 g1 (fun q hq => ⟨c1 q hq, Nat.zero_le _⟩) (fun _ _ => rfl) (fun z => absurd z (by decide)), fun z => absurd Int32.le_rfl z⟩
    | succ d ih =>
      intro s M1 hs r1 k1 g1 c1
      obtain ⟨F1, e1, -, -⟩ := st M1 r1 k1
      refine VX11_part1_47 (h := h + 2) ?_
      unfold DX11_part1_47
      refine ⟨ok29 F1, 123, rf29_115 F1, ok123 F1, vm (ln123 F1), ?_⟩
      rw [lm, e1, e48, l48 s (by omega), succ32]
      refine ⟨fun z => absurd ((le32 (by omega) (by omega)).mp z) (by omega), fun _ => ⟨128, rf29_120 F1, ok128 F1, v48 s (by omega) (ln128 F1), fun M6 e6 => ?_⟩⟩
      refine ih (s + 1) M6 (by omega) (r128 r1 (Or.inl rfl) e6) (k1.tr (SkF.ai (c := 128) (k := 48 * m + s) (by unfold skA; omega) e6)) (by rw [e6]; exact g1) (fun q hq => ?_)
      rw [e6, mAI_wAI]
      by_cases z : q = s
      · rw [if_pos ⟨rfl, by omega⟩]; rfl
      · rw [if_neg (fun y => z (by have := y.2; omega))]; exact c1 q (by omega)
  have l4 : ∀ d s, s + d = S → T (h + 3) mdX11_part1 4 [(0, .ref 29), (1, .int (Int32.ofNat m)), (2, .int (ouM M m s)), (3, .int (Int32.ofNat s))] [] M Q := by
    intro d
    induction d with
    | zero =>
      intro s hs
      have es : s = S := by omega
      subst es
      refine VX11_part1_4 (h := h + 2) ?_
      unfold DX11_part1_4
      refine ⟨ok29 F, 34, rf29_8 F, ok34 F, vm (ln34 F), ?_⟩
      rw [lm, eS, ← eo]
      exact ⟨fun _ => l47 n 0 M (by omega) (fun _ _ => rfl) SkF.rf rfl (fun q hq => absurd hq (Nat.not_lt_zero _)), fun z => absurd Int32.le_rfl z⟩
    | succ d ih =>
      intro s hs
      have nx := ih (s + 1) (by omega)
      have e16 : 16 * Int32.ofNat m + Int32.ofNat s = Int32.ofNat (16 * m + s) := by rw [Int32.ofNat_add, Int32.ofNat_mul]; rfl
      have l16 : (Int32.ofNat (16 * m + s)).toNatClampNeg = 16 * m + s := lt32 (by omega)
      refine VX11_part1_4 (h := h + 2) ?_
      unfold DX11_part1_4 DX11_part1_37
      refine ⟨ok29 F, 34, rf29_8 F, ok34 F, vm (ln34 F), ?_⟩
      rw [lm, eS, e16, succ32, l16]
      refine ⟨fun z => absurd ((le32 (by omega) (by omega)).mp z) (by omega), fun _ => ⟨38, rf29_12 F, ok38 F, by rw [ln38 F]; exact vp_of (by omega) (by decide), fun z => ?_, fun z => ?_⟩⟩
      · rw [← ouM_n z]; exact nx
      · rw [← ouM_y z]; exact nx
  refine KX11_part1 (h := h + 2) ?_
  unfold DX11_part1_0
  exact l4 S 0 (by omega)
end
/-- signals behind some pre, bit by bit -/
def asM (M : Mem) (m S : Nat) : Int32 := shM (fun s => decide (¬ mAI M 40 (16 * m + s) = 0)) S
theorem asM_y {M : Mem} {m s : Nat} (h : ¬ mAI M 40 (16 * m + s) = 0) : asM M m (s + 1) = asM M m s ||| ((1 : Int32) <<< (Int32.ofNat s &&& 31)) := by
  unfold asM
  show (if decide (¬ mAI M 40 (16 * m + s) = 0) = true then _ else _) = _
  rw [if_pos (decide_eq_true h)]
theorem asM_n {M : Mem} {m s : Nat} (h : mAI M 40 (16 * m + s) = 0) : asM M m (s + 1) = asM M m s ||| 0 := by
  unfold asM
  show (if decide (¬ mAI M 40 (16 * m + s) = 0) = true then _ else _) = _
  rw [if_neg (by rw [decide_eq_true_eq]; exact fun z => z h), Int32.or_zero]
theorem dm_w {s v w : Nat} (hv : v < w) : (s * w + v) / w = s ∧ (s * w + v) % w = v := by
  have hw : 0 < w := by omega
  rw [Nat.add_comm]
  exact ⟨by rw [Nat.add_mul_div_right _ _ hw, Nat.div_eq_of_lt hv, Nat.zero_add], by rw [Nat.add_mul_mod_self_right, Nat.mod_eq_of_lt hv]⟩
theorem RnX.nx {C : CoT} {ask : Int32} {t s v : Nat} {Y : XsT} {o : OcT} (h : RnX C ask t (s * 2 ^ t + v) Y false) (hs : s < Y.1.length) (hv : v < 2 ^ t) (c : C (stX Y s).1 (stX Y s).2.1 (decide (s = 0)) v o) : RnX C ask t (s * 2 ^ t + v + 1) (stpX ask Y s v o).1 (stpX ask Y s v o).2 := by
  obtain ⟨d1, d2⟩ := dm_w (s := s) hv
  exact ⟨Y, o, h, by rw [d1]; exact hs, by rw [d1, d2]; exact c, by rw [d1, d2]⟩
/-- a module's search, exactly: not made, beyond, or made -/
def SrX (C : CoT) (ask o : Int32) (t : Nat) (M : Mem) (m : Nat) : Prop := mAI M 122 m = 0 ∨ (mAI M 122 m = 2 ∧ (5 < t ∨ ∃ Y, FnX C ask t Y true)) ∨ (mAI M 122 m = 1 ∧ t ≤ 5 ∧ ∃ Y f, FnX C ask t Y false ∧ SrI M m Y.1.length ∧ TiR M m t Y (Y.1.length * 2 ^ t) ∧ ClF M m Y.1.length f ∧ GFn Y o t Y.1.length f)
section
variable {M M1 M' : Mem} {m i n s t h y : Nat} {Q : Option Value → Mem → Prop} {R : RMo} {sl il : List Nat} {X : List Nd} {np : Nat}
theorem stp_ge {ask : Int32} {Y : XsT} {s v : Nat} {o : OcT} : Y.1.length ≤ (stpX ask Y s v o).1.1.length := by
  rcases o with _ | ⟨w, e, p⟩
  · exact Nat.le_refl _
  cases e with
  | true => exact Nat.le_refl _
  | false =>
    cases ef : fdX Y.1 p (w &&& ask) with
    | some q => rw [stp_f ef]; exact Nat.le_refl _
    | none =>
      by_cases z : Y.1.length < 48
      · rw [stp_g ef z]
        show Y.1.length ≤ (Y.1 ++ [(p, w &&& ask, s, v)]).length
        rw [List.length_append]
        omega
      · rw [stp_b ef z]
        exact Nat.le_refl _
theorem R_lookx {S : Nat} (hB : RbM R sl il X np M) (F : Fix M) (hL : LdO M) (hG : SrG M (moM R)) (hf : FrE M (moM R) t) (t9 : t ≤ 1000) (eS : mAI M 34 (moM R) = Int32.ofNat S) (hS : S ≤ 16) (hy : inR R y) (ey : mAI M 91 (moM R) = Int32.ofNat y) (hX : SrX (CorR R il y) (asM M (moM R) S) (ouM M (moM R) S) t M (moM R)) (K : ∀ M', SkF (moM R) M M' → LdO M' → SrG M' (moM R) → SrX (CorR R il y) (asM M (moM R) S) (ouM M (moM R) S) t M' (moM R) → mAI M' 122 (moM R) ≠ 0 → Q none M') : E (h + 7) mdX11_look [.ref 29, .int (Int32.ofNat (moM R))] M Q := by
  obtain ⟨C, eC⟩ : ∃ C, C = CorR R il y := ⟨_, rfl⟩
  obtain ⟨ask, ea⟩ : ∃ ask, ask = asM M (moM R) S := ⟨_, rfl⟩
  obtain ⟨o, eo⟩ : ∃ o, o = ouM M (moM R) S := ⟨_, rfl⟩
  rw [← eC, ← ea, ← eo] at hX K
  have ou1 : ∀ M1, SkF (moM R) M M1 → ouM M1 (moM R) S = o := fun M1 k1 => by
    rw [eo]; unfold ouM; rw [k1.row (Or.inl (by decide))]
  -- what k MOVES have come to
  obtain ⟨J, eJ⟩ : ∃ J : Mem → Nat → Nat → Prop, J = fun M1 k n1 => (mAI M1 122 (moM R) = 1 ∧ ∃ Y : XsT, n1 = Y.1.length ∧ RnX C ask t k Y false ∧ TiR M1 (moM R) t Y k) ∨ (mAI M1 122 (moM R) = 2 ∧ ∃ Y, FnX C ask t Y true) := ⟨_, rfl⟩
  have m4 : moM R < 4 := hB.1.1.1
  have lm : (Int32.ofNat (moM R)).toNatClampNeg = moM R := lt32 (by omega)
  have vm : ∀ {k : Nat}, k = 4 → vp_in (Int32.ofNat (moM R)) k := fun e => by rw [e]; exact vp_of (by omega) (by decide)
  have e480 : 48 * Int32.ofNat (moM R) = Int32.ofNat (48 * moM R) := by rw [Int32.ofNat_mul]; rfl
  have v48 : ∀ {k : Nat}, k = 192 → vp_in (Int32.ofNat (48 * moM R)) k := fun e => by rw [e]; exact vp_of (by omega) (by decide)
  have l48 : (Int32.ofNat (48 * moM R)).toNatClampNeg = 48 * moM R := lt32 (by omega)
  -- its end
  have d194 : ∀ M1 n1, t ≤ 5 → SkF (moM R) M M1 → SrI M1 (moM R) n1 → LdO M1 → J M1 (n1 * 2 ^ t) n1 ∨ (mAI M1 122 (moM R) = 2 ∧ ∃ Y, FnX C ask t Y true) → DX11_look_194 (h + 6) 29 (Int32.ofNat (moM R)) M1 Q := by
    intro M1 n1 t5 k1 r1 L1 e1
    have F1 := k1.fix F
    unfold DX11_look_194 DX11_look_209
    rw [lm]
    refine ⟨ok29 F1, 122, rf29_114 F1, ok122 F1, vm (ln122 F1), fun z => ?_, fun z => ?_⟩
    · have e2 : mAI M1 122 (moM R) = 2 ∧ ∃ Y, FnX C ask t Y true := by
        rw [eJ] at e1
        rcases e1 with e1 | e1
        · exact e1.resolve_left (fun y => z y.1)
        · exact e1
      exact K M1 k1 L1 (Or.inr (Or.inl e2.1)) (Or.inr (Or.inl ⟨e2.1, Or.inr e2.2⟩)) (by rw [e2.1]; decide)
    · obtain ⟨Y, eY, rn, ti⟩ : ∃ Y : XsT, n1 = Y.1.length ∧ RnX C ask t (n1 * 2 ^ t) Y false ∧ TiR M1 (moM R) t Y (n1 * 2 ^ t) := by
        rw [eJ] at e1
        rcases e1 with (e1 | e1) | e1
        · exact e1.2
        · rw [e1.1] at z; exact absurd z (by decide)
        · rw [e1.1] at z; exact absurd z (by decide)
      refine R_part1x (h := h + 3) F1 m4 r1 L1 (hf.sk k1) t5 (by rw [k1.row (Or.inl (by decide))]; exact eS) hS (RnX.ok _ _ _ rn) eY ti (fun M2 f k2 r2 C2 gf _ _ => ⟨rfl, ?_⟩)
      rw [ou1 M1 k1] at gf
      have e2 : mAI M2 122 (moM R) = 1 := by rw [r2 122 (by omega)]; exact z
      exact K M2 (k1.tr k2) (L1.k (r2 129 (by omega))) (Or.inr (Or.inr ⟨e2, n1, t, f, r1.k (r2 123 (by omega)) (r2 126 (by omega)), (hf.sk k1).sk k2, t5, C2⟩)) (Or.inr (Or.inr ⟨e2, t5, Y, f, ⟨_, rn, Or.inr (by rw [eY])⟩, by rw [← eY]; exact r1.k (r2 123 (by omega)) (r2 126 (by omega)), by rw [← eY]; exact ti.rw (fun c h1 h2 h3 => r2 c (by omega)), by rw [← eY]; exact C2, by rw [← eY]; exact gf⟩)) (by rw [e2]; decide)
  -- STATE by STATE
  have l130 : ∀ d s M1 n1, t ≤ 5 → s + d = 48 → s ≤ n1 → SkF (moM R) M M1 → SrI M1 (moM R) n1 → LdO M1 → mI M1 29 84 = Int32.ofNat (moM R) → J M1 (s * 2 ^ t) n1 → T (h + 7) mdX11_look 130 [(0, .ref 29), (1, .int (Int32.ofNat (moM R))), (2, .int ask), (3, .int (Int32.ofNat s))] [] M1 Q := by
    intro d
    induction d with
    | zero =>
      intro s M1 n1 t5 hs sn1 k1 r1 L1 g1 e1
      have F1 := k1.fix F
      have n48 := r1.2.1.2
      refine VX11_look_130 (h := h + 6) ?_
      unfold DX11_look_130
      refine ⟨ok29 F1, 123, rf29_115 F1, ok123 F1, vm (ln123 F1), ?_⟩
      rw [lm, r1.1]
      have hs8 : s = 48 := hs
      have es : s = n1 := by omega
      exact ⟨fun _ => d194 M1 n1 t5 k1 r1 L1 (Or.inl (by rw [es] at e1; exact e1)), fun z => absurd ((le32 (a := n1) (b := s) (by omega) (by omega)).mpr (by omega)) z⟩
    | succ d ih =>
      intro s M1 n1 t5 hs sn1 k1 r1 L1 g1 e1
      have F1 := k1.fix F
      have n48 := r1.2.1.2
      obtain ⟨p1, p2⟩ := pw_le t5
      have l153 : ∀ e v M2 n2, v + e = 2 ^ t → n1 ≤ n2 → SkF (moM R) M M2 → SrI M2 (moM R) n2 → LdO M2 → mI M2 29 84 = Int32.ofNat (moM R) → s < n2 → J M2 (s * 2 ^ t + v) n2 → T (h + 7) mdX11_look 153 [(0, .ref 29), (1, .int (Int32.ofNat (moM R))), (2, .int ask), (3, .int (Int32.ofNat s)), (4, .int (Int32.ofNat v))] [] M2 Q := by
        intro e
        induction e with
        | zero =>
          intro v M2 n2 hv hn k2 r2 L2 g2 sn e2
          have F2 := k2.fix F
          have ev : v = 2 ^ t := by omega
          subst ev
          refine VX11_look_153 (h := h + 6) ?_
          unfold DX11_look_153 DX11_look_188
          rw [succ32]
          exact ⟨ok29 F2, R_moves (h := h + 5) F2 m4 (hf.sk k2) t5 (fun _ => ⟨_, rfl, fun _ => ih (s + 1) M2 n2 t5 (by omega) (by omega) k2 r2 L2 g2 (by rw [Nat.succ_mul]; exact e2), fun z => absurd Int32.le_rfl z⟩)⟩
        | succ e ihe =>
          intro v M2 n2 hv hn k2 r2 L2 g2 sn e2
          have F2 := k2.fix F
          have nle : ¬ Int32.ofNat (2 ^ t) ≤ Int32.ofNat v := fun z => by
            have := (le32 (by omega) (by omega)).mp z
            omega
          refine VX11_look_153 (h := h + 6) ?_
          unfold DX11_look_153 DX11_look_188
          rw [succ32, succ32]
          refine ⟨ok29 F2, R_moves (h := h + 5) F2 m4 (hf.sk k2) t5 (fun _ => ⟨_, rfl, fun z => absurd z nle, fun _ => ⟨122, rf29_114 F2, ok122 F2, vm (ln122 F2), fun z => ih (s + 1) M2 n2 t5 (by omega) (by omega) k2 r2 L2 g2 ?_, fun z => ?_⟩⟩)⟩
          · rw [lm] at z
            rw [eJ] at e2 ⊢
            exact Or.inr (e2.resolve_left (fun y => z y.1))
          rw [lm] at z
          obtain ⟨Y, eY, rn, ti⟩ : ∃ Y : XsT, n2 = Y.1.length ∧ RnX C ask t (s * 2 ^ t + v) Y false ∧ TiR M2 (moM R) t Y (s * 2 ^ t + v) := by
            rw [eJ] at e2
            rcases e2 with e2 | e2
            · exact e2.2
            · rw [e2.1] at z; exact absurd z (by decide)
          refine R_mv1x (h := h) (a := ask) (hB.sk k2) F2 g2 (by rw [← eY]; exact r2) L2 (by omega) t5 (by omega) z hy (by rw [k2.row (Or.inl (by decide))]; exact ey) ti (fun M3 oc k3 cor r3 L3 g3 e3 t3 _ => ⟨rfl, ihe (v + 1) M3 _ (by omega) ?_ (k2.tr k3) r3 L3 g3 ?_ ?_⟩)
          · have := stp_ge (ask := ask) (Y := Y) (s := s) (v := v) (o := oc); omega
          · have := stp_ge (ask := ask) (Y := Y) (s := s) (v := v) (o := oc); omega
          · rw [← eC] at cor
            have rn' := rn.nx (by omega) (by omega) cor
            rw [eJ]
            cases eb : (stpX ask Y s v oc).2 with
            | true =>
              rw [eb] at e3 rn'
              rw [if_pos rfl] at e3
              exact Or.inr ⟨e3, _, _, rn', Or.inl rfl⟩
            | false =>
              rw [eb] at e3 rn'
              rw [if_neg (by decide)] at e3
              exact Or.inl ⟨e3, _, rfl, rn', t3 eb⟩
      refine VX11_look_130 (h := h + 6) ?_
      unfold DX11_look_130
      refine ⟨ok29 F1, 123, rf29_115 F1, ok123 F1, vm (ln123 F1), ?_⟩
      rw [lm, r1.1]
      refine ⟨fun z => d194 M1 n1 t5 k1 r1 L1 (Or.inl ?_), fun z => ⟨122, rf29_114 F1, ok122 F1, vm (ln122 F1), fun z2 => d194 M1 n1 t5 k1 r1 L1 (Or.inr ?_), fun _ => ?_⟩⟩
      · have := (le32 (a := n1) (b := s) (by omega) (by omega)).mp z
        rw [show n1 = s by omega] at e1 ⊢
        exact e1
      · rw [eJ] at e1
        exact e1.resolve_left (fun y => z2 y.1)
      have sn : s < n1 := by
        rcases Nat.lt_or_ge s n1 with y | y
        · exact y
        · exact absurd ((le32 (by omega) (by omega)).mpr y) z
      exact l153 (2 ^ t) 0 M1 n1 (by omega) (Nat.le_refl _) k1 r1 L1 g1 sn e1
  refine KX11_look (h := h + 6) ?_
  unfold DX11_look_0
  refine ⟨ok29 F, 122, rf29_114 F, ok122 F, vm (ln122 F), ?_⟩
  rw [lm]
  refine ⟨fun z => ⟨122, rf29_114 F, ok122 F, vm (ln122 F), fun M6 e6 => ?_⟩, fun z => K M SkF.rf hL hG hX (fun y => z (by rw [y]; decide))⟩
  have k6 : SkF (moM R) M M6 := SkF.ai (c := 122) (k := moM R) (by unfold skA; omega) e6
  have F6 := k6.fix F
  obtain ⟨i, f, f1, f2, f3⟩ := hf.sk k6
  refine ⟨35, rf29_9 F6, ok35 F6, vm (ln35 F6), 56, rf29_36 F6, ok56 F6, vm (ln56 F6), ?_⟩
  rw [f1, f2, add32, f3]
  refine ⟨fun z5 => ?_, fun z5 => ⟨122, rf29_114 F6, ok122 F6, vm (ln122 F6), fun M13 e13 => ?_⟩⟩
  · have t5 : t ≤ 5 := (le32 (a := t) (b := 5) (by omega) (by decide)).mp z5
    have q6 : ∀ c, c ≠ 122 → mAI M6 c = mAI M c := fun c hc => aiN e6 hc
    have l46 : ∀ d s, s + d = S → T (h + 7) mdX11_look 46 [(0, .ref 29), (1, .int (Int32.ofNat (moM R))), (2, .int (asM M (moM R) s)), (3, .int (Int32.ofNat s))] [] M6 Q := by
      intro d
      induction d with
      | zero =>
        intro s hs
        have es : s = S := by omega
        subst es
        rw [← ea]
        refine VX11_look_46 (h := h + 6) ?_
        unfold DX11_look_46
        refine ⟨ok29 F6, 34, rf29_8 F6, ok34 F6, vm (ln34 F6), ?_⟩
        rw [lm, q6 34 (by decide), eS, e480, l48]
        refine ⟨fun _ M7 e7 => ?_, fun z => absurd Int32.le_rfl z⟩
        have k7 : SkF (moM R) M M7 := k6.tr (SkF.i (by omega) e7)
        have F7 := k7.fix F
        refine ⟨123, rf29_115 F7, ok123 F7, vm (ln123 F7), fun M8 e8 => ?_⟩
        have k8 : SkF (moM R) M M8 := k7.tr (SkF.ai (c := 123) (k := moM R) (by unfold skA; omega) e8)
        have F8 := k8.fix F
        refine ⟨124, rf29_116 F8, ok124 F8, v48 (ln124 F8), fun M10 e10 => ?_⟩
        have k10 : SkF (moM R) M M10 := k8.tr (SkF.ai (c := 124) (k := 48 * moM R) (by unfold skA; omega) e10)
        have F10 := k10.fix F
        refine ⟨125, rf29_117 F10, ok125 F10, v48 (ln125 F10), fun M12 e12 => ?_⟩
        have k12 : SkF (moM R) M M12 := k10.tr (SkF.ai (c := 125) (k := 48 * moM R) (by unfold skA; omega) e12)
        have F12 := k12.fix F
        refine ⟨126, rf29_118 F12, ok126 F12, v48 (ln126 F12), fun M16 e16 => ?_⟩
        have k16 : SkF (moM R) M M16 := k12.tr (SkF.ai (c := 126) (k := 48 * moM R) (by unfold skA; omega) e16)
        refine l130 48 0 M16 1 t5 (by omega) (by omega) k16 ⟨?_, ⟨by omega, by omega⟩, ?_, fun s s1 s2 => by omega⟩ (hL.k ?_) ?_ ?_
        · rw [e16, mAI_wAI, if_neg (fun y => absurd y.1 (by decide)), e12, mAI_wAI, if_neg (fun y => absurd y.1 (by decide)), e10, mAI_wAI, if_neg (fun y => absurd y.1 (by decide)), e8, mAI_wAI, if_pos ⟨rfl, rfl⟩]; rfl
        · rw [e16, mAI_wAI, if_pos ⟨rfl, rfl⟩]
        · exact (aiN e16 (by decide)).trans ((aiN e12 (by decide)).trans ((aiN e10 (by decide)).trans ((aiN e8 (by decide)).trans ((show mAI M7 129 = mAI M6 129 from by rw [e7]; rfl).trans (aiN e6 (by decide))))))
        · rw [e16, e12, e10, e8]
          show mI M7 29 84 = _
          rw [e7, mI_wI, if_pos ⟨rfl, rfl⟩]
        · have z122 : mAI M16 122 (moM R) = 1 := by
            rw [e16, mAI_wAI, if_neg (fun y => absurd y.1 (by decide)), e12, mAI_wAI, if_neg (fun y => absurd y.1 (by decide)), e10, mAI_wAI, if_neg (fun y => absurd y.1 (by decide)), e8, mAI_wAI, if_neg (fun y => absurd y.1 (by decide)), e7]
            show mAI M6 122 _ = _
            rw [e6, mAI_wAI, if_pos ⟨rfl, rfl⟩]
          rw [eJ, Nat.zero_mul]
          refine Or.inl ⟨z122, xs00, rfl, ⟨rfl, rfl⟩, fun q hq => ?_, fun q q1 q2 => ?_, fun q v _ _ hk => absurd hk (Nat.not_lt_zero _)⟩
          · have hq : q < 1 := hq
            have q0 : q = 0 := by omega
            subst q0
            rw [Nat.add_zero, aiN e16 (by decide), aiN e16 (by decide)]
            refine ⟨?_, ?_⟩
            · rw [aiN e12 (by decide), e10, mAI_wAI, if_pos ⟨rfl, rfl⟩]; rfl
            · rw [e12, mAI_wAI, if_pos ⟨rfl, rfl⟩]; rfl
          · have q2 : q < 1 := q2
            omega
      | succ d ih =>
        intro s hs
        have nx := ih (s + 1) (by omega)
        have l16 : (Int32.ofNat (16 * moM R + s)).toNatClampNeg = 16 * moM R + s := lt32 (by omega)
        have e16 : 16 * Int32.ofNat (moM R) + Int32.ofNat s = Int32.ofNat (16 * moM R + s) := by rw [Int32.ofNat_add, Int32.ofNat_mul]; rfl
        refine VX11_look_46 (h := h + 6) ?_
        unfold DX11_look_46 DX11_look_78
        refine ⟨ok29 F6, 34, rf29_8 F6, ok34 F6, vm (ln34 F6), ?_⟩
        rw [lm, q6 34 (by decide), eS, e16, succ32, l16]
        refine ⟨fun z => absurd ((le32 (by omega) (by omega)).mp z) (by omega), fun _ => ⟨40, rf29_14 F6, ok40 F6, by rw [ln40 F6]; exact vp_of (by omega) (by decide), fun z => ?_, fun z => ?_⟩⟩
        · rw [q6 40 (by decide)] at z; rw [← asM_n z]; exact nx
        · rw [q6 40 (by decide)] at z; rw [← asM_y z]; exact nx
    exact l46 S 0 (by omega)
  · have e2 : mAI M13 122 (moM R) = 2 := by rw [e13, mAI_wAI, if_pos ⟨rfl, rfl⟩]
    exact K M13 (k6.tr (SkF.ai (c := 122) (k := moM R) (by unfold skA; omega) e13)) ((hL.k (aiN e6 (by decide))).k (aiN e13 (by decide))) (Or.inr (Or.inl e2)) (Or.inr (Or.inl ⟨e2, Or.inl (Nat.lt_of_not_le (fun y => z5 ((le32 (a := t) (b := 5) (by omega) (by decide)).mpr y)))⟩)) (by rw [e2]; decide)
end
