/-! new cells behind the old ones, as a memory of their own: M is Mb and, from n0 on, M0 -/
def shf (n0 : Nat) (o : Option Nat) : Option Nat := o.map (fun b => if b < mBig then n0 + b else b)
def shO (n0 : Nat) (M M0 : Mem) (i : Nat) : Prop := mI M (n0 + i) = mI M0 i ∧ mJ M (n0 + i) = mJ M0 i ∧ ∀ f, mR M (n0 + i) f = shf n0 (mR M0 i f)
def shA (n0 : Nat) (M M0 : Mem) (i : Nat) : Prop := mL M (n0 + i) = mL M0 i ∧ mAI M (n0 + i) = mAI M0 i ∧ mAJ M (n0 + i) = mAJ M0 i ∧ ∀ f, mAR M (n0 + i) f = shf n0 (mAR M0 i f)
def Sh (n0 : Nat) (Mb M M0 : Mem) : Prop := mN M = n0 + mN M0 ∧ mN Mb = n0 ∧ mS M = mS Mb + mS M0 ∧ fr (fun _ => False) Mb M ∧
  ∀ i, i < mN M0 → mK M (n0 + i) = mK M0 i ∧ (mK M0 i < 20 → shO n0 M M0 i) ∧ (20 ≤ mK M0 i → shA n0 M M0 i)
theorem up2_sh {α : Type} {f : Nat → Nat → α} {g : Nat → Nat → α} {n0 i a k : Nat} {v : α} (h : f (n0 + i) = g i) : up2 f (n0 + a) k v (n0 + i) = up2 g a k v i := by
  funext j
  unfold up2
  by_cases hi : i = a
  · subst hi
    by_cases hj : j = k
    · rw [if_pos ⟨rfl, hj⟩, if_pos ⟨rfl, hj⟩]
    · rw [if_neg (fun z => hj z.2), if_neg (fun z => hj z.2), h]
  · rw [if_neg (fun z => hi (by omega)), if_neg (fun z => hi z.1), h]
theorem Sh.start {n0 : Nat} {Mb : Mem} (h : mN Mb = n0) : Sh n0 Mb Mb mem0 := ⟨h, h, rfl, fr.rf, fun i hi => absurd hi (Nat.not_lt_zero i)⟩
theorem Sh.i {n0 a k : Nat} {Mb M M0 : Mem} {v : Int32} (h : Sh n0 Mb M M0) : Sh n0 Mb (wI M (n0 + a) k v) (wI M0 a k v) := by
  obtain ⟨h1, h2, h3, h4, h5⟩ := h
  refine ⟨h1, h2, h3, ⟨h4.1, fun b hb _ => ?_⟩, fun i hi => ?_⟩
  · obtain ⟨r1, r2, r3, r4, r5, r6⟩ := h4.2 b hb (fun z => z)
    exact ⟨(up2_row (by omega)).trans r1, r2, r3, r4, r5, r6⟩
  · obtain ⟨s1, s2, s3⟩ := h5 i hi
    exact ⟨s1, fun q => ⟨up2_sh (s2 q).1, (s2 q).2.1, (s2 q).2.2⟩, s3⟩
theorem Sh.ai {n0 a k : Nat} {Mb M M0 : Mem} {v : Int32} (h : Sh n0 Mb M M0) : Sh n0 Mb (wAI M (n0 + a) k v) (wAI M0 a k v) := by
  obtain ⟨h1, h2, h3, h4, h5⟩ := h
  refine ⟨h1, h2, h3, ⟨h4.1, fun b hb _ => ?_⟩, fun i hi => ?_⟩
  · obtain ⟨r1, r2, r3, r4, r5, r6⟩ := h4.2 b hb (fun z => z)
    exact ⟨r1, r2, r3, (up2_row (by omega)).trans r4, r5, r6⟩
  · obtain ⟨s1, s2, s3⟩ := h5 i hi
    exact ⟨s1, s2, fun q => ⟨(s3 q).1, up2_sh (s3 q).2.1, (s3 q).2.2⟩⟩
theorem Sh.r {n0 a k : Nat} {Mb M M0 : Mem} {o p : Option Nat} (h : Sh n0 Mb M M0) (hp : p = shf n0 o) : Sh n0 Mb (wR M (n0 + a) k p) (wR M0 a k o) := by
  obtain ⟨h1, h2, h3, h4, h5⟩ := h
  subst hp
  refine ⟨h1, h2, h3, ⟨h4.1, fun b hb _ => ?_⟩, fun i hi => ?_⟩
  · obtain ⟨r1, r2, r3, r4, r5, r6⟩ := h4.2 b hb (fun z => z)
    exact ⟨r1, r2, (up2_row (by omega)).trans r3, r4, r5, r6⟩
  · obtain ⟨s1, s2, s3⟩ := h5 i hi
    refine ⟨s1, fun q => ⟨(s2 q).1, (s2 q).2.1, fun f => ?_⟩, s3⟩
    show up2 (mR M) (n0 + a) k (shf n0 o) (n0 + i) f = shf n0 (up2 (mR M0) a k o i f)
    unfold up2
    by_cases hc : i = a ∧ f = k
    · rw [if_pos ⟨by rw [hc.1], hc.2⟩, if_pos hc]
    · rw [if_neg (fun z => hc ⟨by omega, z.2⟩), if_neg hc, (s2 q).2.2 f]
theorem va_up_sh {α : Type} {f g : Nat → α} {n0 m n i : Nat} {v : α} (hm : m = n0 + n) (hi : i < n → f (n0 + i) = g i) (h : i < n + 1) : va_up f m v (n0 + i) = va_up g n v i := by
  subst hm
  unfold va_up
  by_cases hc : i = n
  · rw [if_pos (by rw [hc]), if_pos hc]
  · rw [if_neg (by omega), if_neg hc, hi (by omega)]
theorem va_up_lt {α : Type} {f : Nat → α} {n i : Nat} {v : α} (h : i < n) : va_up f n v i = f i := va_up_ne _ _ (Nat.ne_of_lt h)
theorem Sh.o {n0 c n : Nat} {Mb M M0 : Mem} (h : Sh n0 Mb M M0) (hc : c < 20) : Sh n0 Mb (nwO M c n) (nwO M0 c n) := by
  obtain ⟨h1, h2, h3, h4, h5⟩ := h
  refine ⟨by show mN M + 1 = n0 + (mN M0 + 1); omega, h2, by show mS M + n = mS Mb + (mS M0 + n); omega, h4.tr (fr_nwO) (fun _ _ z => z), fun i hi => ?_⟩
  have hi : i < mN M0 + 1 := hi
  refine ⟨va_up_sh h1 (fun q => (h5 i q).1) hi, fun q => ?_, fun q => ?_⟩
  · by_cases hn : i < mN M0
    · have q : mK M0 i < 20 := by
        have : va_up (mK M0) (mN M0) c i < 20 := q
        rwa [va_up_lt hn] at this
      obtain ⟨a1, a2, a3⟩ := (h5 i hn).2.1 q
      refine ⟨va_up_sh h1 (fun _ => a1) hi, va_up_sh h1 (fun _ => a2) hi, fun f => ?_⟩
      show va_up (mR M) (mN M) _ (n0 + i) f = shf n0 (va_up (mR M0) (mN M0) _ i f)
      rw [va_up_lt (by omega), va_up_lt hn]
      exact a3 f
    · have hn : i = mN M0 := by omega
      subst hn
      refine ⟨va_up_sh h1 (fun z => absurd z (Nat.lt_irrefl _)) hi, va_up_sh h1 (fun z => absurd z (Nat.lt_irrefl _)) hi, fun f => ?_⟩
      show va_up (mR M) (mN M) _ (n0 + mN M0) f = shf n0 (va_up (mR M0) (mN M0) _ (mN M0) f)
      rw [← h1, va_up_self, va_up_self]
      rfl
  · by_cases hn : i < mN M0
    · have q : 20 ≤ mK M0 i := by
        have : 20 ≤ va_up (mK M0) (mN M0) c i := q
        rwa [va_up_lt hn] at this
      exact (h5 i hn).2.2 q
    · have hn : i = mN M0 := by omega
      subst hn
      have : 20 ≤ va_up (mK M0) (mN M0) c (mN M0) := q
      rw [va_up_self] at this
      omega
theorem Sh.a {n0 c n : Nat} {Mb M M0 : Mem} (h : Sh n0 Mb M M0) (hc : 20 ≤ c) : Sh n0 Mb (nwA M c n) (nwA M0 c n) := by
  obtain ⟨h1, h2, h3, h4, h5⟩ := h
  refine ⟨by show mN M + 1 = n0 + (mN M0 + 1); omega, h2, by show mS M + n = mS Mb + (mS M0 + n); omega, h4.tr (fr_nwA) (fun _ _ z => z), fun i hi => ?_⟩
  have hi : i < mN M0 + 1 := hi
  refine ⟨va_up_sh h1 (fun q => (h5 i q).1) hi, fun q => ?_, fun q => ?_⟩
  · by_cases hn : i < mN M0
    · have q : mK M0 i < 20 := by
        have : va_up (mK M0) (mN M0) c i < 20 := q
        rwa [va_up_lt hn] at this
      exact (h5 i hn).2.1 q
    · have hn : i = mN M0 := by omega
      subst hn
      have : va_up (mK M0) (mN M0) c (mN M0) < 20 := q
      rw [va_up_self] at this
      omega
  · by_cases hn : i < mN M0
    · have q : 20 ≤ mK M0 i := by
        have : 20 ≤ va_up (mK M0) (mN M0) c i := q
        rwa [va_up_lt hn] at this
      obtain ⟨a1, a2, a3, a4⟩ := (h5 i hn).2.2 q
      refine ⟨va_up_sh h1 (fun _ => a1) hi, va_up_sh h1 (fun _ => a2) hi, va_up_sh h1 (fun _ => a3) hi, fun f => ?_⟩
      show va_up (mAR M) (mN M) _ (n0 + i) f = shf n0 (va_up (mAR M0) (mN M0) _ i f)
      rw [va_up_lt (by omega), va_up_lt hn]
      exact a4 f
    · have hn : i = mN M0 := by omega
      subst hn
      refine ⟨va_up_sh h1 (fun z => absurd z (Nat.lt_irrefl _)) hi, va_up_sh h1 (fun z => absurd z (Nat.lt_irrefl _)) hi, va_up_sh h1 (fun z => absurd z (Nat.lt_irrefl _)) hi, fun f => ?_⟩
      show va_up (mAR M) (mN M) _ (n0 + mN M0) f = shf n0 (va_up (mAR M0) (mN M0) _ (mN M0) f)
      rw [← h1, va_up_self, va_up_self]
      rfl
theorem shf_lt {n0 b : Nat} (h : b < mBig) : some (n0 + b) = shf n0 (some b) := by
  show _ = some (if b < mBig then n0 + b else b); rw [if_pos h]
theorem shf_sp {n0 j : Nat} : some (mBig + j) = shf n0 (some (mBig + j)) := by
  show _ = some (if mBig + j < mBig then n0 + (mBig + j) else mBig + j); rw [if_neg (by omega)]
/-- a new row of numbers into field k of the object a -/
theorem Sh.n {n0 a k kd len q : Nat} {Mb M M0 M1 M2 : Mem} (h : Sh n0 Mb M M0) (hkd : 20 ≤ kd) (hb : mN M0 < mBig) (hq : q = mN M) (e1 : M1 = nwA M kd len) (e2 : M2 = wR M1 (n0 + a) k (some q)) : Sh n0 Mb M2 (nf M0 a k kd len) := by
  subst e2 e1 hq
  rw [h.1]
  exact (h.a hkd).r (shf_lt hb)
theorem Sh.k {n0 a c : Nat} {Mb M M0 : Mem} (h : Sh n0 Mb M M0) (ha : a < mN M0) (hc : mK M0 a = c) : ok M (n0 + a) c := ⟨by rw [h.1]; omega, (h.2.2.2.2 a ha).1.trans hc⟩
theorem Sh.rR {n0 a f b : Nat} {Mb M M0 : Mem} (h : Sh n0 Mb M M0) (ha : a < mN M0) (hc : mK M0 a < 20) (hr : mR M0 a f = some b) (hb : b < mBig) : mR M (n0 + a) f = some (n0 + b) := by
  rw [((h.2.2.2.2 a ha).2.1 hc).2.2 f, hr]; exact (shf_lt hb).symm
theorem Sh.rI {n0 a f : Nat} {v : Int32} {Mb M M0 : Mem} (h : Sh n0 Mb M M0) (ha : a < mN M0) (hc : mK M0 a < 20) (hr : mI M0 a f = v) : mI M (n0 + a) f = v := by
  rw [((h.2.2.2.2 a ha).2.1 hc).1, hr]
theorem Sh.rL {n0 a n : Nat} {Mb M M0 : Mem} (h : Sh n0 Mb M M0) (ha : a < mN M0) (hc : 20 ≤ mK M0 a) (hr : mL M0 a = n) : mL M (n0 + a) = n := by
  rw [((h.2.2.2.2 a ha).2.2 hc).1, hr]
theorem Sh.fix {n0 : Nat} {Mb M M0 : Mem} (h : Sh n0 Mb M M0) (F : Fix Mb) : Fix M := by
  have h0 : 132 ≤ n0 := h.2.1 ▸ F.1
  refine F.of_fr (S := fun _ => True) h.2.2.2.1.1 (fun e he => ?_) ?_
  · have := tRS_lt e he
    rw [(h.2.2.2.1.2 e.1 (by rw [h.2.1]; omega) (fun z => z)).2.2.1]
  · exact (h.2.2.2.1.2 19 (by rw [h.2.1]; omega) (fun z => z)).2.2.2.2.1
