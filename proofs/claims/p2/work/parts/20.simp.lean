/-! what is read behind a write -/
theorem mN_wI (M : Mem) (a k : Nat) (v : Int32) : mN (wI M a k v) = mN M := rfl
theorem mS_wI (M : Mem) (a k : Nat) (v : Int32) : mS (wI M a k v) = mS M := rfl
theorem mK_wI (M : Mem) (a k : Nat) (v : Int32) : mK (wI M a k v) = mK M := rfl
theorem mI_wI (M : Mem) (a k : Nat) (v : Int32) (b j : Nat) : mI (wI M a k v) b j = if b = a ∧ j = k then v else mI M b j := rfl
theorem mJ_wI (M : Mem) (a k : Nat) (v : Int32) : mJ (wI M a k v) = mJ M := rfl
theorem mR_wI (M : Mem) (a k : Nat) (v : Int32) : mR (wI M a k v) = mR M := rfl
theorem mL_wI (M : Mem) (a k : Nat) (v : Int32) : mL (wI M a k v) = mL M := rfl
theorem mAI_wI (M : Mem) (a k : Nat) (v : Int32) : mAI (wI M a k v) = mAI M := rfl
theorem mAJ_wI (M : Mem) (a k : Nat) (v : Int32) : mAJ (wI M a k v) = mAJ M := rfl
theorem mAR_wI (M : Mem) (a k : Nat) (v : Int32) : mAR (wI M a k v) = mAR M := rfl
theorem mN_wJ (M : Mem) (a k : Nat) (v : Int64) : mN (wJ M a k v) = mN M := rfl
theorem mS_wJ (M : Mem) (a k : Nat) (v : Int64) : mS (wJ M a k v) = mS M := rfl
theorem mK_wJ (M : Mem) (a k : Nat) (v : Int64) : mK (wJ M a k v) = mK M := rfl
theorem mI_wJ (M : Mem) (a k : Nat) (v : Int64) : mI (wJ M a k v) = mI M := rfl
theorem mJ_wJ (M : Mem) (a k : Nat) (v : Int64) (b j : Nat) : mJ (wJ M a k v) b j = if b = a ∧ j = k then v else mJ M b j := rfl
theorem mR_wJ (M : Mem) (a k : Nat) (v : Int64) : mR (wJ M a k v) = mR M := rfl
theorem mL_wJ (M : Mem) (a k : Nat) (v : Int64) : mL (wJ M a k v) = mL M := rfl
theorem mAI_wJ (M : Mem) (a k : Nat) (v : Int64) : mAI (wJ M a k v) = mAI M := rfl
theorem mAJ_wJ (M : Mem) (a k : Nat) (v : Int64) : mAJ (wJ M a k v) = mAJ M := rfl
theorem mAR_wJ (M : Mem) (a k : Nat) (v : Int64) : mAR (wJ M a k v) = mAR M := rfl
theorem mN_wR (M : Mem) (a k : Nat) (v : Option Nat) : mN (wR M a k v) = mN M := rfl
theorem mS_wR (M : Mem) (a k : Nat) (v : Option Nat) : mS (wR M a k v) = mS M := rfl
theorem mK_wR (M : Mem) (a k : Nat) (v : Option Nat) : mK (wR M a k v) = mK M := rfl
theorem mI_wR (M : Mem) (a k : Nat) (v : Option Nat) : mI (wR M a k v) = mI M := rfl
theorem mJ_wR (M : Mem) (a k : Nat) (v : Option Nat) : mJ (wR M a k v) = mJ M := rfl
theorem mR_wR (M : Mem) (a k : Nat) (v : Option Nat) (b j : Nat) : mR (wR M a k v) b j = if b = a ∧ j = k then v else mR M b j := rfl
theorem mL_wR (M : Mem) (a k : Nat) (v : Option Nat) : mL (wR M a k v) = mL M := rfl
theorem mAI_wR (M : Mem) (a k : Nat) (v : Option Nat) : mAI (wR M a k v) = mAI M := rfl
theorem mAJ_wR (M : Mem) (a k : Nat) (v : Option Nat) : mAJ (wR M a k v) = mAJ M := rfl
theorem mAR_wR (M : Mem) (a k : Nat) (v : Option Nat) : mAR (wR M a k v) = mAR M := rfl
theorem mN_wAI (M : Mem) (a k : Nat) (v : Int32) : mN (wAI M a k v) = mN M := rfl
theorem mS_wAI (M : Mem) (a k : Nat) (v : Int32) : mS (wAI M a k v) = mS M := rfl
theorem mK_wAI (M : Mem) (a k : Nat) (v : Int32) : mK (wAI M a k v) = mK M := rfl
theorem mI_wAI (M : Mem) (a k : Nat) (v : Int32) : mI (wAI M a k v) = mI M := rfl
theorem mJ_wAI (M : Mem) (a k : Nat) (v : Int32) : mJ (wAI M a k v) = mJ M := rfl
theorem mR_wAI (M : Mem) (a k : Nat) (v : Int32) : mR (wAI M a k v) = mR M := rfl
theorem mL_wAI (M : Mem) (a k : Nat) (v : Int32) : mL (wAI M a k v) = mL M := rfl
theorem mAI_wAI (M : Mem) (a k : Nat) (v : Int32) (b j : Nat) : mAI (wAI M a k v) b j = if b = a ∧ j = k then v else mAI M b j := rfl
theorem mAJ_wAI (M : Mem) (a k : Nat) (v : Int32) : mAJ (wAI M a k v) = mAJ M := rfl
theorem mAR_wAI (M : Mem) (a k : Nat) (v : Int32) : mAR (wAI M a k v) = mAR M := rfl
theorem mN_wAJ (M : Mem) (a k : Nat) (v : Int64) : mN (wAJ M a k v) = mN M := rfl
theorem mS_wAJ (M : Mem) (a k : Nat) (v : Int64) : mS (wAJ M a k v) = mS M := rfl
theorem mK_wAJ (M : Mem) (a k : Nat) (v : Int64) : mK (wAJ M a k v) = mK M := rfl
theorem mI_wAJ (M : Mem) (a k : Nat) (v : Int64) : mI (wAJ M a k v) = mI M := rfl
theorem mJ_wAJ (M : Mem) (a k : Nat) (v : Int64) : mJ (wAJ M a k v) = mJ M := rfl
theorem mR_wAJ (M : Mem) (a k : Nat) (v : Int64) : mR (wAJ M a k v) = mR M := rfl
theorem mL_wAJ (M : Mem) (a k : Nat) (v : Int64) : mL (wAJ M a k v) = mL M := rfl
theorem mAI_wAJ (M : Mem) (a k : Nat) (v : Int64) : mAI (wAJ M a k v) = mAI M := rfl
theorem mAJ_wAJ (M : Mem) (a k : Nat) (v : Int64) (b j : Nat) : mAJ (wAJ M a k v) b j = if b = a ∧ j = k then v else mAJ M b j := rfl
theorem mAR_wAJ (M : Mem) (a k : Nat) (v : Int64) : mAR (wAJ M a k v) = mAR M := rfl
theorem mN_wAR (M : Mem) (a k : Nat) (v : Option Nat) : mN (wAR M a k v) = mN M := rfl
theorem mS_wAR (M : Mem) (a k : Nat) (v : Option Nat) : mS (wAR M a k v) = mS M := rfl
theorem mK_wAR (M : Mem) (a k : Nat) (v : Option Nat) : mK (wAR M a k v) = mK M := rfl
theorem mI_wAR (M : Mem) (a k : Nat) (v : Option Nat) : mI (wAR M a k v) = mI M := rfl
theorem mJ_wAR (M : Mem) (a k : Nat) (v : Option Nat) : mJ (wAR M a k v) = mJ M := rfl
theorem mR_wAR (M : Mem) (a k : Nat) (v : Option Nat) : mR (wAR M a k v) = mR M := rfl
theorem mL_wAR (M : Mem) (a k : Nat) (v : Option Nat) : mL (wAR M a k v) = mL M := rfl
theorem mAI_wAR (M : Mem) (a k : Nat) (v : Option Nat) : mAI (wAR M a k v) = mAI M := rfl
theorem mAJ_wAR (M : Mem) (a k : Nat) (v : Option Nat) : mAJ (wAR M a k v) = mAJ M := rfl
theorem mAR_wAR (M : Mem) (a k : Nat) (v : Option Nat) (b j : Nat) : mAR (wAR M a k v) b j = if b = a ∧ j = k then v else mAR M b j := rfl
theorem mN_nwO (M : Mem) (ci n : Nat) : mN (nwO M ci n) = mN M + 1 := rfl
theorem mN_nwA (M : Mem) (ci n : Nat) : mN (nwA M ci n) = mN M + 1 := rfl
theorem mN_wCp (M : Mem) (b a sp dp n : Nat) : mN (wCp M b a sp dp n) = mN M := rfl
theorem mS_nwO (M : Mem) (ci n : Nat) : mS (nwO M ci n) = mS M + n := rfl
theorem mS_nwA (M : Mem) (ci n : Nat) : mS (nwA M ci n) = mS M + n := rfl
theorem mS_wCp (M : Mem) (b a sp dp n : Nat) : mS (wCp M b a sp dp n) = mS M := rfl
theorem mK_nwO (M : Mem) (ci n : Nat) : mK (nwO M ci n) = va_up (mK M) (mN M) ci := rfl
theorem mK_nwA (M : Mem) (ci n : Nat) : mK (nwA M ci n) = va_up (mK M) (mN M) ci := rfl
theorem mK_wCp (M : Mem) (b a sp dp n : Nat) : mK (wCp M b a sp dp n) = mK M := rfl
theorem mI_nwO (M : Mem) (ci n : Nat) : mI (nwO M ci n) = va_up (mI M) (mN M) (fun _ => 0) := rfl
theorem mI_nwA (M : Mem) (ci n : Nat) : mI (nwA M ci n) = mI M := rfl
theorem mI_wCp (M : Mem) (b a sp dp n : Nat) : mI (wCp M b a sp dp n) = mI M := rfl
theorem mJ_nwO (M : Mem) (ci n : Nat) : mJ (nwO M ci n) = va_up (mJ M) (mN M) (fun _ => 0) := rfl
theorem mJ_nwA (M : Mem) (ci n : Nat) : mJ (nwA M ci n) = mJ M := rfl
theorem mJ_wCp (M : Mem) (b a sp dp n : Nat) : mJ (wCp M b a sp dp n) = mJ M := rfl
theorem mR_nwO (M : Mem) (ci n : Nat) : mR (nwO M ci n) = va_up (mR M) (mN M) (fun _ => none) := rfl
theorem mR_nwA (M : Mem) (ci n : Nat) : mR (nwA M ci n) = mR M := rfl
theorem mR_wCp (M : Mem) (b a sp dp n : Nat) : mR (wCp M b a sp dp n) = mR M := rfl
theorem mL_nwO (M : Mem) (ci n : Nat) : mL (nwO M ci n) = mL M := rfl
theorem mL_nwA (M : Mem) (ci n : Nat) : mL (nwA M ci n) = va_up (mL M) (mN M) n := rfl
theorem mL_wCp (M : Mem) (b a sp dp n : Nat) : mL (wCp M b a sp dp n) = mL M := rfl
theorem mAI_nwO (M : Mem) (ci n : Nat) : mAI (nwO M ci n) = mAI M := rfl
theorem mAI_nwA (M : Mem) (ci n : Nat) : mAI (nwA M ci n) = va_up (mAI M) (mN M) (fun _ => 0) := rfl
theorem mAI_wCp (M : Mem) (b a sp dp n : Nat) : mAI (wCp M b a sp dp n) = va_up (mAI M) a (va_cpy (mAI M b) (mAI M a) sp dp n) := rfl
theorem mAJ_nwO (M : Mem) (ci n : Nat) : mAJ (nwO M ci n) = mAJ M := rfl
theorem mAJ_nwA (M : Mem) (ci n : Nat) : mAJ (nwA M ci n) = va_up (mAJ M) (mN M) (fun _ => 0) := rfl
theorem mAJ_wCp (M : Mem) (b a sp dp n : Nat) : mAJ (wCp M b a sp dp n) = mAJ M := rfl
theorem mAR_nwO (M : Mem) (ci n : Nat) : mAR (nwO M ci n) = mAR M := rfl
theorem mAR_nwA (M : Mem) (ci n : Nat) : mAR (nwA M ci n) = va_up (mAR M) (mN M) (fun _ => none) := rfl
theorem mAR_wCp (M : Mem) (b a sp dp n : Nat) : mAR (wCp M b a sp dp n) = mAR M := rfl
theorem ok_wI {M : Mem} {a k b c : Nat} {v : Int32} : ok (wI M a k v) b c = ok M b c := rfl
theorem ok_wJ {M : Mem} {a k b c : Nat} {v : Int64} : ok (wJ M a k v) b c = ok M b c := rfl
theorem ok_wR {M : Mem} {a k b c : Nat} {v : Option Nat} : ok (wR M a k v) b c = ok M b c := rfl
theorem ok_wAI {M : Mem} {a k b c : Nat} {v : Int32} : ok (wAI M a k v) b c = ok M b c := rfl
theorem ok_wAJ {M : Mem} {a k b c : Nat} {v : Int64} : ok (wAJ M a k v) b c = ok M b c := rfl
theorem ok_wAR {M : Mem} {a k b c : Nat} {v : Option Nat} : ok (wAR M a k v) b c = ok M b c := rfl
theorem ok_newO {M : Mem} {ci n : Nat} : ok (nwO M ci n) (mN M) ci := ⟨Nat.lt_succ_self _, va_up_self _ _ _⟩
theorem ok_newA {M : Mem} {ci n : Nat} : ok (nwA M ci n) (mN M) ci := ⟨Nat.lt_succ_self _, va_up_self _ _ _⟩
