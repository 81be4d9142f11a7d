theorem hm_ci (x : Int32) : (Value.int x).category = 1 := rfl
theorem hm_cl (x : Int64) : (Value.long x).category = 2 := rfl
theorem hm_cr (x : Nat) : (Value.ref x).category = 1 := rfl
theorem hm_cat2 (r : Option Nat) : ((va_rf r).category == 2) = false := by cases r <;> rfl
theorem hm_sl_q (r : Option Nat) (vs : List Value) : lg_sl (va_rf r :: vs) = .val (va_rf r) :: lg_sl vs := by cases r <;> rfl
theorem hm_sl_r (r : Nat) (vs : List Value) : lg_sl (.ref r :: vs) = .val (.ref r) :: lg_sl vs := rfl
theorem hm_sl_i (x : Int32) (vs : List Value) : lg_sl (.int x :: vs) = .val (.int x) :: lg_sl vs := rfl
theorem hm_sl_l (x : Int64) (vs : List Value) : lg_sl (.long x :: vs) = .val (.long x) :: .second :: lg_sl vs := rfl
theorem hm_sl_n : lg_sl [] = [] := rfl
theorem hm_ar_q (i : Nat) (r : Option Nat) (vs : List Value) : lv_args i (va_rf r :: vs) = (i, va_rf r) :: lv_args (i + 1) vs := by cases r <;> rfl
theorem hm_ar_r (i : Nat) (r : Nat) (vs : List Value) : lv_args i (.ref r :: vs) = (i, va_rf (some r)) :: lv_args (i + 1) vs := rfl
theorem hm_ar_i (i : Nat) (x : Int32) (vs : List Value) : lv_args i (.int x :: vs) = (i, .int x) :: lv_args (i + 1) vs := rfl
theorem hm_ar_l (i : Nat) (x : Int64) (vs : List Value) : lv_args i (.long x :: vs) = (i, .long x) :: lv_args (i + 2) vs := rfl
theorem hm_ar_n (i : Nat) : lv_args i [] = [] := rfl
