theorem T_has (k : Int32) (b : Int64) (f : Int32) : fX1_has k b f = fX3_has k b f := sorry
theorem T_widens (a b : Int32) (f : Int32) : fX1_widens a b f = fX3_widens a b f := sorry
theorem T_cast (a b : Int32) (x : Int64) (f : Int32) : fX1_cast a b x f = fX3_cast a b x f := sorry
theorem T_work (w k : Int32) (x : Int64) (o : Int32) (y : Int64) (f : Int32) : fX1_work w k x o y f = fX3_work w k x o y f := sorry
theorem T_shift (w k : Int32) (x y : Int64) (f : Int32) : fX1_shift w k x y f = fX3_shift w k x y f := sorry
theorem T_compare (k : Int32) (x : Int64) (o : Int32) (y : Int64) (f : Int32) : fX1_compare k x o y f = fX3_compare k x o y f := sorry
theorem T_order (k : Int32) (x y : Int64) (f : Int32) : fX1_order k x y f = fX3_order k x y f := sorry
theorem T_failed (f : Int32) : fX1_failed f = fX3_failed f := rfl
theorem O_has (k : Int32) (b : Int64) (f : Int32) : okX3_has k b f := sorry
theorem O_cast (a b : Int32) (x : Int64) (f : Int32) : okX3_cast a b x f := sorry
theorem O_work (w k : Int32) (x : Int64) (o : Int32) (y : Int64) (f : Int32) : okX3_work w k x o y f := sorry
theorem O_shift (w k : Int32) (x y : Int64) (f : Int32) : okX3_shift w k x y f := sorry
theorem O_compare (k : Int32) (x : Int64) (o : Int32) (y : Int64) (f : Int32) : okX3_compare k x o y f := sorry
theorem O_order (k : Int32) (x y : Int64) (f : Int32) : okX3_order k x y f := sorry
