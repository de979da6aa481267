theorem wide_0 (v : Int32) : Jvm.Free.Fl.Fin32 (FP.i2f v) := Jvm.Free.Fl.i2f_fin v
