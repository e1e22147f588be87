theorem zw_0 : True := (fun _ => trivial) (@Jvm.Free.ALB.idxFrom)
