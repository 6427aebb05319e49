/-! ===== the law's cases that stand in its loop, as functions ===== -/
def lc_follow (xm : Nat → Option kE) (N : Nat) (D : kM → dRes) (x v51 v58 v65 v73 v81 : Int32) (m90 : kM) : dRes :=
        dRc xm m90 1000 11 <|
        dCI (m_K_many xm N 1000 14 m90) fun v650 m650 =>
        dCI (m_law_below xm N (x >>> (4 &&& 31)) v650 m650) fun v653 m653 =>
        dRc xm m653 1000 11 <|
        dCI (m_K_would xm N 1000 v653 m653) fun v661 m661 =>
        dRc xm m661 1000 11 <|
        dCI (m_K_needs xm N 1000 v653 m661) fun v669 m669 =>
        if v58 = 0 then (
          D m669
        ) else (
          dRc xm m669 1000 11 <|
          dCI (m_K_follow xm N 1000 v653 m669) fun v685 m685 =>
          if 99 < v685 then (
            some (.inl (some (.int 0)), m685)
          ) else (
            dRc xm m685 1000 11 <|
            dCI (m_K_many xm N 1000 3 m685) fun v695 m695 =>
            dRc xm m695 1000 11 <|
            dCI (m_K_many xm N 1000 4 m695) fun v700 m700 =>
            if (v695 + v700) = v661 then (
              dRc xm m700 1000 11 <|
              dCI (m_K_many xm N 1000 1 m700) fun v711 m711 =>
              if v711 = (v51 - v669) then (
                D m711
              ) else (
                some (.inl (some (.int 0)), m711)
              )
            ) else (
              some (.inl (some (.int 0)), m700)
            )
          )
        )
def lc_latch (xm : Nat → Option kE) (N : Nat) (D : kM → dRes) (x v51 v58 v65 v73 v81 : Int32) (m90 : kM) : dRes :=
        dRc xm m90 1000 11 <|
        dCI (m_K_many xm N 1000 12 m90) fun v883 m883 =>
        if (v883 - 1) < 0 then (
          D m883
        ) else (
          dRc xm m883 1000 11 <|
          dCI (m_K_ofRun xm N 1000 (v883 - 1) 3 m883) fun v899 m899 =>
          if v899 = 0 then (
            D m899
          ) else (
            if (v58 + v65) = 24 then (
              D m899
            ) else (
              dRc xm m899 1000 11 <|
              dCI (m_K_latch xm N 1000 (v883 - 1) m899) fun v921 m921 =>
              dRc xm m921 1000 11 <|
              dCI (m_K_ofRun xm N 1000 (v883 - 1) 2 m921) fun v928 m928 =>
              if v921 = v928 then (
                dRc xm m928 1000 11 <|
                dCI (m_K_on xm N 1000 0 0 m928) fun v937 m937 =>
                dRc xm m937 1000 11 <|
                dCI (m_K_ofRun xm N 1000 (v883 - 1) 0 m937) fun v944 m944 =>
                if v937 = v944 then (
                  dRc xm m944 1000 11 <|
                  dCI (m_K_ofRun xm N 1000 (v883 - 1) 3 m944) fun v954 m954 =>
                  if v954 = 0 then (
                    dRc xm m954 1000 11 <|
                    dCI (m_K_many xm N 1000 3 m954) fun v962 m962 =>
                    if v962 = (v58 + 1) then (
                      D m962
                    ) else (
                      some (.inl (some (.int 0)), m962)
                    )
                  ) else (
                    some (.inl (some (.int 0)), m954)
                  )
                ) else (
                  some (.inl (some (.int 0)), m944)
                )
              ) else (
                some (.inl (some (.int 0)), m928)
              )
            )
          )
        )
def lc_bind (xm : Nat → Option kE) (N : Nat) (D : kM → dRes) (x v51 v58 v65 v73 v81 : Int32) (m90 : kM) : dRes :=
        dCI (m_law_below xm N (x >>> (4 &&& 31)) 3 m90) fun v980 m980 =>
        if (1 + v980) < v65 then (
          dRc xm m980 1000 11 <|
          dCI (m_K_many xm N 1000 11 m980) fun v999 m999 =>
          dRc xm m999 1000 11 <|
          dCI (m_K_on xm N 1000 1 0 m999) fun v1007 m1007 =>
          dRc xm m1007 1000 11 <|
          dCI (m_K_on xm N 1000 1 1 m1007) fun v1015 m1015 =>
          dRc xm m1015 1000 11 <|
          dCI (m_K_bind xm N 1000 (1 + v980) m1015) fun v1023 m1023 =>
          if v1023 = ((v58 + v65) - (1 + v980)) then (
            dRc xm m1023 1000 11 <|
            dCI (m_K_many xm N 1000 11 m1023) fun v1040 m1040 =>
            if v1040 = (v999 + (1 + v980)) then (
              dRc xm m1040 1000 11 <|
              dCI (m_K_on xm N 1000 1 0 m1040) fun v1054 m1054 =>
              if v1054 = v1007 then (
                dRc xm m1054 1000 11 <|
                dCI (m_K_ofLoop xm N 1000 v1015 5 m1054) fun v1066 m1066 =>
                if v1066 = 3 then (
                  dRc xm m1066 1000 11 <|
                  dCI (m_K_many xm N 1000 1 m1066) fun v1075 m1075 =>
                  if v1075 = v51 then (
                    D m1075
                  ) else (
                    some (.inl (some (.int 0)), m1075)
                  )
                ) else (
                  some (.inl (some (.int 0)), m1066)
                )
              ) else (
                some (.inl (some (.int 0)), m1054)
              )
            ) else (
              some (.inl (some (.int 0)), m1040)
            )
          ) else (
            some (.inl (some (.int 0)), m1023)
          )
        ) else (
          D m980
        )
def lc_cross (xm : Nat → Option kE) (N : Nat) (D : kM → dRes) (x v51 v58 v65 v73 v81 : Int32) (m90 : kM) : dRes :=
        dCI (m_law_below xm N (x >>> (4 &&& 31)) 3 m90) fun v1091 m1091 =>
        dCI (m_law_below xm N (x >>> (6 &&& 31)) 3 m1091) fun v1104 m1104 =>
        if v58 < ((1 + v1091) + (1 + v1104)) then (
          D m1104
        ) else (
          dRc xm m1104 1000 11 <|
          dCI (m_K_on xm N 1000 0 (1 + v1091) m1104) fun v1127 m1127 =>
          dRc xm m1127 1000 11 <|
          dCI (m_K_many xm N 1000 9 m1127) fun v1135 m1135 =>
          dRc xm m1135 1000 11 <|
          dCI (m_K_cross xm N 1000 (1 + v1091) (1 + v1104) m1135) fun v1145 m1145 =>
          if v1145 = v1127 then (
            dRc xm m1145 1000 11 <|
            dCI (m_K_on xm N 1000 0 (1 + v1104) m1145) fun v1157 m1157 =>
            if v1157 = v81 then (
              dRc xm m1157 1000 11 <|
              dCI (m_K_many xm N 1000 9 m1157) fun v1168 m1168 =>
              if v1168 = (v1135 + 1) then (
                dRc xm m1168 1000 11 <|
                dCI (m_K_many xm N 1000 3 m1168) fun v1180 m1180 =>
                if v1180 = v58 then (
                  D m1180
                ) else (
                  some (.inl (some (.int 0)), m1180)
                )
              ) else (
                some (.inl (some (.int 0)), m1168)
              )
            ) else (
              some (.inl (some (.int 0)), m1157)
            )
          ) else (
            some (.inl (some (.int 0)), m1145)
          )
        )
def lc_cast (xm : Nat → Option kE) (N : Nat) (D : kM → dRes) (x v51 v58 v65 v73 v81 : Int32) (m90 : kM) : dRes :=
        dCI (m_law_below xm N (x >>> (4 &&& 31)) 4 m90) fun v1196 m1196 =>
        if 24 < ((v58 + v65) + (1 + v1196)) then (
          D m1196
        ) else (
          dRc xm m1196 1000 11 <|
          dCI (m_K_many xm N 1000 2 m1196) fun v1218 m1218 =>
          dRc xm m1218 1000 11 <|
          dCI (m_K_left xm N 1000 v1218 m1218) fun v1221 m1221 =>
          if v1221 < (2 * (1 + v1196)) then (
            D m1221
          ) else (
            dRc xm m1221 1000 11 <|
            dCI (m_K_cast xm N 1000 (1 + v1196) m1221) fun v1237 m1237 =>
            if v1237 = ((v58 + v65) + (1 + v1196)) then (
              dRc xm m1237 1000 11 <|
              dCI (m_K_many xm N 1000 7 m1237) fun v1254 m1254 =>
              if v1254 = (v73 + (1 + v1196)) then (
                dRc xm m1254 1000 11 <|
                dCI (m_K_many xm N 1000 1 m1254) fun v1267 m1267 =>
                if v1267 = (v51 - (2 * (1 + v1196))) then (
                  dRc xm m1267 1000 11 <|
                  dCI (m_K_ofLoop xm N 1000 v73 0 m1267) fun v1284 m1284 =>
                  if v1284 = 0 then (
                    dRc xm m1284 1000 11 <|
                    dCI (m_K_ofLoop xm N 1000 v73 3 m1284) fun v1294 m1294 =>
                    if v1294 = 1 then (
                      D m1294
                    ) else (
                      some (.inl (some (.int 0)), m1294)
                    )
                  ) else (
                    some (.inl (some (.int 0)), m1284)
                  )
                ) else (
                  some (.inl (some (.int 0)), m1267)
                )
              ) else (
                some (.inl (some (.int 0)), m1254)
              )
            ) else (
              some (.inl (some (.int 0)), m1237)
            )
          )
        )
